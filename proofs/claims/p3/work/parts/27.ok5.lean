abbrev t_Rd_takeNewName_52 : List UInt8 := 173 :: []
abbrev t_Rd_takeNewName_51 : List UInt8 := 31 :: t_Rd_takeNewName_52
abbrev t_Rd_takeNewName_48 : List UInt8 := 182 :: 0 :: 63 :: t_Rd_takeNewName_51
abbrev t_Rd_takeNewName_47 : List UInt8 := 42 :: t_Rd_takeNewName_48
abbrev t_Rd_takeNewName_46 : List UInt8 := 173 :: t_Rd_takeNewName_47
abbrev t_Rd_takeNewName_45 : List UInt8 := 9 :: t_Rd_takeNewName_46
abbrev t_Rd_takeNewName_42 : List UInt8 := 182 :: 0 :: 108 :: t_Rd_takeNewName_45
abbrev t_Rd_takeNewName_41 : List UInt8 := 42 :: t_Rd_takeNewName_42
abbrev t_Rd_takeNewName_38 : List UInt8 := 161 :: 0 :: 9 :: t_Rd_takeNewName_41
abbrev t_Rd_takeNewName_36 : List UInt8 := 16 :: 40 :: t_Rd_takeNewName_38
abbrev t_Rd_takeNewName_33 : List UInt8 := 180 :: 0 :: 182 :: t_Rd_takeNewName_36
abbrev t_Rd_takeNewName_30 : List UInt8 := 180 :: 0 :: 44 :: t_Rd_takeNewName_33
abbrev t_Rd_takeNewName_29 : List UInt8 := 42 :: t_Rd_takeNewName_30
abbrev t_Rd_takeNewName_26 : List UInt8 := 156 :: 0 :: 15 :: t_Rd_takeNewName_29
abbrev t_Rd_takeNewName_23 : List UInt8 := 182 :: 0 :: 178 :: t_Rd_takeNewName_26
abbrev t_Rd_takeNewName_22 : List UInt8 := 31 :: t_Rd_takeNewName_23
abbrev t_Rd_takeNewName_19 : List UInt8 := 180 :: 0 :: 44 :: t_Rd_takeNewName_22
abbrev t_Rd_takeNewName_18 : List UInt8 := 42 :: t_Rd_takeNewName_19
abbrev t_Rd_takeNewName_15 : List UInt8 := 160 :: 0 :: 26 :: t_Rd_takeNewName_18
abbrev t_Rd_takeNewName_13 : List UInt8 := 16 :: 30 :: t_Rd_takeNewName_15
abbrev t_Rd_takeNewName_10 : List UInt8 := 180 :: 0 :: 66 :: t_Rd_takeNewName_13
abbrev t_Rd_takeNewName_9 : List UInt8 := 42 :: t_Rd_takeNewName_10
abbrev t_Rd_takeNewName_8 : List UInt8 := 64 :: t_Rd_takeNewName_9
abbrev t_Rd_takeNewName_5 : List UInt8 := 180 :: 0 :: 143 :: t_Rd_takeNewName_8
abbrev t_Rd_takeNewName_4 : List UInt8 := 42 :: t_Rd_takeNewName_5
abbrev t_Rd_takeNewName_1 : List UInt8 := 182 :: 0 :: 63 :: t_Rd_takeNewName_4
abbrev t_Rd_takeNewName_0 : List UInt8 := 42 :: t_Rd_takeNewName_1
theorem a_Rd_takeNewName_0 : dk_at b_Rd_takeNewName 0 t_Rd_takeNewName_0 := dk_start (by decide +kernel)
theorem a_Rd_takeNewName_1 : dk_at b_Rd_takeNewName 1 t_Rd_takeNewName_1 := dk_go 1 a_Rd_takeNewName_0 rfl
theorem a_Rd_takeNewName_4 : dk_at b_Rd_takeNewName 4 t_Rd_takeNewName_4 := dk_go 3 a_Rd_takeNewName_1 rfl
theorem a_Rd_takeNewName_5 : dk_at b_Rd_takeNewName 5 t_Rd_takeNewName_5 := dk_go 1 a_Rd_takeNewName_4 rfl
theorem a_Rd_takeNewName_8 : dk_at b_Rd_takeNewName 8 t_Rd_takeNewName_8 := dk_go 3 a_Rd_takeNewName_5 rfl
theorem a_Rd_takeNewName_9 : dk_at b_Rd_takeNewName 9 t_Rd_takeNewName_9 := dk_go 1 a_Rd_takeNewName_8 rfl
theorem a_Rd_takeNewName_10 : dk_at b_Rd_takeNewName 10 t_Rd_takeNewName_10 := dk_go 1 a_Rd_takeNewName_9 rfl
theorem a_Rd_takeNewName_13 : dk_at b_Rd_takeNewName 13 t_Rd_takeNewName_13 := dk_go 3 a_Rd_takeNewName_10 rfl
theorem a_Rd_takeNewName_15 : dk_at b_Rd_takeNewName 15 t_Rd_takeNewName_15 := dk_go 2 a_Rd_takeNewName_13 rfl
theorem a_Rd_takeNewName_18 : dk_at b_Rd_takeNewName 18 t_Rd_takeNewName_18 := dk_go 3 a_Rd_takeNewName_15 rfl
theorem a_Rd_takeNewName_19 : dk_at b_Rd_takeNewName 19 t_Rd_takeNewName_19 := dk_go 1 a_Rd_takeNewName_18 rfl
theorem a_Rd_takeNewName_22 : dk_at b_Rd_takeNewName 22 t_Rd_takeNewName_22 := dk_go 3 a_Rd_takeNewName_19 rfl
theorem a_Rd_takeNewName_23 : dk_at b_Rd_takeNewName 23 t_Rd_takeNewName_23 := dk_go 1 a_Rd_takeNewName_22 rfl
theorem a_Rd_takeNewName_26 : dk_at b_Rd_takeNewName 26 t_Rd_takeNewName_26 := dk_go 3 a_Rd_takeNewName_23 rfl
theorem a_Rd_takeNewName_29 : dk_at b_Rd_takeNewName 29 t_Rd_takeNewName_29 := dk_go 3 a_Rd_takeNewName_26 rfl
theorem a_Rd_takeNewName_30 : dk_at b_Rd_takeNewName 30 t_Rd_takeNewName_30 := dk_go 1 a_Rd_takeNewName_29 rfl
theorem a_Rd_takeNewName_33 : dk_at b_Rd_takeNewName 33 t_Rd_takeNewName_33 := dk_go 3 a_Rd_takeNewName_30 rfl
theorem a_Rd_takeNewName_36 : dk_at b_Rd_takeNewName 36 t_Rd_takeNewName_36 := dk_go 3 a_Rd_takeNewName_33 rfl
theorem a_Rd_takeNewName_38 : dk_at b_Rd_takeNewName 38 t_Rd_takeNewName_38 := dk_go 2 a_Rd_takeNewName_36 rfl
theorem a_Rd_takeNewName_41 : dk_at b_Rd_takeNewName 41 t_Rd_takeNewName_41 := dk_go 3 a_Rd_takeNewName_38 rfl
theorem a_Rd_takeNewName_42 : dk_at b_Rd_takeNewName 42 t_Rd_takeNewName_42 := dk_go 1 a_Rd_takeNewName_41 rfl
theorem a_Rd_takeNewName_45 : dk_at b_Rd_takeNewName 45 t_Rd_takeNewName_45 := dk_go 3 a_Rd_takeNewName_42 rfl
theorem a_Rd_takeNewName_46 : dk_at b_Rd_takeNewName 46 t_Rd_takeNewName_46 := dk_go 1 a_Rd_takeNewName_45 rfl
theorem a_Rd_takeNewName_47 : dk_at b_Rd_takeNewName 47 t_Rd_takeNewName_47 := dk_go 1 a_Rd_takeNewName_46 rfl
theorem a_Rd_takeNewName_48 : dk_at b_Rd_takeNewName 48 t_Rd_takeNewName_48 := dk_go 1 a_Rd_takeNewName_47 rfl
theorem a_Rd_takeNewName_51 : dk_at b_Rd_takeNewName 51 t_Rd_takeNewName_51 := dk_go 3 a_Rd_takeNewName_48 rfl
theorem a_Rd_takeNewName_52 : dk_at b_Rd_takeNewName 52 t_Rd_takeNewName_52 := dk_go 1 a_Rd_takeNewName_51 rfl
theorem d_Rd_takeNewName_0 : decode b_Rd_takeNewName 0 = .ok (.aload_n 0, 1) := dk_0 a_Rd_takeNewName_0 (dko_42 _)
theorem d_Rd_takeNewName_1 : decode b_Rd_takeNewName 1 = .ok (.invokevirtual 63, 3) := dk_U2 a_Rd_takeNewName_1 (dko_182 _) rfl
theorem d_Rd_takeNewName_4 : decode b_Rd_takeNewName 4 = .ok (.aload_n 0, 1) := dk_0 a_Rd_takeNewName_4 (dko_42 _)
theorem d_Rd_takeNewName_5 : decode b_Rd_takeNewName 5 = .ok (.getfield 143, 3) := dk_U2 a_Rd_takeNewName_5 (dko_180 _) rfl
theorem d_Rd_takeNewName_8 : decode b_Rd_takeNewName 8 = .ok (.lstore_n 1, 1) := dk_0 a_Rd_takeNewName_8 (dko_64 _)
theorem d_Rd_takeNewName_9 : decode b_Rd_takeNewName 9 = .ok (.aload_n 0, 1) := dk_0 a_Rd_takeNewName_9 (dko_42 _)
theorem d_Rd_takeNewName_10 : decode b_Rd_takeNewName 10 = .ok (.getfield 66, 3) := dk_U2 a_Rd_takeNewName_10 (dko_180 _) rfl
theorem d_Rd_takeNewName_13 : decode b_Rd_takeNewName 13 = .ok (.bipush 30, 2) := dk_S1 a_Rd_takeNewName_13 (dko_16 _) (by decide +kernel)
theorem d_Rd_takeNewName_15 : decode b_Rd_takeNewName 15 = .ok (.if_icmp .ne 26, 3) := dk_S2 a_Rd_takeNewName_15 (dko_160 _) (by decide +kernel)
theorem d_Rd_takeNewName_18 : decode b_Rd_takeNewName 18 = .ok (.aload_n 0, 1) := dk_0 a_Rd_takeNewName_18 (dko_42 _)
theorem d_Rd_takeNewName_19 : decode b_Rd_takeNewName 19 = .ok (.getfield 44, 3) := dk_U2 a_Rd_takeNewName_19 (dko_180 _) rfl
theorem d_Rd_takeNewName_22 : decode b_Rd_takeNewName 22 = .ok (.lload_n 1, 1) := dk_0 a_Rd_takeNewName_22 (dko_31 _)
theorem d_Rd_takeNewName_23 : decode b_Rd_takeNewName 23 = .ok (.invokevirtual 178, 3) := dk_U2 a_Rd_takeNewName_23 (dko_182 _) rfl
theorem d_Rd_takeNewName_26 : decode b_Rd_takeNewName 26 = .ok (.ifCond .ge 15, 3) := dk_S2 a_Rd_takeNewName_26 (dko_156 _) (by decide +kernel)
theorem d_Rd_takeNewName_29 : decode b_Rd_takeNewName 29 = .ok (.aload_n 0, 1) := dk_0 a_Rd_takeNewName_29 (dko_42 _)
theorem d_Rd_takeNewName_30 : decode b_Rd_takeNewName 30 = .ok (.getfield 44, 3) := dk_U2 a_Rd_takeNewName_30 (dko_180 _) rfl
theorem d_Rd_takeNewName_33 : decode b_Rd_takeNewName 33 = .ok (.getfield 182, 3) := dk_U2 a_Rd_takeNewName_33 (dko_180 _) rfl
theorem d_Rd_takeNewName_36 : decode b_Rd_takeNewName 36 = .ok (.bipush 40, 2) := dk_S1 a_Rd_takeNewName_36 (dko_16 _) (by decide +kernel)
theorem d_Rd_takeNewName_38 : decode b_Rd_takeNewName 38 = .ok (.if_icmp .lt 9, 3) := dk_S2 a_Rd_takeNewName_38 (dko_161 _) (by decide +kernel)
theorem d_Rd_takeNewName_41 : decode b_Rd_takeNewName 41 = .ok (.aload_n 0, 1) := dk_0 a_Rd_takeNewName_41 (dko_42 _)
theorem d_Rd_takeNewName_42 : decode b_Rd_takeNewName 42 = .ok (.invokevirtual 108, 3) := dk_U2 a_Rd_takeNewName_42 (dko_182 _) rfl
theorem d_Rd_takeNewName_45 : decode b_Rd_takeNewName 45 = .ok (.lconst 0, 1) := dk_0 a_Rd_takeNewName_45 (dko_9 _)
theorem d_Rd_takeNewName_46 : decode b_Rd_takeNewName 46 = .ok (.lreturn, 1) := dk_0 a_Rd_takeNewName_46 (dko_173 _)
theorem d_Rd_takeNewName_47 : decode b_Rd_takeNewName 47 = .ok (.aload_n 0, 1) := dk_0 a_Rd_takeNewName_47 (dko_42 _)
theorem d_Rd_takeNewName_48 : decode b_Rd_takeNewName 48 = .ok (.invokevirtual 63, 3) := dk_U2 a_Rd_takeNewName_48 (dko_182 _) rfl
theorem d_Rd_takeNewName_51 : decode b_Rd_takeNewName 51 = .ok (.lload_n 1, 1) := dk_0 a_Rd_takeNewName_51 (dko_31 _)
theorem d_Rd_takeNewName_52 : decode b_Rd_takeNewName 52 = .ok (.lreturn, 1) := dk_0 a_Rd_takeNewName_52 (dko_173 _)
set_option maxHeartbeats 4000000 in
set_option maxRecDepth 100000 in
theorem ok_Rd_takeNewName (pc : Nat) : OpS mt mi_Rd_takeNewName pc (cs_Rd_takeNewName pc) := (os_n (os_n (os_n (os_n (os_l (so_aload_n d_Rd_takeNewName_0 rfl)) (os_n (os_l (so_callV (iv := mi_Rd_nextWord) rfl rfl rfl mw_887 mw_889 sl_20 mw_13 mw_890 ⟨by decide +kernel, by decide +kernel, by decide +kernel⟩ (by decide) d_Rd_takeNewName_1)) (os_l (so_aload_n d_Rd_takeNewName_4 rfl)))) (os_n (os_l (so_get (C := R_Rd) (T := F_Rd) (N := 13) (j := 5) in_Rd rfl (by decide) mw_641 d_Rd_takeNewName_5)) (os_n (os_l (so_lstore_n d_Rd_takeNewName_8 rfl (by decide))) (os_l (so_aload_n d_Rd_takeNewName_9 rfl))))) (os_n (os_n (os_l (so_get (C := R_Rd) (T := F_Rd) (N := 13) (j := 3) in_Rd rfl (by decide) mw_639 d_Rd_takeNewName_10)) (os_n (os_l (so_bipush d_Rd_takeNewName_13 (by decide))) (os_l (so_icne d_Rd_takeNewName_15 (by decide))))) (os_n (os_n (os_l (so_aload_n d_Rd_takeNewName_18 rfl)) (os_l (so_get (C := R_Rd) (T := F_Rd) (N := 13) (j := 1) in_Rd rfl (by decide) mw_637 d_Rd_takeNewName_19))) (os_n (os_l (so_lload_n d_Rd_takeNewName_22 rfl)) (os_l (so_callV (iv := mi_Pr_find) rfl rfl rfl mw_923 mw_924 mw_925 mw_12 mw_926 ⟨by decide +kernel, by decide +kernel, by decide +kernel⟩ (by decide) d_Rd_takeNewName_23)))))) (os_n (os_n (os_n (os_l (so_ifge d_Rd_takeNewName_26 (by decide))) (os_n (os_l (so_aload_n d_Rd_takeNewName_29 rfl)) (os_l (so_get (C := R_Rd) (T := F_Rd) (N := 13) (j := 1) in_Rd rfl (by decide) mw_637 d_Rd_takeNewName_30)))) (os_n (os_n (os_l (so_get (C := R_Pr) (T := F_Pr) (N := 18) (j := 10) in_Pr rfl (by decide) mw_458 d_Rd_takeNewName_33)) (os_l (so_bipush d_Rd_takeNewName_36 (by decide)))) (os_n (os_l (so_iclt d_Rd_takeNewName_38 (by decide))) (os_l (so_aload_n d_Rd_takeNewName_41 rfl))))) (os_n (os_n (os_l (so_callV (iv := mi_Rd_fail) rfl rfl rfl mw_915 mw_917 sl_24 mw_13 mw_918 ⟨by decide +kernel, by decide +kernel, by decide +kernel⟩ (by decide) d_Rd_takeNewName_42)) (os_n (os_l (so_lconst d_Rd_takeNewName_45 (by decide))) (os_l (so_lreturn rfl d_Rd_takeNewName_46)))) (os_n (os_n (os_l (so_aload_n d_Rd_takeNewName_47 rfl)) (os_l (so_callV (iv := mi_Rd_nextWord) rfl rfl rfl mw_887 mw_889 sl_20 mw_13 mw_890 ⟨by decide +kernel, by decide +kernel, by decide +kernel⟩ (by decide) d_Rd_takeNewName_48))) (os_n (os_l (so_lload_n d_Rd_takeNewName_51 rfl)) (os_l (so_lreturn rfl d_Rd_takeNewName_52)))))))
abbrev t_Rd_takeUnit_35 : List UInt8 := 172 :: []
abbrev t_Rd_takeUnit_34 : List UInt8 := 27 :: t_Rd_takeUnit_35
abbrev t_Rd_takeUnit_31 : List UInt8 := 182 :: 0 :: 63 :: t_Rd_takeUnit_34
abbrev t_Rd_takeUnit_30 : List UInt8 := 42 :: t_Rd_takeUnit_31
abbrev t_Rd_takeUnit_29 : List UInt8 := 60 :: t_Rd_takeUnit_30
abbrev t_Rd_takeUnit_26 : List UInt8 := 180 :: 0 :: 66 :: t_Rd_takeUnit_29
abbrev t_Rd_takeUnit_25 : List UInt8 := 42 :: t_Rd_takeUnit_26
abbrev t_Rd_takeUnit_24 : List UInt8 := 172 :: t_Rd_takeUnit_25
abbrev t_Rd_takeUnit_23 : List UInt8 := 3 :: t_Rd_takeUnit_24
abbrev t_Rd_takeUnit_20 : List UInt8 := 164 :: 0 :: 5 :: t_Rd_takeUnit_23
abbrev t_Rd_takeUnit_19 : List UInt8 := 8 :: t_Rd_takeUnit_20
abbrev t_Rd_takeUnit_16 : List UInt8 := 180 :: 0 :: 66 :: t_Rd_takeUnit_19
abbrev t_Rd_takeUnit_15 : List UInt8 := 42 :: t_Rd_takeUnit_16
abbrev t_Rd_takeUnit_12 : List UInt8 := 161 :: 0 :: 11 :: t_Rd_takeUnit_15
abbrev t_Rd_takeUnit_11 : List UInt8 := 4 :: t_Rd_takeUnit_12
abbrev t_Rd_takeUnit_8 : List UInt8 := 180 :: 0 :: 66 :: t_Rd_takeUnit_11
abbrev t_Rd_takeUnit_7 : List UInt8 := 42 :: t_Rd_takeUnit_8
abbrev t_Rd_takeUnit_4 : List UInt8 := 156 :: 0 :: 19 :: t_Rd_takeUnit_7
abbrev t_Rd_takeUnit_1 : List UInt8 := 180 :: 0 :: 60 :: t_Rd_takeUnit_4
abbrev t_Rd_takeUnit_0 : List UInt8 := 42 :: t_Rd_takeUnit_1
theorem a_Rd_takeUnit_0 : dk_at b_Rd_takeUnit 0 t_Rd_takeUnit_0 := dk_start (by decide +kernel)
theorem a_Rd_takeUnit_1 : dk_at b_Rd_takeUnit 1 t_Rd_takeUnit_1 := dk_go 1 a_Rd_takeUnit_0 rfl
theorem a_Rd_takeUnit_4 : dk_at b_Rd_takeUnit 4 t_Rd_takeUnit_4 := dk_go 3 a_Rd_takeUnit_1 rfl
theorem a_Rd_takeUnit_7 : dk_at b_Rd_takeUnit 7 t_Rd_takeUnit_7 := dk_go 3 a_Rd_takeUnit_4 rfl
theorem a_Rd_takeUnit_8 : dk_at b_Rd_takeUnit 8 t_Rd_takeUnit_8 := dk_go 1 a_Rd_takeUnit_7 rfl
theorem a_Rd_takeUnit_11 : dk_at b_Rd_takeUnit 11 t_Rd_takeUnit_11 := dk_go 3 a_Rd_takeUnit_8 rfl
theorem a_Rd_takeUnit_12 : dk_at b_Rd_takeUnit 12 t_Rd_takeUnit_12 := dk_go 1 a_Rd_takeUnit_11 rfl
theorem a_Rd_takeUnit_15 : dk_at b_Rd_takeUnit 15 t_Rd_takeUnit_15 := dk_go 3 a_Rd_takeUnit_12 rfl
theorem a_Rd_takeUnit_16 : dk_at b_Rd_takeUnit 16 t_Rd_takeUnit_16 := dk_go 1 a_Rd_takeUnit_15 rfl
theorem a_Rd_takeUnit_19 : dk_at b_Rd_takeUnit 19 t_Rd_takeUnit_19 := dk_go 3 a_Rd_takeUnit_16 rfl
theorem a_Rd_takeUnit_20 : dk_at b_Rd_takeUnit 20 t_Rd_takeUnit_20 := dk_go 1 a_Rd_takeUnit_19 rfl
theorem a_Rd_takeUnit_23 : dk_at b_Rd_takeUnit 23 t_Rd_takeUnit_23 := dk_go 3 a_Rd_takeUnit_20 rfl
theorem a_Rd_takeUnit_24 : dk_at b_Rd_takeUnit 24 t_Rd_takeUnit_24 := dk_go 1 a_Rd_takeUnit_23 rfl
theorem a_Rd_takeUnit_25 : dk_at b_Rd_takeUnit 25 t_Rd_takeUnit_25 := dk_go 1 a_Rd_takeUnit_24 rfl
theorem a_Rd_takeUnit_26 : dk_at b_Rd_takeUnit 26 t_Rd_takeUnit_26 := dk_go 1 a_Rd_takeUnit_25 rfl
theorem a_Rd_takeUnit_29 : dk_at b_Rd_takeUnit 29 t_Rd_takeUnit_29 := dk_go 3 a_Rd_takeUnit_26 rfl
theorem a_Rd_takeUnit_30 : dk_at b_Rd_takeUnit 30 t_Rd_takeUnit_30 := dk_go 1 a_Rd_takeUnit_29 rfl
theorem a_Rd_takeUnit_31 : dk_at b_Rd_takeUnit 31 t_Rd_takeUnit_31 := dk_go 1 a_Rd_takeUnit_30 rfl
theorem a_Rd_takeUnit_34 : dk_at b_Rd_takeUnit 34 t_Rd_takeUnit_34 := dk_go 3 a_Rd_takeUnit_31 rfl
theorem a_Rd_takeUnit_35 : dk_at b_Rd_takeUnit 35 t_Rd_takeUnit_35 := dk_go 1 a_Rd_takeUnit_34 rfl
theorem d_Rd_takeUnit_0 : decode b_Rd_takeUnit 0 = .ok (.aload_n 0, 1) := dk_0 a_Rd_takeUnit_0 (dko_42 _)
theorem d_Rd_takeUnit_1 : decode b_Rd_takeUnit 1 = .ok (.getfield 60, 3) := dk_U2 a_Rd_takeUnit_1 (dko_180 _) rfl
theorem d_Rd_takeUnit_4 : decode b_Rd_takeUnit 4 = .ok (.ifCond .ge 19, 3) := dk_S2 a_Rd_takeUnit_4 (dko_156 _) (by decide +kernel)
theorem d_Rd_takeUnit_7 : decode b_Rd_takeUnit 7 = .ok (.aload_n 0, 1) := dk_0 a_Rd_takeUnit_7 (dko_42 _)
theorem d_Rd_takeUnit_8 : decode b_Rd_takeUnit 8 = .ok (.getfield 66, 3) := dk_U2 a_Rd_takeUnit_8 (dko_180 _) rfl
theorem d_Rd_takeUnit_11 : decode b_Rd_takeUnit 11 = .ok (.iconst 1, 1) := dk_0 a_Rd_takeUnit_11 (dko_4 _)
theorem d_Rd_takeUnit_12 : decode b_Rd_takeUnit 12 = .ok (.if_icmp .lt 11, 3) := dk_S2 a_Rd_takeUnit_12 (dko_161 _) (by decide +kernel)
theorem d_Rd_takeUnit_15 : decode b_Rd_takeUnit 15 = .ok (.aload_n 0, 1) := dk_0 a_Rd_takeUnit_15 (dko_42 _)
theorem d_Rd_takeUnit_16 : decode b_Rd_takeUnit 16 = .ok (.getfield 66, 3) := dk_U2 a_Rd_takeUnit_16 (dko_180 _) rfl
theorem d_Rd_takeUnit_19 : decode b_Rd_takeUnit 19 = .ok (.iconst 5, 1) := dk_0 a_Rd_takeUnit_19 (dko_8 _)
theorem d_Rd_takeUnit_20 : decode b_Rd_takeUnit 20 = .ok (.if_icmp .le 5, 3) := dk_S2 a_Rd_takeUnit_20 (dko_164 _) (by decide +kernel)
theorem d_Rd_takeUnit_23 : decode b_Rd_takeUnit 23 = .ok (.iconst 0, 1) := dk_0 a_Rd_takeUnit_23 (dko_3 _)
theorem d_Rd_takeUnit_24 : decode b_Rd_takeUnit 24 = .ok (.ireturn, 1) := dk_0 a_Rd_takeUnit_24 (dko_172 _)
theorem d_Rd_takeUnit_25 : decode b_Rd_takeUnit 25 = .ok (.aload_n 0, 1) := dk_0 a_Rd_takeUnit_25 (dko_42 _)
theorem d_Rd_takeUnit_26 : decode b_Rd_takeUnit 26 = .ok (.getfield 66, 3) := dk_U2 a_Rd_takeUnit_26 (dko_180 _) rfl
theorem d_Rd_takeUnit_29 : decode b_Rd_takeUnit 29 = .ok (.istore_n 1, 1) := dk_0 a_Rd_takeUnit_29 (dko_60 _)
theorem d_Rd_takeUnit_30 : decode b_Rd_takeUnit 30 = .ok (.aload_n 0, 1) := dk_0 a_Rd_takeUnit_30 (dko_42 _)
theorem d_Rd_takeUnit_31 : decode b_Rd_takeUnit 31 = .ok (.invokevirtual 63, 3) := dk_U2 a_Rd_takeUnit_31 (dko_182 _) rfl
theorem d_Rd_takeUnit_34 : decode b_Rd_takeUnit 34 = .ok (.iload_n 1, 1) := dk_0 a_Rd_takeUnit_34 (dko_27 _)
theorem d_Rd_takeUnit_35 : decode b_Rd_takeUnit 35 = .ok (.ireturn, 1) := dk_0 a_Rd_takeUnit_35 (dko_172 _)
set_option maxHeartbeats 4000000 in
set_option maxRecDepth 100000 in
theorem ok_Rd_takeUnit (pc : Nat) : OpS mt mi_Rd_takeUnit pc (cs_Rd_takeUnit pc) := (os_n (os_n (os_n (os_n (os_l (so_aload_n d_Rd_takeUnit_0 rfl)) (os_l (so_get (C := R_Rd) (T := F_Rd) (N := 13) (j := 9) in_Rd rfl (by decide) mw_645 d_Rd_takeUnit_1))) (os_n (os_l (so_ifge d_Rd_takeUnit_4 (by decide))) (os_n (os_l (so_aload_n d_Rd_takeUnit_7 rfl)) (os_l (so_get (C := R_Rd) (T := F_Rd) (N := 13) (j := 3) in_Rd rfl (by decide) mw_639 d_Rd_takeUnit_8))))) (os_n (os_n (os_l (so_iconst d_Rd_takeUnit_11 (by decide))) (os_l (so_iclt d_Rd_takeUnit_12 (by decide)))) (os_n (os_l (so_aload_n d_Rd_takeUnit_15 rfl)) (os_n (os_l (so_get (C := R_Rd) (T := F_Rd) (N := 13) (j := 3) in_Rd rfl (by decide) mw_639 d_Rd_takeUnit_16)) (os_l (so_iconst d_Rd_takeUnit_19 (by decide))))))) (os_n (os_n (os_n (os_l (so_icle d_Rd_takeUnit_20 (by decide))) (os_l (so_iconst d_Rd_takeUnit_23 (by decide)))) (os_n (os_l (so_ireturn rfl d_Rd_takeUnit_24)) (os_n (os_l (so_aload_n d_Rd_takeUnit_25 rfl)) (os_l (so_get (C := R_Rd) (T := F_Rd) (N := 13) (j := 3) in_Rd rfl (by decide) mw_639 d_Rd_takeUnit_26))))) (os_n (os_n (os_l (so_istore_n d_Rd_takeUnit_29 rfl (by decide))) (os_l (so_aload_n d_Rd_takeUnit_30 rfl))) (os_n (os_l (so_callV (iv := mi_Rd_nextWord) rfl rfl rfl mw_887 mw_889 sl_20 mw_13 mw_890 ⟨by decide +kernel, by decide +kernel, by decide +kernel⟩ (by decide) d_Rd_takeUnit_31)) (os_n (os_l (so_iload_n d_Rd_takeUnit_34 rfl)) (os_l (so_ireturn rfl d_Rd_takeUnit_35)))))))
abbrev t_Rd_takeName_60 : List UInt8 := 172 :: []
abbrev t_Rd_takeName_59 : List UInt8 := 28 :: t_Rd_takeName_60
abbrev t_Rd_takeName_56 : List UInt8 := 182 :: 0 :: 63 :: t_Rd_takeName_59
abbrev t_Rd_takeName_55 : List UInt8 := 42 :: t_Rd_takeName_56
abbrev t_Rd_takeName_54 : List UInt8 := 172 :: t_Rd_takeName_55
abbrev t_Rd_takeName_53 : List UInt8 := 2 :: t_Rd_takeName_54
abbrev t_Rd_takeName_50 : List UInt8 := 182 :: 0 :: 108 :: t_Rd_takeName_53
abbrev t_Rd_takeName_49 : List UInt8 := 42 :: t_Rd_takeName_50
abbrev t_Rd_takeName_46 : List UInt8 := 159 :: 0 :: 9 :: t_Rd_takeName_49
abbrev t_Rd_takeName_45 : List UInt8 := 27 :: t_Rd_takeName_46
abbrev t_Rd_takeName_44 : List UInt8 := 46 :: t_Rd_takeName_45
abbrev t_Rd_takeName_43 : List UInt8 := 28 :: t_Rd_takeName_44
abbrev t_Rd_takeName_40 : List UInt8 := 180 :: 0 :: 185 :: t_Rd_takeName_43
abbrev t_Rd_takeName_37 : List UInt8 := 180 :: 0 :: 44 :: t_Rd_takeName_40
abbrev t_Rd_takeName_36 : List UInt8 := 42 :: t_Rd_takeName_37
abbrev t_Rd_takeName_33 : List UInt8 := 155 :: 0 :: 16 :: t_Rd_takeName_36
abbrev t_Rd_takeName_32 : List UInt8 := 28 :: t_Rd_takeName_33
abbrev t_Rd_takeName_31 : List UInt8 := 61 :: t_Rd_takeName_32
abbrev t_Rd_takeName_30 : List UInt8 := 2 :: t_Rd_takeName_31
abbrev t_Rd_takeName_27 : List UInt8 := 167 :: 0 :: 4 :: t_Rd_takeName_30
abbrev t_Rd_takeName_24 : List UInt8 := 182 :: 0 :: 178 :: t_Rd_takeName_27
abbrev t_Rd_takeName_21 : List UInt8 := 180 :: 0 :: 143 :: t_Rd_takeName_24
abbrev t_Rd_takeName_20 : List UInt8 := 42 :: t_Rd_takeName_21
abbrev t_Rd_takeName_17 : List UInt8 := 180 :: 0 :: 44 :: t_Rd_takeName_20
abbrev t_Rd_takeName_16 : List UInt8 := 42 :: t_Rd_takeName_17
abbrev t_Rd_takeName_13 : List UInt8 := 160 :: 0 :: 17 :: t_Rd_takeName_16
abbrev t_Rd_takeName_11 : List UInt8 := 16 :: 30 :: t_Rd_takeName_13
abbrev t_Rd_takeName_8 : List UInt8 := 180 :: 0 :: 66 :: t_Rd_takeName_11
abbrev t_Rd_takeName_7 : List UInt8 := 42 :: t_Rd_takeName_8
abbrev t_Rd_takeName_4 : List UInt8 := 156 :: 0 :: 26 :: t_Rd_takeName_7
abbrev t_Rd_takeName_1 : List UInt8 := 180 :: 0 :: 60 :: t_Rd_takeName_4
abbrev t_Rd_takeName_0 : List UInt8 := 42 :: t_Rd_takeName_1
theorem a_Rd_takeName_0 : dk_at b_Rd_takeName 0 t_Rd_takeName_0 := dk_start (by decide +kernel)
theorem a_Rd_takeName_1 : dk_at b_Rd_takeName 1 t_Rd_takeName_1 := dk_go 1 a_Rd_takeName_0 rfl
theorem a_Rd_takeName_4 : dk_at b_Rd_takeName 4 t_Rd_takeName_4 := dk_go 3 a_Rd_takeName_1 rfl
theorem a_Rd_takeName_7 : dk_at b_Rd_takeName 7 t_Rd_takeName_7 := dk_go 3 a_Rd_takeName_4 rfl
theorem a_Rd_takeName_8 : dk_at b_Rd_takeName 8 t_Rd_takeName_8 := dk_go 1 a_Rd_takeName_7 rfl
theorem a_Rd_takeName_11 : dk_at b_Rd_takeName 11 t_Rd_takeName_11 := dk_go 3 a_Rd_takeName_8 rfl
theorem a_Rd_takeName_13 : dk_at b_Rd_takeName 13 t_Rd_takeName_13 := dk_go 2 a_Rd_takeName_11 rfl
theorem a_Rd_takeName_16 : dk_at b_Rd_takeName 16 t_Rd_takeName_16 := dk_go 3 a_Rd_takeName_13 rfl
theorem a_Rd_takeName_17 : dk_at b_Rd_takeName 17 t_Rd_takeName_17 := dk_go 1 a_Rd_takeName_16 rfl
theorem a_Rd_takeName_20 : dk_at b_Rd_takeName 20 t_Rd_takeName_20 := dk_go 3 a_Rd_takeName_17 rfl
theorem a_Rd_takeName_21 : dk_at b_Rd_takeName 21 t_Rd_takeName_21 := dk_go 1 a_Rd_takeName_20 rfl
theorem a_Rd_takeName_24 : dk_at b_Rd_takeName 24 t_Rd_takeName_24 := dk_go 3 a_Rd_takeName_21 rfl
theorem a_Rd_takeName_27 : dk_at b_Rd_takeName 27 t_Rd_takeName_27 := dk_go 3 a_Rd_takeName_24 rfl
theorem a_Rd_takeName_30 : dk_at b_Rd_takeName 30 t_Rd_takeName_30 := dk_go 3 a_Rd_takeName_27 rfl
theorem a_Rd_takeName_31 : dk_at b_Rd_takeName 31 t_Rd_takeName_31 := dk_go 1 a_Rd_takeName_30 rfl
theorem a_Rd_takeName_32 : dk_at b_Rd_takeName 32 t_Rd_takeName_32 := dk_go 1 a_Rd_takeName_31 rfl
theorem a_Rd_takeName_33 : dk_at b_Rd_takeName 33 t_Rd_takeName_33 := dk_go 1 a_Rd_takeName_32 rfl
theorem a_Rd_takeName_36 : dk_at b_Rd_takeName 36 t_Rd_takeName_36 := dk_go 3 a_Rd_takeName_33 rfl
theorem a_Rd_takeName_37 : dk_at b_Rd_takeName 37 t_Rd_takeName_37 := dk_go 1 a_Rd_takeName_36 rfl
theorem a_Rd_takeName_40 : dk_at b_Rd_takeName 40 t_Rd_takeName_40 := dk_go 3 a_Rd_takeName_37 rfl
theorem a_Rd_takeName_43 : dk_at b_Rd_takeName 43 t_Rd_takeName_43 := dk_go 3 a_Rd_takeName_40 rfl
theorem a_Rd_takeName_44 : dk_at b_Rd_takeName 44 t_Rd_takeName_44 := dk_go 1 a_Rd_takeName_43 rfl
theorem a_Rd_takeName_45 : dk_at b_Rd_takeName 45 t_Rd_takeName_45 := dk_go 1 a_Rd_takeName_44 rfl
theorem a_Rd_takeName_46 : dk_at b_Rd_takeName 46 t_Rd_takeName_46 := dk_go 1 a_Rd_takeName_45 rfl
theorem a_Rd_takeName_49 : dk_at b_Rd_takeName 49 t_Rd_takeName_49 := dk_go 3 a_Rd_takeName_46 rfl
theorem a_Rd_takeName_50 : dk_at b_Rd_takeName 50 t_Rd_takeName_50 := dk_go 1 a_Rd_takeName_49 rfl
theorem a_Rd_takeName_53 : dk_at b_Rd_takeName 53 t_Rd_takeName_53 := dk_go 3 a_Rd_takeName_50 rfl
theorem a_Rd_takeName_54 : dk_at b_Rd_takeName 54 t_Rd_takeName_54 := dk_go 1 a_Rd_takeName_53 rfl
theorem a_Rd_takeName_55 : dk_at b_Rd_takeName 55 t_Rd_takeName_55 := dk_go 1 a_Rd_takeName_54 rfl
theorem a_Rd_takeName_56 : dk_at b_Rd_takeName 56 t_Rd_takeName_56 := dk_go 1 a_Rd_takeName_55 rfl
theorem a_Rd_takeName_59 : dk_at b_Rd_takeName 59 t_Rd_takeName_59 := dk_go 3 a_Rd_takeName_56 rfl
theorem a_Rd_takeName_60 : dk_at b_Rd_takeName 60 t_Rd_takeName_60 := dk_go 1 a_Rd_takeName_59 rfl
theorem d_Rd_takeName_0 : decode b_Rd_takeName 0 = .ok (.aload_n 0, 1) := dk_0 a_Rd_takeName_0 (dko_42 _)
theorem d_Rd_takeName_1 : decode b_Rd_takeName 1 = .ok (.getfield 60, 3) := dk_U2 a_Rd_takeName_1 (dko_180 _) rfl
theorem d_Rd_takeName_4 : decode b_Rd_takeName 4 = .ok (.ifCond .ge 26, 3) := dk_S2 a_Rd_takeName_4 (dko_156 _) (by decide +kernel)
theorem d_Rd_takeName_7 : decode b_Rd_takeName 7 = .ok (.aload_n 0, 1) := dk_0 a_Rd_takeName_7 (dko_42 _)
theorem d_Rd_takeName_8 : decode b_Rd_takeName 8 = .ok (.getfield 66, 3) := dk_U2 a_Rd_takeName_8 (dko_180 _) rfl
theorem d_Rd_takeName_11 : decode b_Rd_takeName 11 = .ok (.bipush 30, 2) := dk_S1 a_Rd_takeName_11 (dko_16 _) (by decide +kernel)
theorem d_Rd_takeName_13 : decode b_Rd_takeName 13 = .ok (.if_icmp .ne 17, 3) := dk_S2 a_Rd_takeName_13 (dko_160 _) (by decide +kernel)
theorem d_Rd_takeName_16 : decode b_Rd_takeName 16 = .ok (.aload_n 0, 1) := dk_0 a_Rd_takeName_16 (dko_42 _)
theorem d_Rd_takeName_17 : decode b_Rd_takeName 17 = .ok (.getfield 44, 3) := dk_U2 a_Rd_takeName_17 (dko_180 _) rfl
theorem d_Rd_takeName_20 : decode b_Rd_takeName 20 = .ok (.aload_n 0, 1) := dk_0 a_Rd_takeName_20 (dko_42 _)
theorem d_Rd_takeName_21 : decode b_Rd_takeName 21 = .ok (.getfield 143, 3) := dk_U2 a_Rd_takeName_21 (dko_180 _) rfl
theorem d_Rd_takeName_24 : decode b_Rd_takeName 24 = .ok (.invokevirtual 178, 3) := dk_U2 a_Rd_takeName_24 (dko_182 _) rfl
theorem d_Rd_takeName_27 : decode b_Rd_takeName 27 = .ok (.goto 4, 3) := dk_S2 a_Rd_takeName_27 (dko_167 _) (by decide +kernel)
theorem d_Rd_takeName_30 : decode b_Rd_takeName 30 = .ok (.iconst (-1), 1) := dk_0 a_Rd_takeName_30 (dko_2 _)
theorem d_Rd_takeName_31 : decode b_Rd_takeName 31 = .ok (.istore_n 2, 1) := dk_0 a_Rd_takeName_31 (dko_61 _)
theorem d_Rd_takeName_32 : decode b_Rd_takeName 32 = .ok (.iload_n 2, 1) := dk_0 a_Rd_takeName_32 (dko_28 _)
theorem d_Rd_takeName_33 : decode b_Rd_takeName 33 = .ok (.ifCond .lt 16, 3) := dk_S2 a_Rd_takeName_33 (dko_155 _) (by decide +kernel)
theorem d_Rd_takeName_36 : decode b_Rd_takeName 36 = .ok (.aload_n 0, 1) := dk_0 a_Rd_takeName_36 (dko_42 _)
theorem d_Rd_takeName_37 : decode b_Rd_takeName 37 = .ok (.getfield 44, 3) := dk_U2 a_Rd_takeName_37 (dko_180 _) rfl
theorem d_Rd_takeName_40 : decode b_Rd_takeName 40 = .ok (.getfield 185, 3) := dk_U2 a_Rd_takeName_40 (dko_180 _) rfl
theorem d_Rd_takeName_43 : decode b_Rd_takeName 43 = .ok (.iload_n 2, 1) := dk_0 a_Rd_takeName_43 (dko_28 _)
theorem d_Rd_takeName_44 : decode b_Rd_takeName 44 = .ok (.iaload, 1) := dk_0 a_Rd_takeName_44 (dko_46 _)
theorem d_Rd_takeName_45 : decode b_Rd_takeName 45 = .ok (.iload_n 1, 1) := dk_0 a_Rd_takeName_45 (dko_27 _)
theorem d_Rd_takeName_46 : decode b_Rd_takeName 46 = .ok (.if_icmp .eq 9, 3) := dk_S2 a_Rd_takeName_46 (dko_159 _) (by decide +kernel)
theorem d_Rd_takeName_49 : decode b_Rd_takeName 49 = .ok (.aload_n 0, 1) := dk_0 a_Rd_takeName_49 (dko_42 _)
theorem d_Rd_takeName_50 : decode b_Rd_takeName 50 = .ok (.invokevirtual 108, 3) := dk_U2 a_Rd_takeName_50 (dko_182 _) rfl
theorem d_Rd_takeName_53 : decode b_Rd_takeName 53 = .ok (.iconst (-1), 1) := dk_0 a_Rd_takeName_53 (dko_2 _)
theorem d_Rd_takeName_54 : decode b_Rd_takeName 54 = .ok (.ireturn, 1) := dk_0 a_Rd_takeName_54 (dko_172 _)
theorem d_Rd_takeName_55 : decode b_Rd_takeName 55 = .ok (.aload_n 0, 1) := dk_0 a_Rd_takeName_55 (dko_42 _)
theorem d_Rd_takeName_56 : decode b_Rd_takeName 56 = .ok (.invokevirtual 63, 3) := dk_U2 a_Rd_takeName_56 (dko_182 _) rfl
theorem d_Rd_takeName_59 : decode b_Rd_takeName 59 = .ok (.iload_n 2, 1) := dk_0 a_Rd_takeName_59 (dko_28 _)
theorem d_Rd_takeName_60 : decode b_Rd_takeName 60 = .ok (.ireturn, 1) := dk_0 a_Rd_takeName_60 (dko_172 _)
set_option maxHeartbeats 4000000 in
set_option maxRecDepth 100000 in
theorem ok_Rd_takeName (pc : Nat) : OpS mt mi_Rd_takeName pc (cs_Rd_takeName pc) := (os_n (os_n (os_n (os_n (os_n (os_l (so_aload_n d_Rd_takeName_0 rfl)) (os_l (so_get (C := R_Rd) (T := F_Rd) (N := 13) (j := 9) in_Rd rfl (by decide) mw_645 d_Rd_takeName_1))) (os_n (os_l (so_ifge d_Rd_takeName_4 (by decide))) (os_l (so_aload_n d_Rd_takeName_7 rfl)))) (os_n (os_n (os_l (so_get (C := R_Rd) (T := F_Rd) (N := 13) (j := 3) in_Rd rfl (by decide) mw_639 d_Rd_takeName_8)) (os_l (so_bipush d_Rd_takeName_11 (by decide)))) (os_n (os_l (so_icne d_Rd_takeName_13 (by decide))) (os_l (so_aload_n d_Rd_takeName_16 rfl))))) (os_n (os_n (os_n (os_l (so_get (C := R_Rd) (T := F_Rd) (N := 13) (j := 1) in_Rd rfl (by decide) mw_637 d_Rd_takeName_17)) (os_l (so_aload_n d_Rd_takeName_20 rfl))) (os_n (os_l (so_get (C := R_Rd) (T := F_Rd) (N := 13) (j := 5) in_Rd rfl (by decide) mw_641 d_Rd_takeName_21)) (os_l (so_callV (iv := mi_Pr_find) rfl rfl rfl mw_923 mw_924 mw_925 mw_12 mw_926 ⟨by decide +kernel, by decide +kernel, by decide +kernel⟩ (by decide) d_Rd_takeName_24)))) (os_n (os_n (os_l (so_goto d_Rd_takeName_27 (by decide))) (os_l (so_iconst d_Rd_takeName_30 (by decide)))) (os_n (os_l (so_istore_n d_Rd_takeName_31 rfl (by decide))) (os_l (so_iload_n d_Rd_takeName_32 rfl)))))) (os_n (os_n (os_n (os_n (os_l (so_iflt d_Rd_takeName_33 (by decide))) (os_l (so_aload_n d_Rd_takeName_36 rfl))) (os_n (os_l (so_get (C := R_Rd) (T := F_Rd) (N := 13) (j := 1) in_Rd rfl (by decide) mw_637 d_Rd_takeName_37)) (os_l (so_get (C := R_Pr) (T := F_Pr) (N := 18) (j := 12) in_Pr rfl (by decide) mw_462 d_Rd_takeName_40)))) (os_n (os_n (os_l (so_iload_n d_Rd_takeName_43 rfl)) (os_l (so_iaload d_Rd_takeName_44))) (os_n (os_l (so_iload_n d_Rd_takeName_45 rfl)) (os_l (so_iceq d_Rd_takeName_46 (by decide)))))) (os_n (os_n (os_n (os_l (so_aload_n d_Rd_takeName_49 rfl)) (os_l (so_callV (iv := mi_Rd_fail) rfl rfl rfl mw_915 mw_917 sl_24 mw_13 mw_918 ⟨by decide +kernel, by decide +kernel, by decide +kernel⟩ (by decide) d_Rd_takeName_50))) (os_n (os_l (so_iconst d_Rd_takeName_53 (by decide))) (os_l (so_ireturn rfl d_Rd_takeName_54)))) (os_n (os_n (os_l (so_aload_n d_Rd_takeName_55 rfl)) (os_l (so_callV (iv := mi_Rd_nextWord) rfl rfl rfl mw_887 mw_889 sl_20 mw_13 mw_890 ⟨by decide +kernel, by decide +kernel, by decide +kernel⟩ (by decide) d_Rd_takeName_56))) (os_n (os_l (so_iload_n d_Rd_takeName_59 rfl)) (os_l (so_ireturn rfl d_Rd_takeName_60)))))))
abbrev t_Rd_readBlock_204 : List UInt8 := 172 :: []
abbrev t_Rd_readBlock_202 : List UInt8 := 21 :: 5 :: t_Rd_readBlock_204
abbrev t_Rd_readBlock_201 : List UInt8 := 79 :: t_Rd_readBlock_202
abbrev t_Rd_readBlock_200 : List UInt8 := 96 :: t_Rd_readBlock_201
abbrev t_Rd_readBlock_199 : List UInt8 := 4 :: t_Rd_readBlock_200
abbrev t_Rd_readBlock_197 : List UInt8 := 21 :: 4 :: t_Rd_readBlock_199
abbrev t_Rd_readBlock_195 : List UInt8 := 21 :: 5 :: t_Rd_readBlock_197
abbrev t_Rd_readBlock_192 : List UInt8 := 180 :: 0 :: 15 :: t_Rd_readBlock_195
abbrev t_Rd_readBlock_191 : List UInt8 := 42 :: t_Rd_readBlock_192
abbrev t_Rd_readBlock_190 : List UInt8 := 79 :: t_Rd_readBlock_191
abbrev t_Rd_readBlock_189 : List UInt8 := 29 :: t_Rd_readBlock_190
abbrev t_Rd_readBlock_187 : List UInt8 := 21 :: 5 :: t_Rd_readBlock_189
abbrev t_Rd_readBlock_184 : List UInt8 := 180 :: 0 :: 9 :: t_Rd_readBlock_187
abbrev t_Rd_readBlock_183 : List UInt8 := 42 :: t_Rd_readBlock_184
abbrev t_Rd_readBlock_182 : List UInt8 := 79 :: t_Rd_readBlock_183
abbrev t_Rd_readBlock_181 : List UInt8 := 27 :: t_Rd_readBlock_182
abbrev t_Rd_readBlock_179 : List UInt8 := 21 :: 5 :: t_Rd_readBlock_181
abbrev t_Rd_readBlock_176 : List UInt8 := 180 :: 0 :: 175 :: t_Rd_readBlock_179
abbrev t_Rd_readBlock_173 : List UInt8 := 180 :: 0 :: 44 :: t_Rd_readBlock_176
abbrev t_Rd_readBlock_172 : List UInt8 := 42 :: t_Rd_readBlock_173
abbrev t_Rd_readBlock_170 : List UInt8 := 54 :: 5 :: t_Rd_readBlock_172
abbrev t_Rd_readBlock_167 : List UInt8 := 182 :: 0 :: 79 :: t_Rd_readBlock_170
abbrev t_Rd_readBlock_166 : List UInt8 := 3 :: t_Rd_readBlock_167
abbrev t_Rd_readBlock_164 : List UInt8 := 16 :: 35 :: t_Rd_readBlock_166
abbrev t_Rd_readBlock_163 : List UInt8 := 42 :: t_Rd_readBlock_164
abbrev t_Rd_readBlock_160 : List UInt8 := 181 :: 0 :: 57 :: t_Rd_readBlock_163
abbrev t_Rd_readBlock_159 : List UInt8 := 100 :: t_Rd_readBlock_160
abbrev t_Rd_readBlock_158 : List UInt8 := 4 :: t_Rd_readBlock_159
abbrev t_Rd_readBlock_155 : List UInt8 := 180 :: 0 :: 57 :: t_Rd_readBlock_158
abbrev t_Rd_readBlock_154 : List UInt8 := 89 :: t_Rd_readBlock_155
abbrev t_Rd_readBlock_153 : List UInt8 := 42 :: t_Rd_readBlock_154
abbrev t_Rd_readBlock_150 : List UInt8 := 182 :: 0 :: 83 :: t_Rd_readBlock_153
abbrev t_Rd_readBlock_148 : List UInt8 := 16 :: 125 :: t_Rd_readBlock_150
abbrev t_Rd_readBlock_147 : List UInt8 := 42 :: t_Rd_readBlock_148
abbrev t_Rd_readBlock_144 : List UInt8 := 167 :: 255 :: 169 :: t_Rd_readBlock_147
abbrev t_Rd_readBlock_141 : List UInt8 := 132 :: 5 :: 1 :: t_Rd_readBlock_144
abbrev t_Rd_readBlock_140 : List UInt8 := 61 :: t_Rd_readBlock_141
abbrev t_Rd_readBlock_138 : List UInt8 := 21 :: 6 :: t_Rd_readBlock_140
abbrev t_Rd_readBlock_137 : List UInt8 := 79 :: t_Rd_readBlock_138
abbrev t_Rd_readBlock_135 : List UInt8 := 21 :: 6 :: t_Rd_readBlock_137
abbrev t_Rd_readBlock_134 : List UInt8 := 28 :: t_Rd_readBlock_135
abbrev t_Rd_readBlock_131 : List UInt8 := 180 :: 0 :: 105 :: t_Rd_readBlock_134
abbrev t_Rd_readBlock_128 : List UInt8 := 180 :: 0 :: 44 :: t_Rd_readBlock_131
abbrev t_Rd_readBlock_127 : List UInt8 := 42 :: t_Rd_readBlock_128
abbrev t_Rd_readBlock_124 : List UInt8 := 167 :: 0 :: 14 :: t_Rd_readBlock_127
abbrev t_Rd_readBlock_123 : List UInt8 := 60 :: t_Rd_readBlock_124
abbrev t_Rd_readBlock_121 : List UInt8 := 21 :: 6 :: t_Rd_readBlock_123
abbrev t_Rd_readBlock_118 : List UInt8 := 156 :: 0 :: 9 :: t_Rd_readBlock_121
abbrev t_Rd_readBlock_117 : List UInt8 := 28 :: t_Rd_readBlock_118
abbrev t_Rd_readBlock_115 : List UInt8 := 54 :: 4 :: t_Rd_readBlock_117
abbrev t_Rd_readBlock_112 : List UInt8 := 184 :: 0 :: 99 :: t_Rd_readBlock_115
abbrev t_Rd_readBlock_111 : List UInt8 := 46 :: t_Rd_readBlock_112
abbrev t_Rd_readBlock_109 : List UInt8 := 21 :: 6 :: t_Rd_readBlock_111
abbrev t_Rd_readBlock_106 : List UInt8 := 180 :: 0 :: 15 :: t_Rd_readBlock_109
abbrev t_Rd_readBlock_105 : List UInt8 := 42 :: t_Rd_readBlock_106
abbrev t_Rd_readBlock_103 : List UInt8 := 21 :: 4 :: t_Rd_readBlock_105
abbrev t_Rd_readBlock_102 : List UInt8 := 62 :: t_Rd_readBlock_103
abbrev t_Rd_readBlock_99 : List UInt8 := 184 :: 0 :: 94 :: t_Rd_readBlock_102
abbrev t_Rd_readBlock_96 : List UInt8 := 17 :: 1 :: 245 :: t_Rd_readBlock_99
abbrev t_Rd_readBlock_95 : List UInt8 := 96 :: t_Rd_readBlock_96
abbrev t_Rd_readBlock_94 : List UInt8 := 46 :: t_Rd_readBlock_95
abbrev t_Rd_readBlock_92 : List UInt8 := 21 :: 6 :: t_Rd_readBlock_94
abbrev t_Rd_readBlock_89 : List UInt8 := 180 :: 0 :: 9 :: t_Rd_readBlock_92
abbrev t_Rd_readBlock_88 : List UInt8 := 42 :: t_Rd_readBlock_89
abbrev t_Rd_readBlock_87 : List UInt8 := 29 :: t_Rd_readBlock_88
abbrev t_Rd_readBlock_85 : List UInt8 := 54 :: 6 :: t_Rd_readBlock_87
abbrev t_Rd_readBlock_82 : List UInt8 := 182 :: 0 :: 91 :: t_Rd_readBlock_85
abbrev t_Rd_readBlock_81 : List UInt8 := 42 :: t_Rd_readBlock_82
abbrev t_Rd_readBlock_78 : List UInt8 := 159 :: 0 :: 69 :: t_Rd_readBlock_81
abbrev t_Rd_readBlock_76 : List UInt8 := 16 :: 125 :: t_Rd_readBlock_78
abbrev t_Rd_readBlock_73 : List UInt8 := 180 :: 0 :: 66 :: t_Rd_readBlock_76
abbrev t_Rd_readBlock_72 : List UInt8 := 42 :: t_Rd_readBlock_73
abbrev t_Rd_readBlock_69 : List UInt8 := 156 :: 0 :: 78 :: t_Rd_readBlock_72
abbrev t_Rd_readBlock_66 : List UInt8 := 180 :: 0 :: 60 :: t_Rd_readBlock_69
abbrev t_Rd_readBlock_65 : List UInt8 := 42 :: t_Rd_readBlock_66
abbrev t_Rd_readBlock_62 : List UInt8 := 163 :: 0 :: 85 :: t_Rd_readBlock_65
abbrev t_Rd_readBlock_59 : List UInt8 := 17 :: 15 :: 160 :: t_Rd_readBlock_62
abbrev t_Rd_readBlock_57 : List UInt8 := 21 :: 5 :: t_Rd_readBlock_59
abbrev t_Rd_readBlock_55 : List UInt8 := 54 :: 5 :: t_Rd_readBlock_57
abbrev t_Rd_readBlock_54 : List UInt8 := 3 :: t_Rd_readBlock_55
abbrev t_Rd_readBlock_52 : List UInt8 := 54 :: 4 :: t_Rd_readBlock_54
abbrev t_Rd_readBlock_51 : List UInt8 := 3 :: t_Rd_readBlock_52
abbrev t_Rd_readBlock_50 : List UInt8 := 62 :: t_Rd_readBlock_51
abbrev t_Rd_readBlock_49 : List UInt8 := 4 :: t_Rd_readBlock_50
abbrev t_Rd_readBlock_48 : List UInt8 := 61 :: t_Rd_readBlock_49
abbrev t_Rd_readBlock_47 : List UInt8 := 2 :: t_Rd_readBlock_48
abbrev t_Rd_readBlock_46 : List UInt8 := 60 :: t_Rd_readBlock_47
abbrev t_Rd_readBlock_45 : List UInt8 := 2 :: t_Rd_readBlock_46
abbrev t_Rd_readBlock_42 : List UInt8 := 182 :: 0 :: 63 :: t_Rd_readBlock_45
abbrev t_Rd_readBlock_41 : List UInt8 := 42 :: t_Rd_readBlock_42
abbrev t_Rd_readBlock_38 : List UInt8 := 181 :: 0 :: 57 :: t_Rd_readBlock_41
abbrev t_Rd_readBlock_37 : List UInt8 := 96 :: t_Rd_readBlock_38
abbrev t_Rd_readBlock_36 : List UInt8 := 4 :: t_Rd_readBlock_37
abbrev t_Rd_readBlock_33 : List UInt8 := 180 :: 0 :: 57 :: t_Rd_readBlock_36
abbrev t_Rd_readBlock_32 : List UInt8 := 89 :: t_Rd_readBlock_33
abbrev t_Rd_readBlock_31 : List UInt8 := 42 :: t_Rd_readBlock_32
abbrev t_Rd_readBlock_30 : List UInt8 := 172 :: t_Rd_readBlock_31
abbrev t_Rd_readBlock_29 : List UInt8 := 3 :: t_Rd_readBlock_30
abbrev t_Rd_readBlock_26 : List UInt8 := 182 :: 0 :: 108 :: t_Rd_readBlock_29
abbrev t_Rd_readBlock_25 : List UInt8 := 42 :: t_Rd_readBlock_26
abbrev t_Rd_readBlock_22 : List UInt8 := 161 :: 0 :: 9 :: t_Rd_readBlock_25
abbrev t_Rd_readBlock_20 : List UInt8 := 16 :: 20 :: t_Rd_readBlock_22
abbrev t_Rd_readBlock_17 : List UInt8 := 180 :: 0 :: 57 :: t_Rd_readBlock_20
abbrev t_Rd_readBlock_16 : List UInt8 := 42 :: t_Rd_readBlock_17
abbrev t_Rd_readBlock_13 : List UInt8 := 160 :: 0 :: 12 :: t_Rd_readBlock_16
abbrev t_Rd_readBlock_11 : List UInt8 := 16 :: 123 :: t_Rd_readBlock_13
abbrev t_Rd_readBlock_8 : List UInt8 := 180 :: 0 :: 66 :: t_Rd_readBlock_11
abbrev t_Rd_readBlock_7 : List UInt8 := 42 :: t_Rd_readBlock_8
abbrev t_Rd_readBlock_4 : List UInt8 := 156 :: 0 :: 21 :: t_Rd_readBlock_7
abbrev t_Rd_readBlock_1 : List UInt8 := 180 :: 0 :: 60 :: t_Rd_readBlock_4
abbrev t_Rd_readBlock_0 : List UInt8 := 42 :: t_Rd_readBlock_1
theorem a_Rd_readBlock_0 : dk_at b_Rd_readBlock 0 t_Rd_readBlock_0 := dk_start (by decide +kernel)
theorem a_Rd_readBlock_1 : dk_at b_Rd_readBlock 1 t_Rd_readBlock_1 := dk_go 1 a_Rd_readBlock_0 rfl
theorem a_Rd_readBlock_4 : dk_at b_Rd_readBlock 4 t_Rd_readBlock_4 := dk_go 3 a_Rd_readBlock_1 rfl
theorem a_Rd_readBlock_7 : dk_at b_Rd_readBlock 7 t_Rd_readBlock_7 := dk_go 3 a_Rd_readBlock_4 rfl
theorem a_Rd_readBlock_8 : dk_at b_Rd_readBlock 8 t_Rd_readBlock_8 := dk_go 1 a_Rd_readBlock_7 rfl
theorem a_Rd_readBlock_11 : dk_at b_Rd_readBlock 11 t_Rd_readBlock_11 := dk_go 3 a_Rd_readBlock_8 rfl
theorem a_Rd_readBlock_13 : dk_at b_Rd_readBlock 13 t_Rd_readBlock_13 := dk_go 2 a_Rd_readBlock_11 rfl
theorem a_Rd_readBlock_16 : dk_at b_Rd_readBlock 16 t_Rd_readBlock_16 := dk_go 3 a_Rd_readBlock_13 rfl
theorem a_Rd_readBlock_17 : dk_at b_Rd_readBlock 17 t_Rd_readBlock_17 := dk_go 1 a_Rd_readBlock_16 rfl
theorem a_Rd_readBlock_20 : dk_at b_Rd_readBlock 20 t_Rd_readBlock_20 := dk_go 3 a_Rd_readBlock_17 rfl
theorem a_Rd_readBlock_22 : dk_at b_Rd_readBlock 22 t_Rd_readBlock_22 := dk_go 2 a_Rd_readBlock_20 rfl
theorem a_Rd_readBlock_25 : dk_at b_Rd_readBlock 25 t_Rd_readBlock_25 := dk_go 3 a_Rd_readBlock_22 rfl
theorem a_Rd_readBlock_26 : dk_at b_Rd_readBlock 26 t_Rd_readBlock_26 := dk_go 1 a_Rd_readBlock_25 rfl
theorem a_Rd_readBlock_29 : dk_at b_Rd_readBlock 29 t_Rd_readBlock_29 := dk_go 3 a_Rd_readBlock_26 rfl
theorem a_Rd_readBlock_30 : dk_at b_Rd_readBlock 30 t_Rd_readBlock_30 := dk_go 1 a_Rd_readBlock_29 rfl
theorem a_Rd_readBlock_31 : dk_at b_Rd_readBlock 31 t_Rd_readBlock_31 := dk_go 1 a_Rd_readBlock_30 rfl
theorem a_Rd_readBlock_32 : dk_at b_Rd_readBlock 32 t_Rd_readBlock_32 := dk_go 1 a_Rd_readBlock_31 rfl
theorem a_Rd_readBlock_33 : dk_at b_Rd_readBlock 33 t_Rd_readBlock_33 := dk_go 1 a_Rd_readBlock_32 rfl
theorem a_Rd_readBlock_36 : dk_at b_Rd_readBlock 36 t_Rd_readBlock_36 := dk_go 3 a_Rd_readBlock_33 rfl
theorem a_Rd_readBlock_37 : dk_at b_Rd_readBlock 37 t_Rd_readBlock_37 := dk_go 1 a_Rd_readBlock_36 rfl
theorem a_Rd_readBlock_38 : dk_at b_Rd_readBlock 38 t_Rd_readBlock_38 := dk_go 1 a_Rd_readBlock_37 rfl
theorem a_Rd_readBlock_41 : dk_at b_Rd_readBlock 41 t_Rd_readBlock_41 := dk_go 3 a_Rd_readBlock_38 rfl
theorem a_Rd_readBlock_42 : dk_at b_Rd_readBlock 42 t_Rd_readBlock_42 := dk_go 1 a_Rd_readBlock_41 rfl
theorem a_Rd_readBlock_45 : dk_at b_Rd_readBlock 45 t_Rd_readBlock_45 := dk_go 3 a_Rd_readBlock_42 rfl
theorem a_Rd_readBlock_46 : dk_at b_Rd_readBlock 46 t_Rd_readBlock_46 := dk_go 1 a_Rd_readBlock_45 rfl
theorem a_Rd_readBlock_47 : dk_at b_Rd_readBlock 47 t_Rd_readBlock_47 := dk_go 1 a_Rd_readBlock_46 rfl
theorem a_Rd_readBlock_48 : dk_at b_Rd_readBlock 48 t_Rd_readBlock_48 := dk_go 1 a_Rd_readBlock_47 rfl
theorem a_Rd_readBlock_49 : dk_at b_Rd_readBlock 49 t_Rd_readBlock_49 := dk_go 1 a_Rd_readBlock_48 rfl
theorem a_Rd_readBlock_50 : dk_at b_Rd_readBlock 50 t_Rd_readBlock_50 := dk_go 1 a_Rd_readBlock_49 rfl
theorem a_Rd_readBlock_51 : dk_at b_Rd_readBlock 51 t_Rd_readBlock_51 := dk_go 1 a_Rd_readBlock_50 rfl
theorem a_Rd_readBlock_52 : dk_at b_Rd_readBlock 52 t_Rd_readBlock_52 := dk_go 1 a_Rd_readBlock_51 rfl
theorem a_Rd_readBlock_54 : dk_at b_Rd_readBlock 54 t_Rd_readBlock_54 := dk_go 2 a_Rd_readBlock_52 rfl
theorem a_Rd_readBlock_55 : dk_at b_Rd_readBlock 55 t_Rd_readBlock_55 := dk_go 1 a_Rd_readBlock_54 rfl
theorem a_Rd_readBlock_57 : dk_at b_Rd_readBlock 57 t_Rd_readBlock_57 := dk_go 2 a_Rd_readBlock_55 rfl
theorem a_Rd_readBlock_59 : dk_at b_Rd_readBlock 59 t_Rd_readBlock_59 := dk_go 2 a_Rd_readBlock_57 rfl
theorem a_Rd_readBlock_62 : dk_at b_Rd_readBlock 62 t_Rd_readBlock_62 := dk_go 3 a_Rd_readBlock_59 rfl
theorem a_Rd_readBlock_65 : dk_at b_Rd_readBlock 65 t_Rd_readBlock_65 := dk_go 3 a_Rd_readBlock_62 rfl
theorem a_Rd_readBlock_66 : dk_at b_Rd_readBlock 66 t_Rd_readBlock_66 := dk_go 1 a_Rd_readBlock_65 rfl
theorem a_Rd_readBlock_69 : dk_at b_Rd_readBlock 69 t_Rd_readBlock_69 := dk_go 3 a_Rd_readBlock_66 rfl
theorem a_Rd_readBlock_72 : dk_at b_Rd_readBlock 72 t_Rd_readBlock_72 := dk_go 3 a_Rd_readBlock_69 rfl
theorem a_Rd_readBlock_73 : dk_at b_Rd_readBlock 73 t_Rd_readBlock_73 := dk_go 1 a_Rd_readBlock_72 rfl
theorem a_Rd_readBlock_76 : dk_at b_Rd_readBlock 76 t_Rd_readBlock_76 := dk_go 3 a_Rd_readBlock_73 rfl
theorem a_Rd_readBlock_78 : dk_at b_Rd_readBlock 78 t_Rd_readBlock_78 := dk_go 2 a_Rd_readBlock_76 rfl
theorem a_Rd_readBlock_81 : dk_at b_Rd_readBlock 81 t_Rd_readBlock_81 := dk_go 3 a_Rd_readBlock_78 rfl
theorem a_Rd_readBlock_82 : dk_at b_Rd_readBlock 82 t_Rd_readBlock_82 := dk_go 1 a_Rd_readBlock_81 rfl
theorem a_Rd_readBlock_85 : dk_at b_Rd_readBlock 85 t_Rd_readBlock_85 := dk_go 3 a_Rd_readBlock_82 rfl
theorem a_Rd_readBlock_87 : dk_at b_Rd_readBlock 87 t_Rd_readBlock_87 := dk_go 2 a_Rd_readBlock_85 rfl
theorem a_Rd_readBlock_88 : dk_at b_Rd_readBlock 88 t_Rd_readBlock_88 := dk_go 1 a_Rd_readBlock_87 rfl
theorem a_Rd_readBlock_89 : dk_at b_Rd_readBlock 89 t_Rd_readBlock_89 := dk_go 1 a_Rd_readBlock_88 rfl
theorem a_Rd_readBlock_92 : dk_at b_Rd_readBlock 92 t_Rd_readBlock_92 := dk_go 3 a_Rd_readBlock_89 rfl
theorem a_Rd_readBlock_94 : dk_at b_Rd_readBlock 94 t_Rd_readBlock_94 := dk_go 2 a_Rd_readBlock_92 rfl
theorem a_Rd_readBlock_95 : dk_at b_Rd_readBlock 95 t_Rd_readBlock_95 := dk_go 1 a_Rd_readBlock_94 rfl
theorem a_Rd_readBlock_96 : dk_at b_Rd_readBlock 96 t_Rd_readBlock_96 := dk_go 1 a_Rd_readBlock_95 rfl
theorem a_Rd_readBlock_99 : dk_at b_Rd_readBlock 99 t_Rd_readBlock_99 := dk_go 3 a_Rd_readBlock_96 rfl
theorem a_Rd_readBlock_102 : dk_at b_Rd_readBlock 102 t_Rd_readBlock_102 := dk_go 3 a_Rd_readBlock_99 rfl
theorem a_Rd_readBlock_103 : dk_at b_Rd_readBlock 103 t_Rd_readBlock_103 := dk_go 1 a_Rd_readBlock_102 rfl
theorem a_Rd_readBlock_105 : dk_at b_Rd_readBlock 105 t_Rd_readBlock_105 := dk_go 2 a_Rd_readBlock_103 rfl
theorem a_Rd_readBlock_106 : dk_at b_Rd_readBlock 106 t_Rd_readBlock_106 := dk_go 1 a_Rd_readBlock_105 rfl
theorem a_Rd_readBlock_109 : dk_at b_Rd_readBlock 109 t_Rd_readBlock_109 := dk_go 3 a_Rd_readBlock_106 rfl
theorem a_Rd_readBlock_111 : dk_at b_Rd_readBlock 111 t_Rd_readBlock_111 := dk_go 2 a_Rd_readBlock_109 rfl
theorem a_Rd_readBlock_112 : dk_at b_Rd_readBlock 112 t_Rd_readBlock_112 := dk_go 1 a_Rd_readBlock_111 rfl
theorem a_Rd_readBlock_115 : dk_at b_Rd_readBlock 115 t_Rd_readBlock_115 := dk_go 3 a_Rd_readBlock_112 rfl
theorem a_Rd_readBlock_117 : dk_at b_Rd_readBlock 117 t_Rd_readBlock_117 := dk_go 2 a_Rd_readBlock_115 rfl
theorem a_Rd_readBlock_118 : dk_at b_Rd_readBlock 118 t_Rd_readBlock_118 := dk_go 1 a_Rd_readBlock_117 rfl
theorem a_Rd_readBlock_121 : dk_at b_Rd_readBlock 121 t_Rd_readBlock_121 := dk_go 3 a_Rd_readBlock_118 rfl
theorem a_Rd_readBlock_123 : dk_at b_Rd_readBlock 123 t_Rd_readBlock_123 := dk_go 2 a_Rd_readBlock_121 rfl
theorem a_Rd_readBlock_124 : dk_at b_Rd_readBlock 124 t_Rd_readBlock_124 := dk_go 1 a_Rd_readBlock_123 rfl
theorem a_Rd_readBlock_127 : dk_at b_Rd_readBlock 127 t_Rd_readBlock_127 := dk_go 3 a_Rd_readBlock_124 rfl
theorem a_Rd_readBlock_128 : dk_at b_Rd_readBlock 128 t_Rd_readBlock_128 := dk_go 1 a_Rd_readBlock_127 rfl
theorem a_Rd_readBlock_131 : dk_at b_Rd_readBlock 131 t_Rd_readBlock_131 := dk_go 3 a_Rd_readBlock_128 rfl
theorem a_Rd_readBlock_134 : dk_at b_Rd_readBlock 134 t_Rd_readBlock_134 := dk_go 3 a_Rd_readBlock_131 rfl
theorem a_Rd_readBlock_135 : dk_at b_Rd_readBlock 135 t_Rd_readBlock_135 := dk_go 1 a_Rd_readBlock_134 rfl
theorem a_Rd_readBlock_137 : dk_at b_Rd_readBlock 137 t_Rd_readBlock_137 := dk_go 2 a_Rd_readBlock_135 rfl
theorem a_Rd_readBlock_138 : dk_at b_Rd_readBlock 138 t_Rd_readBlock_138 := dk_go 1 a_Rd_readBlock_137 rfl
theorem a_Rd_readBlock_140 : dk_at b_Rd_readBlock 140 t_Rd_readBlock_140 := dk_go 2 a_Rd_readBlock_138 rfl
theorem a_Rd_readBlock_141 : dk_at b_Rd_readBlock 141 t_Rd_readBlock_141 := dk_go 1 a_Rd_readBlock_140 rfl
theorem a_Rd_readBlock_144 : dk_at b_Rd_readBlock 144 t_Rd_readBlock_144 := dk_go 3 a_Rd_readBlock_141 rfl
theorem a_Rd_readBlock_147 : dk_at b_Rd_readBlock 147 t_Rd_readBlock_147 := dk_go 3 a_Rd_readBlock_144 rfl
theorem a_Rd_readBlock_148 : dk_at b_Rd_readBlock 148 t_Rd_readBlock_148 := dk_go 1 a_Rd_readBlock_147 rfl
theorem a_Rd_readBlock_150 : dk_at b_Rd_readBlock 150 t_Rd_readBlock_150 := dk_go 2 a_Rd_readBlock_148 rfl
theorem a_Rd_readBlock_153 : dk_at b_Rd_readBlock 153 t_Rd_readBlock_153 := dk_go 3 a_Rd_readBlock_150 rfl
theorem a_Rd_readBlock_154 : dk_at b_Rd_readBlock 154 t_Rd_readBlock_154 := dk_go 1 a_Rd_readBlock_153 rfl
theorem a_Rd_readBlock_155 : dk_at b_Rd_readBlock 155 t_Rd_readBlock_155 := dk_go 1 a_Rd_readBlock_154 rfl
theorem a_Rd_readBlock_158 : dk_at b_Rd_readBlock 158 t_Rd_readBlock_158 := dk_go 3 a_Rd_readBlock_155 rfl
theorem a_Rd_readBlock_159 : dk_at b_Rd_readBlock 159 t_Rd_readBlock_159 := dk_go 1 a_Rd_readBlock_158 rfl
theorem a_Rd_readBlock_160 : dk_at b_Rd_readBlock 160 t_Rd_readBlock_160 := dk_go 1 a_Rd_readBlock_159 rfl
theorem a_Rd_readBlock_163 : dk_at b_Rd_readBlock 163 t_Rd_readBlock_163 := dk_go 3 a_Rd_readBlock_160 rfl
theorem a_Rd_readBlock_164 : dk_at b_Rd_readBlock 164 t_Rd_readBlock_164 := dk_go 1 a_Rd_readBlock_163 rfl
theorem a_Rd_readBlock_166 : dk_at b_Rd_readBlock 166 t_Rd_readBlock_166 := dk_go 2 a_Rd_readBlock_164 rfl
theorem a_Rd_readBlock_167 : dk_at b_Rd_readBlock 167 t_Rd_readBlock_167 := dk_go 1 a_Rd_readBlock_166 rfl
theorem a_Rd_readBlock_170 : dk_at b_Rd_readBlock 170 t_Rd_readBlock_170 := dk_go 3 a_Rd_readBlock_167 rfl
theorem a_Rd_readBlock_172 : dk_at b_Rd_readBlock 172 t_Rd_readBlock_172 := dk_go 2 a_Rd_readBlock_170 rfl
theorem a_Rd_readBlock_173 : dk_at b_Rd_readBlock 173 t_Rd_readBlock_173 := dk_go 1 a_Rd_readBlock_172 rfl
theorem a_Rd_readBlock_176 : dk_at b_Rd_readBlock 176 t_Rd_readBlock_176 := dk_go 3 a_Rd_readBlock_173 rfl
theorem a_Rd_readBlock_179 : dk_at b_Rd_readBlock 179 t_Rd_readBlock_179 := dk_go 3 a_Rd_readBlock_176 rfl
theorem a_Rd_readBlock_181 : dk_at b_Rd_readBlock 181 t_Rd_readBlock_181 := dk_go 2 a_Rd_readBlock_179 rfl
theorem a_Rd_readBlock_182 : dk_at b_Rd_readBlock 182 t_Rd_readBlock_182 := dk_go 1 a_Rd_readBlock_181 rfl
theorem a_Rd_readBlock_183 : dk_at b_Rd_readBlock 183 t_Rd_readBlock_183 := dk_go 1 a_Rd_readBlock_182 rfl
theorem a_Rd_readBlock_184 : dk_at b_Rd_readBlock 184 t_Rd_readBlock_184 := dk_go 1 a_Rd_readBlock_183 rfl
theorem a_Rd_readBlock_187 : dk_at b_Rd_readBlock 187 t_Rd_readBlock_187 := dk_go 3 a_Rd_readBlock_184 rfl
theorem a_Rd_readBlock_189 : dk_at b_Rd_readBlock 189 t_Rd_readBlock_189 := dk_go 2 a_Rd_readBlock_187 rfl
theorem a_Rd_readBlock_190 : dk_at b_Rd_readBlock 190 t_Rd_readBlock_190 := dk_go 1 a_Rd_readBlock_189 rfl
theorem a_Rd_readBlock_191 : dk_at b_Rd_readBlock 191 t_Rd_readBlock_191 := dk_go 1 a_Rd_readBlock_190 rfl
theorem a_Rd_readBlock_192 : dk_at b_Rd_readBlock 192 t_Rd_readBlock_192 := dk_go 1 a_Rd_readBlock_191 rfl
theorem a_Rd_readBlock_195 : dk_at b_Rd_readBlock 195 t_Rd_readBlock_195 := dk_go 3 a_Rd_readBlock_192 rfl
theorem a_Rd_readBlock_197 : dk_at b_Rd_readBlock 197 t_Rd_readBlock_197 := dk_go 2 a_Rd_readBlock_195 rfl
theorem a_Rd_readBlock_199 : dk_at b_Rd_readBlock 199 t_Rd_readBlock_199 := dk_go 2 a_Rd_readBlock_197 rfl
theorem a_Rd_readBlock_200 : dk_at b_Rd_readBlock 200 t_Rd_readBlock_200 := dk_go 1 a_Rd_readBlock_199 rfl
theorem a_Rd_readBlock_201 : dk_at b_Rd_readBlock 201 t_Rd_readBlock_201 := dk_go 1 a_Rd_readBlock_200 rfl
theorem a_Rd_readBlock_202 : dk_at b_Rd_readBlock 202 t_Rd_readBlock_202 := dk_go 1 a_Rd_readBlock_201 rfl
theorem a_Rd_readBlock_204 : dk_at b_Rd_readBlock 204 t_Rd_readBlock_204 := dk_go 2 a_Rd_readBlock_202 rfl
theorem d_Rd_readBlock_0 : decode b_Rd_readBlock 0 = .ok (.aload_n 0, 1) := dk_0 a_Rd_readBlock_0 (dko_42 _)
theorem d_Rd_readBlock_1 : decode b_Rd_readBlock 1 = .ok (.getfield 60, 3) := dk_U2 a_Rd_readBlock_1 (dko_180 _) rfl
theorem d_Rd_readBlock_4 : decode b_Rd_readBlock 4 = .ok (.ifCond .ge 21, 3) := dk_S2 a_Rd_readBlock_4 (dko_156 _) (by decide +kernel)
theorem d_Rd_readBlock_7 : decode b_Rd_readBlock 7 = .ok (.aload_n 0, 1) := dk_0 a_Rd_readBlock_7 (dko_42 _)
theorem d_Rd_readBlock_8 : decode b_Rd_readBlock 8 = .ok (.getfield 66, 3) := dk_U2 a_Rd_readBlock_8 (dko_180 _) rfl
theorem d_Rd_readBlock_11 : decode b_Rd_readBlock 11 = .ok (.bipush 123, 2) := dk_S1 a_Rd_readBlock_11 (dko_16 _) (by decide +kernel)
theorem d_Rd_readBlock_13 : decode b_Rd_readBlock 13 = .ok (.if_icmp .ne 12, 3) := dk_S2 a_Rd_readBlock_13 (dko_160 _) (by decide +kernel)
theorem d_Rd_readBlock_16 : decode b_Rd_readBlock 16 = .ok (.aload_n 0, 1) := dk_0 a_Rd_readBlock_16 (dko_42 _)
theorem d_Rd_readBlock_17 : decode b_Rd_readBlock 17 = .ok (.getfield 57, 3) := dk_U2 a_Rd_readBlock_17 (dko_180 _) rfl
theorem d_Rd_readBlock_20 : decode b_Rd_readBlock 20 = .ok (.bipush 20, 2) := dk_S1 a_Rd_readBlock_20 (dko_16 _) (by decide +kernel)
theorem d_Rd_readBlock_22 : decode b_Rd_readBlock 22 = .ok (.if_icmp .lt 9, 3) := dk_S2 a_Rd_readBlock_22 (dko_161 _) (by decide +kernel)
theorem d_Rd_readBlock_25 : decode b_Rd_readBlock 25 = .ok (.aload_n 0, 1) := dk_0 a_Rd_readBlock_25 (dko_42 _)
theorem d_Rd_readBlock_26 : decode b_Rd_readBlock 26 = .ok (.invokevirtual 108, 3) := dk_U2 a_Rd_readBlock_26 (dko_182 _) rfl
theorem d_Rd_readBlock_29 : decode b_Rd_readBlock 29 = .ok (.iconst 0, 1) := dk_0 a_Rd_readBlock_29 (dko_3 _)
theorem d_Rd_readBlock_30 : decode b_Rd_readBlock 30 = .ok (.ireturn, 1) := dk_0 a_Rd_readBlock_30 (dko_172 _)
theorem d_Rd_readBlock_31 : decode b_Rd_readBlock 31 = .ok (.aload_n 0, 1) := dk_0 a_Rd_readBlock_31 (dko_42 _)
theorem d_Rd_readBlock_32 : decode b_Rd_readBlock 32 = .ok (.dup, 1) := dk_0 a_Rd_readBlock_32 (dko_89 _)
theorem d_Rd_readBlock_33 : decode b_Rd_readBlock 33 = .ok (.getfield 57, 3) := dk_U2 a_Rd_readBlock_33 (dko_180 _) rfl
theorem d_Rd_readBlock_36 : decode b_Rd_readBlock 36 = .ok (.iconst 1, 1) := dk_0 a_Rd_readBlock_36 (dko_4 _)
theorem d_Rd_readBlock_37 : decode b_Rd_readBlock 37 = .ok (.iadd, 1) := dk_0 a_Rd_readBlock_37 (dko_96 _)
theorem d_Rd_readBlock_38 : decode b_Rd_readBlock 38 = .ok (.putfield 57, 3) := dk_U2 a_Rd_readBlock_38 (dko_181 _) rfl
theorem d_Rd_readBlock_41 : decode b_Rd_readBlock 41 = .ok (.aload_n 0, 1) := dk_0 a_Rd_readBlock_41 (dko_42 _)
theorem d_Rd_readBlock_42 : decode b_Rd_readBlock 42 = .ok (.invokevirtual 63, 3) := dk_U2 a_Rd_readBlock_42 (dko_182 _) rfl
theorem d_Rd_readBlock_45 : decode b_Rd_readBlock 45 = .ok (.iconst (-1), 1) := dk_0 a_Rd_readBlock_45 (dko_2 _)
theorem d_Rd_readBlock_46 : decode b_Rd_readBlock 46 = .ok (.istore_n 1, 1) := dk_0 a_Rd_readBlock_46 (dko_60 _)
theorem d_Rd_readBlock_47 : decode b_Rd_readBlock 47 = .ok (.iconst (-1), 1) := dk_0 a_Rd_readBlock_47 (dko_2 _)
theorem d_Rd_readBlock_48 : decode b_Rd_readBlock 48 = .ok (.istore_n 2, 1) := dk_0 a_Rd_readBlock_48 (dko_61 _)
theorem d_Rd_readBlock_49 : decode b_Rd_readBlock 49 = .ok (.iconst 1, 1) := dk_0 a_Rd_readBlock_49 (dko_4 _)
theorem d_Rd_readBlock_50 : decode b_Rd_readBlock 50 = .ok (.istore_n 3, 1) := dk_0 a_Rd_readBlock_50 (dko_62 _)
theorem d_Rd_readBlock_51 : decode b_Rd_readBlock 51 = .ok (.iconst 0, 1) := dk_0 a_Rd_readBlock_51 (dko_3 _)
theorem d_Rd_readBlock_52 : decode b_Rd_readBlock 52 = .ok (.istore 4, 2) := dk_U1 a_Rd_readBlock_52 (dko_54 _) rfl
theorem d_Rd_readBlock_54 : decode b_Rd_readBlock 54 = .ok (.iconst 0, 1) := dk_0 a_Rd_readBlock_54 (dko_3 _)
theorem d_Rd_readBlock_55 : decode b_Rd_readBlock 55 = .ok (.istore 5, 2) := dk_U1 a_Rd_readBlock_55 (dko_54 _) rfl
theorem d_Rd_readBlock_57 : decode b_Rd_readBlock 57 = .ok (.iload 5, 2) := dk_U1 a_Rd_readBlock_57 (dko_21 _) rfl
theorem d_Rd_readBlock_59 : decode b_Rd_readBlock 59 = .ok (.sipush 4000, 3) := dk_S2 a_Rd_readBlock_59 (dko_17 _) (by decide +kernel)
theorem d_Rd_readBlock_62 : decode b_Rd_readBlock 62 = .ok (.if_icmp .gt 85, 3) := dk_S2 a_Rd_readBlock_62 (dko_163 _) (by decide +kernel)
theorem d_Rd_readBlock_65 : decode b_Rd_readBlock 65 = .ok (.aload_n 0, 1) := dk_0 a_Rd_readBlock_65 (dko_42 _)
theorem d_Rd_readBlock_66 : decode b_Rd_readBlock 66 = .ok (.getfield 60, 3) := dk_U2 a_Rd_readBlock_66 (dko_180 _) rfl
theorem d_Rd_readBlock_69 : decode b_Rd_readBlock 69 = .ok (.ifCond .ge 78, 3) := dk_S2 a_Rd_readBlock_69 (dko_156 _) (by decide +kernel)
theorem d_Rd_readBlock_72 : decode b_Rd_readBlock 72 = .ok (.aload_n 0, 1) := dk_0 a_Rd_readBlock_72 (dko_42 _)
theorem d_Rd_readBlock_73 : decode b_Rd_readBlock 73 = .ok (.getfield 66, 3) := dk_U2 a_Rd_readBlock_73 (dko_180 _) rfl
theorem d_Rd_readBlock_76 : decode b_Rd_readBlock 76 = .ok (.bipush 125, 2) := dk_S1 a_Rd_readBlock_76 (dko_16 _) (by decide +kernel)
theorem d_Rd_readBlock_78 : decode b_Rd_readBlock 78 = .ok (.if_icmp .eq 69, 3) := dk_S2 a_Rd_readBlock_78 (dko_159 _) (by decide +kernel)
theorem d_Rd_readBlock_81 : decode b_Rd_readBlock 81 = .ok (.aload_n 0, 1) := dk_0 a_Rd_readBlock_81 (dko_42 _)
theorem d_Rd_readBlock_82 : decode b_Rd_readBlock 82 = .ok (.invokevirtual 91, 3) := dk_U2 a_Rd_readBlock_82 (dko_182 _) rfl
theorem d_Rd_readBlock_85 : decode b_Rd_readBlock 85 = .ok (.istore 6, 2) := dk_U1 a_Rd_readBlock_85 (dko_54 _) rfl
theorem d_Rd_readBlock_87 : decode b_Rd_readBlock 87 = .ok (.iload_n 3, 1) := dk_0 a_Rd_readBlock_87 (dko_29 _)
theorem d_Rd_readBlock_88 : decode b_Rd_readBlock 88 = .ok (.aload_n 0, 1) := dk_0 a_Rd_readBlock_88 (dko_42 _)
theorem d_Rd_readBlock_89 : decode b_Rd_readBlock 89 = .ok (.getfield 9, 3) := dk_U2 a_Rd_readBlock_89 (dko_180 _) rfl
theorem d_Rd_readBlock_92 : decode b_Rd_readBlock 92 = .ok (.iload 6, 2) := dk_U1 a_Rd_readBlock_92 (dko_21 _) rfl
theorem d_Rd_readBlock_94 : decode b_Rd_readBlock 94 = .ok (.iaload, 1) := dk_0 a_Rd_readBlock_94 (dko_46 _)
theorem d_Rd_readBlock_95 : decode b_Rd_readBlock 95 = .ok (.iadd, 1) := dk_0 a_Rd_readBlock_95 (dko_96 _)
theorem d_Rd_readBlock_96 : decode b_Rd_readBlock 96 = .ok (.sipush 501, 3) := dk_S2 a_Rd_readBlock_96 (dko_17 _) (by decide +kernel)
theorem d_Rd_readBlock_99 : decode b_Rd_readBlock 99 = .ok (.invokestatic 94, 3) := dk_U2 a_Rd_readBlock_99 (dko_184 _) rfl
theorem d_Rd_readBlock_102 : decode b_Rd_readBlock 102 = .ok (.istore_n 3, 1) := dk_0 a_Rd_readBlock_102 (dko_62 _)
theorem d_Rd_readBlock_103 : decode b_Rd_readBlock 103 = .ok (.iload 4, 2) := dk_U1 a_Rd_readBlock_103 (dko_21 _) rfl
theorem d_Rd_readBlock_105 : decode b_Rd_readBlock 105 = .ok (.aload_n 0, 1) := dk_0 a_Rd_readBlock_105 (dko_42 _)
theorem d_Rd_readBlock_106 : decode b_Rd_readBlock 106 = .ok (.getfield 15, 3) := dk_U2 a_Rd_readBlock_106 (dko_180 _) rfl
theorem d_Rd_readBlock_109 : decode b_Rd_readBlock 109 = .ok (.iload 6, 2) := dk_U1 a_Rd_readBlock_109 (dko_21 _) rfl
theorem d_Rd_readBlock_111 : decode b_Rd_readBlock 111 = .ok (.iaload, 1) := dk_0 a_Rd_readBlock_111 (dko_46 _)
theorem d_Rd_readBlock_112 : decode b_Rd_readBlock 112 = .ok (.invokestatic 99, 3) := dk_U2 a_Rd_readBlock_112 (dko_184 _) rfl
theorem d_Rd_readBlock_115 : decode b_Rd_readBlock 115 = .ok (.istore 4, 2) := dk_U1 a_Rd_readBlock_115 (dko_54 _) rfl
theorem d_Rd_readBlock_117 : decode b_Rd_readBlock 117 = .ok (.iload_n 2, 1) := dk_0 a_Rd_readBlock_117 (dko_28 _)
theorem d_Rd_readBlock_118 : decode b_Rd_readBlock 118 = .ok (.ifCond .ge 9, 3) := dk_S2 a_Rd_readBlock_118 (dko_156 _) (by decide +kernel)
theorem d_Rd_readBlock_121 : decode b_Rd_readBlock 121 = .ok (.iload 6, 2) := dk_U1 a_Rd_readBlock_121 (dko_21 _) rfl
theorem d_Rd_readBlock_123 : decode b_Rd_readBlock 123 = .ok (.istore_n 1, 1) := dk_0 a_Rd_readBlock_123 (dko_60 _)
theorem d_Rd_readBlock_124 : decode b_Rd_readBlock 124 = .ok (.goto 14, 3) := dk_S2 a_Rd_readBlock_124 (dko_167 _) (by decide +kernel)
theorem d_Rd_readBlock_127 : decode b_Rd_readBlock 127 = .ok (.aload_n 0, 1) := dk_0 a_Rd_readBlock_127 (dko_42 _)
theorem d_Rd_readBlock_128 : decode b_Rd_readBlock 128 = .ok (.getfield 44, 3) := dk_U2 a_Rd_readBlock_128 (dko_180 _) rfl
theorem d_Rd_readBlock_131 : decode b_Rd_readBlock 131 = .ok (.getfield 105, 3) := dk_U2 a_Rd_readBlock_131 (dko_180 _) rfl
theorem d_Rd_readBlock_134 : decode b_Rd_readBlock 134 = .ok (.iload_n 2, 1) := dk_0 a_Rd_readBlock_134 (dko_28 _)
theorem d_Rd_readBlock_135 : decode b_Rd_readBlock 135 = .ok (.iload 6, 2) := dk_U1 a_Rd_readBlock_135 (dko_21 _) rfl
theorem d_Rd_readBlock_137 : decode b_Rd_readBlock 137 = .ok (.iastore, 1) := dk_0 a_Rd_readBlock_137 (dko_79 _)
theorem d_Rd_readBlock_138 : decode b_Rd_readBlock 138 = .ok (.iload 6, 2) := dk_U1 a_Rd_readBlock_138 (dko_21 _) rfl
theorem d_Rd_readBlock_140 : decode b_Rd_readBlock 140 = .ok (.istore_n 2, 1) := dk_0 a_Rd_readBlock_140 (dko_61 _)
theorem d_Rd_readBlock_141 : decode b_Rd_readBlock 141 = .ok (.iinc 5 1, 3) := dk_US a_Rd_readBlock_141 (dko_132 _) (by decide +kernel)
theorem d_Rd_readBlock_144 : decode b_Rd_readBlock 144 = .ok (.goto (-87), 3) := dk_S2 a_Rd_readBlock_144 (dko_167 _) (by decide +kernel)
theorem d_Rd_readBlock_147 : decode b_Rd_readBlock 147 = .ok (.aload_n 0, 1) := dk_0 a_Rd_readBlock_147 (dko_42 _)
theorem d_Rd_readBlock_148 : decode b_Rd_readBlock 148 = .ok (.bipush 125, 2) := dk_S1 a_Rd_readBlock_148 (dko_16 _) (by decide +kernel)
theorem d_Rd_readBlock_150 : decode b_Rd_readBlock 150 = .ok (.invokevirtual 83, 3) := dk_U2 a_Rd_readBlock_150 (dko_182 _) rfl
theorem d_Rd_readBlock_153 : decode b_Rd_readBlock 153 = .ok (.aload_n 0, 1) := dk_0 a_Rd_readBlock_153 (dko_42 _)
theorem d_Rd_readBlock_154 : decode b_Rd_readBlock 154 = .ok (.dup, 1) := dk_0 a_Rd_readBlock_154 (dko_89 _)
theorem d_Rd_readBlock_155 : decode b_Rd_readBlock 155 = .ok (.getfield 57, 3) := dk_U2 a_Rd_readBlock_155 (dko_180 _) rfl
theorem d_Rd_readBlock_158 : decode b_Rd_readBlock 158 = .ok (.iconst 1, 1) := dk_0 a_Rd_readBlock_158 (dko_4 _)
theorem d_Rd_readBlock_159 : decode b_Rd_readBlock 159 = .ok (.isub, 1) := dk_0 a_Rd_readBlock_159 (dko_100 _)
theorem d_Rd_readBlock_160 : decode b_Rd_readBlock 160 = .ok (.putfield 57, 3) := dk_U2 a_Rd_readBlock_160 (dko_181 _) rfl
theorem d_Rd_readBlock_163 : decode b_Rd_readBlock 163 = .ok (.aload_n 0, 1) := dk_0 a_Rd_readBlock_163 (dko_42 _)
theorem d_Rd_readBlock_164 : decode b_Rd_readBlock 164 = .ok (.bipush 35, 2) := dk_S1 a_Rd_readBlock_164 (dko_16 _) (by decide +kernel)
theorem d_Rd_readBlock_166 : decode b_Rd_readBlock 166 = .ok (.iconst 0, 1) := dk_0 a_Rd_readBlock_166 (dko_3 _)
theorem d_Rd_readBlock_167 : decode b_Rd_readBlock 167 = .ok (.invokevirtual 79, 3) := dk_U2 a_Rd_readBlock_167 (dko_182 _) rfl
theorem d_Rd_readBlock_170 : decode b_Rd_readBlock 170 = .ok (.istore 5, 2) := dk_U1 a_Rd_readBlock_170 (dko_54 _) rfl
theorem d_Rd_readBlock_172 : decode b_Rd_readBlock 172 = .ok (.aload_n 0, 1) := dk_0 a_Rd_readBlock_172 (dko_42 _)
theorem d_Rd_readBlock_173 : decode b_Rd_readBlock 173 = .ok (.getfield 44, 3) := dk_U2 a_Rd_readBlock_173 (dko_180 _) rfl
theorem d_Rd_readBlock_176 : decode b_Rd_readBlock 176 = .ok (.getfield 175, 3) := dk_U2 a_Rd_readBlock_176 (dko_180 _) rfl
theorem d_Rd_readBlock_179 : decode b_Rd_readBlock 179 = .ok (.iload 5, 2) := dk_U1 a_Rd_readBlock_179 (dko_21 _) rfl
theorem d_Rd_readBlock_181 : decode b_Rd_readBlock 181 = .ok (.iload_n 1, 1) := dk_0 a_Rd_readBlock_181 (dko_27 _)
theorem d_Rd_readBlock_182 : decode b_Rd_readBlock 182 = .ok (.iastore, 1) := dk_0 a_Rd_readBlock_182 (dko_79 _)
theorem d_Rd_readBlock_183 : decode b_Rd_readBlock 183 = .ok (.aload_n 0, 1) := dk_0 a_Rd_readBlock_183 (dko_42 _)
theorem d_Rd_readBlock_184 : decode b_Rd_readBlock 184 = .ok (.getfield 9, 3) := dk_U2 a_Rd_readBlock_184 (dko_180 _) rfl
theorem d_Rd_readBlock_187 : decode b_Rd_readBlock 187 = .ok (.iload 5, 2) := dk_U1 a_Rd_readBlock_187 (dko_21 _) rfl
theorem d_Rd_readBlock_189 : decode b_Rd_readBlock 189 = .ok (.iload_n 3, 1) := dk_0 a_Rd_readBlock_189 (dko_29 _)
theorem d_Rd_readBlock_190 : decode b_Rd_readBlock 190 = .ok (.iastore, 1) := dk_0 a_Rd_readBlock_190 (dko_79 _)
theorem d_Rd_readBlock_191 : decode b_Rd_readBlock 191 = .ok (.aload_n 0, 1) := dk_0 a_Rd_readBlock_191 (dko_42 _)
theorem d_Rd_readBlock_192 : decode b_Rd_readBlock 192 = .ok (.getfield 15, 3) := dk_U2 a_Rd_readBlock_192 (dko_180 _) rfl
theorem d_Rd_readBlock_195 : decode b_Rd_readBlock 195 = .ok (.iload 5, 2) := dk_U1 a_Rd_readBlock_195 (dko_21 _) rfl
theorem d_Rd_readBlock_197 : decode b_Rd_readBlock 197 = .ok (.iload 4, 2) := dk_U1 a_Rd_readBlock_197 (dko_21 _) rfl
theorem d_Rd_readBlock_199 : decode b_Rd_readBlock 199 = .ok (.iconst 1, 1) := dk_0 a_Rd_readBlock_199 (dko_4 _)
theorem d_Rd_readBlock_200 : decode b_Rd_readBlock 200 = .ok (.iadd, 1) := dk_0 a_Rd_readBlock_200 (dko_96 _)
theorem d_Rd_readBlock_201 : decode b_Rd_readBlock 201 = .ok (.iastore, 1) := dk_0 a_Rd_readBlock_201 (dko_79 _)
theorem d_Rd_readBlock_202 : decode b_Rd_readBlock 202 = .ok (.iload 5, 2) := dk_U1 a_Rd_readBlock_202 (dko_21 _) rfl
theorem d_Rd_readBlock_204 : decode b_Rd_readBlock 204 = .ok (.ireturn, 1) := dk_0 a_Rd_readBlock_204 (dko_172 _)
set_option maxHeartbeats 4000000 in
set_option maxRecDepth 100000 in
theorem ok_Rd_readBlock (pc : Nat) : OpS mt mi_Rd_readBlock pc (cs_Rd_readBlock pc) := (os_n (os_n (os_n (os_n (os_n (os_n (os_l (so_aload_n d_Rd_readBlock_0 rfl)) (os_n (os_l (so_get (C := R_Rd) (T := F_Rd) (N := 13) (j := 9) in_Rd rfl (by decide) mw_645 d_Rd_readBlock_1)) (os_l (so_ifge d_Rd_readBlock_4 (by decide))))) (os_n (os_l (so_aload_n d_Rd_readBlock_7 rfl)) (os_n (os_l (so_get (C := R_Rd) (T := F_Rd) (N := 13) (j := 3) in_Rd rfl (by decide) mw_639 d_Rd_readBlock_8)) (os_l (so_bipush d_Rd_readBlock_11 (by decide)))))) (os_n (os_n (os_l (so_icne d_Rd_readBlock_13 (by decide))) (os_n (os_l (so_aload_n d_Rd_readBlock_16 rfl)) (os_l (so_get (C := R_Rd) (T := F_Rd) (N := 13) (j := 8) in_Rd rfl (by decide) mw_644 d_Rd_readBlock_17)))) (os_n (os_n (os_l (so_bipush d_Rd_readBlock_20 (by decide))) (os_l (so_iclt d_Rd_readBlock_22 (by decide)))) (os_n (os_l (so_aload_n d_Rd_readBlock_25 rfl)) (os_l (so_callV (iv := mi_Rd_fail) rfl rfl rfl mw_915 mw_917 sl_24 mw_13 mw_918 ⟨by decide +kernel, by decide +kernel, by decide +kernel⟩ (by decide) d_Rd_readBlock_26)))))) (os_n (os_n (os_n (os_l (so_iconst d_Rd_readBlock_29 (by decide))) (os_n (os_l (so_ireturn rfl d_Rd_readBlock_30)) (os_l (so_aload_n d_Rd_readBlock_31 rfl)))) (os_n (os_n (os_l (so_dup d_Rd_readBlock_32)) (os_l (so_get (C := R_Rd) (T := F_Rd) (N := 13) (j := 8) in_Rd rfl (by decide) mw_644 d_Rd_readBlock_33))) (os_n (os_l (so_iconst d_Rd_readBlock_36 (by decide))) (os_l (so_iadd d_Rd_readBlock_37))))) (os_n (os_n (os_l (so_putI (C := R_Rd) (T := F_Rd) (N := 13) (j := 8) in_Rd t_Rd_ok n_Rd rfl (by decide) mw_644 rfl (by decide +kernel) d_Rd_readBlock_38)) (os_n (os_l (so_aload_n d_Rd_readBlock_41 rfl)) (os_l (so_callV (iv := mi_Rd_nextWord) rfl rfl rfl mw_887 mw_889 sl_20 mw_13 mw_890 ⟨by decide +kernel, by decide +kernel, by decide +kernel⟩ (by decide) d_Rd_readBlock_42)))) (os_n (os_n (os_l (so_iconst d_Rd_readBlock_45 (by decide))) (os_l (so_istore_n d_Rd_readBlock_46 rfl (by decide)))) (os_n (os_l (so_iconst d_Rd_readBlock_47 (by decide))) (os_l (so_istore_n d_Rd_readBlock_48 rfl (by decide)))))))) (os_n (os_n (os_n (os_n (os_l (so_iconst d_Rd_readBlock_49 (by decide))) (os_n (os_l (so_istore_n d_Rd_readBlock_50 rfl (by decide))) (os_l (so_iconst d_Rd_readBlock_51 (by decide))))) (os_n (os_n (os_l (so_istore d_Rd_readBlock_52 (by decide))) (os_l (so_iconst d_Rd_readBlock_54 (by decide)))) (os_n (os_l (so_istore d_Rd_readBlock_55 (by decide))) (os_l (so_iload d_Rd_readBlock_57))))) (os_n (os_n (os_l (so_sipush d_Rd_readBlock_59 (by decide))) (os_n (os_l (so_icgt d_Rd_readBlock_62 (by decide))) (os_l (so_aload_n d_Rd_readBlock_65 rfl)))) (os_n (os_n (os_l (so_get (C := R_Rd) (T := F_Rd) (N := 13) (j := 9) in_Rd rfl (by decide) mw_645 d_Rd_readBlock_66)) (os_l (so_ifge d_Rd_readBlock_69 (by decide)))) (os_n (os_l (so_aload_n d_Rd_readBlock_72 rfl)) (os_l (so_get (C := R_Rd) (T := F_Rd) (N := 13) (j := 3) in_Rd rfl (by decide) mw_639 d_Rd_readBlock_73)))))) (os_n (os_n (os_n (os_l (so_bipush d_Rd_readBlock_76 (by decide))) (os_n (os_l (so_iceq d_Rd_readBlock_78 (by decide))) (os_l (so_aload_n d_Rd_readBlock_81 rfl)))) (os_n (os_n (os_l (so_callV (iv := mi_Rd_readStatement) rfl rfl rfl mw_931 mw_933 sl_27 mw_13 mw_934 ⟨by decide +kernel, by decide +kernel, by decide +kernel⟩ (by decide) d_Rd_readBlock_82)) (os_l (so_istore d_Rd_readBlock_85 (by decide)))) (os_n (os_l (so_iload_n d_Rd_readBlock_87 rfl)) (os_l (so_aload_n d_Rd_readBlock_88 rfl))))) (os_n (os_n (os_l (so_get (C := R_Rd) (T := F_Rd) (N := 13) (j := 10) in_Rd rfl (by decide) mw_646 d_Rd_readBlock_89)) (os_n (os_l (so_iload d_Rd_readBlock_92)) (os_l (so_iaload d_Rd_readBlock_94)))) (os_n (os_n (os_l (so_iadd d_Rd_readBlock_95)) (os_l (so_sipush d_Rd_readBlock_96 (by decide)))) (os_n (os_l (so_callS (iv := mi_Ma_min) rfl mw_962 mw_963 mw_21 mw_964 ⟨by decide +kernel, by decide +kernel, by decide +kernel⟩ (by decide) d_Rd_readBlock_99)) (os_l (so_istore_n d_Rd_readBlock_102 rfl (by decide))))))))) (os_n (os_n (os_n (os_n (os_n (os_l (so_iload d_Rd_readBlock_103)) (os_n (os_l (so_aload_n d_Rd_readBlock_105 rfl)) (os_l (so_get (C := R_Rd) (T := F_Rd) (N := 13) (j := 11) in_Rd rfl (by decide) mw_647 d_Rd_readBlock_106)))) (os_n (os_n (os_l (so_iload d_Rd_readBlock_109)) (os_l (so_iaload d_Rd_readBlock_111))) (os_n (os_l (so_callS (iv := mi_Ma_max) rfl mw_972 mw_973 mw_21 mw_974 ⟨by decide +kernel, by decide +kernel, by decide +kernel⟩ (by decide) d_Rd_readBlock_112)) (os_l (so_istore d_Rd_readBlock_115 (by decide)))))) (os_n (os_n (os_l (so_iload_n d_Rd_readBlock_117 rfl)) (os_n (os_l (so_ifge d_Rd_readBlock_118 (by decide))) (os_l (so_iload d_Rd_readBlock_121)))) (os_n (os_n (os_l (so_istore_n d_Rd_readBlock_123 rfl (by decide))) (os_l (so_goto d_Rd_readBlock_124 (by decide)))) (os_n (os_l (so_aload_n d_Rd_readBlock_127 rfl)) (os_l (so_get (C := R_Rd) (T := F_Rd) (N := 13) (j := 1) in_Rd rfl (by decide) mw_637 d_Rd_readBlock_128)))))) (os_n (os_n (os_n (os_l (so_get (C := R_Pr) (T := F_Pr) (N := 18) (j := 8) in_Pr rfl (by decide) mw_452 d_Rd_readBlock_131)) (os_n (os_l (so_iload_n d_Rd_readBlock_134 rfl)) (os_l (so_iload d_Rd_readBlock_135)))) (os_n (os_n (os_l (so_iastore d_Rd_readBlock_137)) (os_l (so_iload d_Rd_readBlock_138))) (os_n (os_l (so_istore_n d_Rd_readBlock_140 rfl (by decide))) (os_l (so_iinc d_Rd_readBlock_141 (by decide) (by decide)))))) (os_n (os_n (os_l (so_goto d_Rd_readBlock_144 (by decide))) (os_n (os_l (so_aload_n d_Rd_readBlock_147 rfl)) (os_l (so_bipush d_Rd_readBlock_148 (by decide))))) (os_n (os_n (os_l (so_callV (iv := mi_Rd_take) rfl rfl rfl mw_979 mw_981 sl_35 mw_13 mw_982 ⟨by decide +kernel, by decide +kernel, by decide +kernel⟩ (by decide) d_Rd_readBlock_150)) (os_l (so_aload_n d_Rd_readBlock_153 rfl))) (os_n (os_l (so_dup d_Rd_readBlock_154)) (os_l (so_get (C := R_Rd) (T := F_Rd) (N := 13) (j := 8) in_Rd rfl (by decide) mw_644 d_Rd_readBlock_155))))))) (os_n (os_n (os_n (os_n (os_l (so_iconst d_Rd_readBlock_158 (by decide))) (os_n (os_l (so_isub d_Rd_readBlock_159)) (os_l (so_putI (C := R_Rd) (T := F_Rd) (N := 13) (j := 8) in_Rd t_Rd_ok n_Rd rfl (by decide) mw_644 rfl (by decide +kernel) d_Rd_readBlock_160)))) (os_n (os_n (os_l (so_aload_n d_Rd_readBlock_163 rfl)) (os_l (so_bipush d_Rd_readBlock_164 (by decide)))) (os_n (os_l (so_iconst d_Rd_readBlock_166 (by decide))) (os_l (so_callV (iv := mi_Rd_makeNode) rfl rfl rfl mw_958 mw_960 sl_32 mw_13 mw_961 ⟨by decide +kernel, by decide +kernel, by decide +kernel⟩ (by decide) d_Rd_readBlock_167))))) (os_n (os_n (os_l (so_istore d_Rd_readBlock_170 (by decide))) (os_n (os_l (so_aload_n d_Rd_readBlock_172 rfl)) (os_l (so_get (C := R_Rd) (T := F_Rd) (N := 13) (j := 1) in_Rd rfl (by decide) mw_637 d_Rd_readBlock_173)))) (os_n (os_n (os_l (so_get (C := R_Pr) (T := F_Pr) (N := 18) (j := 7) in_Pr rfl (by decide) mw_450 d_Rd_readBlock_176)) (os_l (so_iload d_Rd_readBlock_179))) (os_n (os_l (so_iload_n d_Rd_readBlock_181 rfl)) (os_l (so_iastore d_Rd_readBlock_182)))))) (os_n (os_n (os_n (os_l (so_aload_n d_Rd_readBlock_183 rfl)) (os_n (os_l (so_get (C := R_Rd) (T := F_Rd) (N := 13) (j := 10) in_Rd rfl (by decide) mw_646 d_Rd_readBlock_184)) (os_l (so_iload d_Rd_readBlock_187)))) (os_n (os_n (os_l (so_iload_n d_Rd_readBlock_189 rfl)) (os_l (so_iastore d_Rd_readBlock_190))) (os_n (os_l (so_aload_n d_Rd_readBlock_191 rfl)) (os_l (so_get (C := R_Rd) (T := F_Rd) (N := 13) (j := 11) in_Rd rfl (by decide) mw_647 d_Rd_readBlock_192))))) (os_n (os_n (os_l (so_iload d_Rd_readBlock_195)) (os_n (os_l (so_iload d_Rd_readBlock_197)) (os_l (so_iconst d_Rd_readBlock_199 (by decide))))) (os_n (os_n (os_l (so_iadd d_Rd_readBlock_200)) (os_l (so_iastore d_Rd_readBlock_201))) (os_n (os_l (so_iload d_Rd_readBlock_202)) (os_l (so_ireturn rfl d_Rd_readBlock_204)))))))))
abbrev t_Rd_readStatement_156 : List UInt8 := 172 :: []
abbrev t_Rd_readStatement_153 : List UInt8 := 182 :: 0 :: 203 :: t_Rd_readStatement_156
abbrev t_Rd_readStatement_152 : List UInt8 := 27 :: t_Rd_readStatement_153
abbrev t_Rd_readStatement_151 : List UInt8 := 42 :: t_Rd_readStatement_152
abbrev t_Rd_readStatement_150 : List UInt8 := 172 :: t_Rd_readStatement_151
abbrev t_Rd_readStatement_147 : List UInt8 := 182 :: 0 :: 200 :: t_Rd_readStatement_150
abbrev t_Rd_readStatement_146 : List UInt8 := 27 :: t_Rd_readStatement_147
abbrev t_Rd_readStatement_145 : List UInt8 := 42 :: t_Rd_readStatement_146
abbrev t_Rd_readStatement_144 : List UInt8 := 172 :: t_Rd_readStatement_145
abbrev t_Rd_readStatement_141 : List UInt8 := 182 :: 0 :: 197 :: t_Rd_readStatement_144
abbrev t_Rd_readStatement_140 : List UInt8 := 42 :: t_Rd_readStatement_141
abbrev t_Rd_readStatement_139 : List UInt8 := 172 :: t_Rd_readStatement_140
abbrev t_Rd_readStatement_136 : List UInt8 := 182 :: 0 :: 194 :: t_Rd_readStatement_139
abbrev t_Rd_readStatement_135 : List UInt8 := 27 :: t_Rd_readStatement_136
abbrev t_Rd_readStatement_134 : List UInt8 := 42 :: t_Rd_readStatement_135
abbrev t_Rd_readStatement_133 : List UInt8 := 172 :: t_Rd_readStatement_134
abbrev t_Rd_readStatement_130 : List UInt8 := 182 :: 0 :: 191 :: t_Rd_readStatement_133
abbrev t_Rd_readStatement_129 : List UInt8 := 27 :: t_Rd_readStatement_130
abbrev t_Rd_readStatement_128 : List UInt8 := 42 :: t_Rd_readStatement_129
abbrev t_Rd_readStatement_72 : List UInt8 := 170 :: 0 :: 0 :: 0 :: 0 :: 0 :: 0 :: 79 :: 0 :: 0 :: 0 :: 11 :: 0 :: 0 :: 0 :: 20 :: 0 :: 0 :: 0 :: 56 :: 0 :: 0 :: 0 :: 62 :: 0 :: 0 :: 0 :: 62 :: 0 :: 0 :: 0 :: 56 :: 0 :: 0 :: 0 :: 79 :: 0 :: 0 :: 0 :: 68 :: 0 :: 0 :: 0 :: 73 :: 0 :: 0 :: 0 :: 79 :: 0 :: 0 :: 0 :: 73 :: 0 :: 0 :: 0 :: 73 :: t_Rd_readStatement_128
abbrev t_Rd_readStatement_71 : List UInt8 := 27 :: t_Rd_readStatement_72
abbrev t_Rd_readStatement_68 : List UInt8 := 182 :: 0 :: 63 :: t_Rd_readStatement_71
abbrev t_Rd_readStatement_67 : List UInt8 := 42 :: t_Rd_readStatement_68
abbrev t_Rd_readStatement_64 : List UInt8 := 181 :: 0 :: 188 :: t_Rd_readStatement_67
abbrev t_Rd_readStatement_63 : List UInt8 := 96 :: t_Rd_readStatement_64
abbrev t_Rd_readStatement_62 : List UInt8 := 4 :: t_Rd_readStatement_63
abbrev t_Rd_readStatement_59 : List UInt8 := 180 :: 0 :: 188 :: t_Rd_readStatement_62
abbrev t_Rd_readStatement_58 : List UInt8 := 89 :: t_Rd_readStatement_59
abbrev t_Rd_readStatement_55 : List UInt8 := 180 :: 0 :: 44 :: t_Rd_readStatement_58
abbrev t_Rd_readStatement_54 : List UInt8 := 42 :: t_Rd_readStatement_55
abbrev t_Rd_readStatement_53 : List UInt8 := 172 :: t_Rd_readStatement_54
abbrev t_Rd_readStatement_52 : List UInt8 := 3 :: t_Rd_readStatement_53
abbrev t_Rd_readStatement_49 : List UInt8 := 182 :: 0 :: 108 :: t_Rd_readStatement_52
abbrev t_Rd_readStatement_48 : List UInt8 := 42 :: t_Rd_readStatement_49
abbrev t_Rd_readStatement_45 : List UInt8 := 160 :: 0 :: 9 :: t_Rd_readStatement_48
abbrev t_Rd_readStatement_43 : List UInt8 := 16 :: 21 :: t_Rd_readStatement_45
abbrev t_Rd_readStatement_42 : List UInt8 := 27 :: t_Rd_readStatement_43
abbrev t_Rd_readStatement_39 : List UInt8 := 159 :: 0 :: 9 :: t_Rd_readStatement_42
abbrev t_Rd_readStatement_37 : List UInt8 := 16 :: 18 :: t_Rd_readStatement_39
abbrev t_Rd_readStatement_36 : List UInt8 := 27 :: t_Rd_readStatement_37
abbrev t_Rd_readStatement_33 : List UInt8 := 159 :: 0 :: 15 :: t_Rd_readStatement_36
abbrev t_Rd_readStatement_31 : List UInt8 := 16 :: 15 :: t_Rd_readStatement_33
abbrev t_Rd_readStatement_30 : List UInt8 := 27 :: t_Rd_readStatement_31
abbrev t_Rd_readStatement_29 : List UInt8 := 172 :: t_Rd_readStatement_30
abbrev t_Rd_readStatement_28 : List UInt8 := 3 :: t_Rd_readStatement_29
abbrev t_Rd_readStatement_25 : List UInt8 := 182 :: 0 :: 108 :: t_Rd_readStatement_28
abbrev t_Rd_readStatement_24 : List UInt8 := 42 :: t_Rd_readStatement_25
abbrev t_Rd_readStatement_21 : List UInt8 := 164 :: 0 :: 9 :: t_Rd_readStatement_24
abbrev t_Rd_readStatement_19 : List UInt8 := 16 :: 26 :: t_Rd_readStatement_21
abbrev t_Rd_readStatement_18 : List UInt8 := 27 :: t_Rd_readStatement_19
abbrev t_Rd_readStatement_15 : List UInt8 := 161 :: 0 :: 9 :: t_Rd_readStatement_18
abbrev t_Rd_readStatement_13 : List UInt8 := 16 :: 11 :: t_Rd_readStatement_15
abbrev t_Rd_readStatement_12 : List UInt8 := 27 :: t_Rd_readStatement_13
abbrev t_Rd_readStatement_9 : List UInt8 := 156 :: 0 :: 15 :: t_Rd_readStatement_12
abbrev t_Rd_readStatement_6 : List UInt8 := 180 :: 0 :: 60 :: t_Rd_readStatement_9
abbrev t_Rd_readStatement_5 : List UInt8 := 42 :: t_Rd_readStatement_6
abbrev t_Rd_readStatement_4 : List UInt8 := 60 :: t_Rd_readStatement_5
abbrev t_Rd_readStatement_1 : List UInt8 := 180 :: 0 :: 66 :: t_Rd_readStatement_4
abbrev t_Rd_readStatement_0 : List UInt8 := 42 :: t_Rd_readStatement_1
theorem a_Rd_readStatement_0 : dk_at b_Rd_readStatement 0 t_Rd_readStatement_0 := dk_start (by decide +kernel)
theorem a_Rd_readStatement_1 : dk_at b_Rd_readStatement 1 t_Rd_readStatement_1 := dk_go 1 a_Rd_readStatement_0 rfl
theorem a_Rd_readStatement_4 : dk_at b_Rd_readStatement 4 t_Rd_readStatement_4 := dk_go 3 a_Rd_readStatement_1 rfl
theorem a_Rd_readStatement_5 : dk_at b_Rd_readStatement 5 t_Rd_readStatement_5 := dk_go 1 a_Rd_readStatement_4 rfl
theorem a_Rd_readStatement_6 : dk_at b_Rd_readStatement 6 t_Rd_readStatement_6 := dk_go 1 a_Rd_readStatement_5 rfl
theorem a_Rd_readStatement_9 : dk_at b_Rd_readStatement 9 t_Rd_readStatement_9 := dk_go 3 a_Rd_readStatement_6 rfl
theorem a_Rd_readStatement_12 : dk_at b_Rd_readStatement 12 t_Rd_readStatement_12 := dk_go 3 a_Rd_readStatement_9 rfl
theorem a_Rd_readStatement_13 : dk_at b_Rd_readStatement 13 t_Rd_readStatement_13 := dk_go 1 a_Rd_readStatement_12 rfl
theorem a_Rd_readStatement_15 : dk_at b_Rd_readStatement 15 t_Rd_readStatement_15 := dk_go 2 a_Rd_readStatement_13 rfl
theorem a_Rd_readStatement_18 : dk_at b_Rd_readStatement 18 t_Rd_readStatement_18 := dk_go 3 a_Rd_readStatement_15 rfl
theorem a_Rd_readStatement_19 : dk_at b_Rd_readStatement 19 t_Rd_readStatement_19 := dk_go 1 a_Rd_readStatement_18 rfl
theorem a_Rd_readStatement_21 : dk_at b_Rd_readStatement 21 t_Rd_readStatement_21 := dk_go 2 a_Rd_readStatement_19 rfl
theorem a_Rd_readStatement_24 : dk_at b_Rd_readStatement 24 t_Rd_readStatement_24 := dk_go 3 a_Rd_readStatement_21 rfl
theorem a_Rd_readStatement_25 : dk_at b_Rd_readStatement 25 t_Rd_readStatement_25 := dk_go 1 a_Rd_readStatement_24 rfl
theorem a_Rd_readStatement_28 : dk_at b_Rd_readStatement 28 t_Rd_readStatement_28 := dk_go 3 a_Rd_readStatement_25 rfl
theorem a_Rd_readStatement_29 : dk_at b_Rd_readStatement 29 t_Rd_readStatement_29 := dk_go 1 a_Rd_readStatement_28 rfl
theorem a_Rd_readStatement_30 : dk_at b_Rd_readStatement 30 t_Rd_readStatement_30 := dk_go 1 a_Rd_readStatement_29 rfl
theorem a_Rd_readStatement_31 : dk_at b_Rd_readStatement 31 t_Rd_readStatement_31 := dk_go 1 a_Rd_readStatement_30 rfl
theorem a_Rd_readStatement_33 : dk_at b_Rd_readStatement 33 t_Rd_readStatement_33 := dk_go 2 a_Rd_readStatement_31 rfl
theorem a_Rd_readStatement_36 : dk_at b_Rd_readStatement 36 t_Rd_readStatement_36 := dk_go 3 a_Rd_readStatement_33 rfl
theorem a_Rd_readStatement_37 : dk_at b_Rd_readStatement 37 t_Rd_readStatement_37 := dk_go 1 a_Rd_readStatement_36 rfl
theorem a_Rd_readStatement_39 : dk_at b_Rd_readStatement 39 t_Rd_readStatement_39 := dk_go 2 a_Rd_readStatement_37 rfl
theorem a_Rd_readStatement_42 : dk_at b_Rd_readStatement 42 t_Rd_readStatement_42 := dk_go 3 a_Rd_readStatement_39 rfl
theorem a_Rd_readStatement_43 : dk_at b_Rd_readStatement 43 t_Rd_readStatement_43 := dk_go 1 a_Rd_readStatement_42 rfl
theorem a_Rd_readStatement_45 : dk_at b_Rd_readStatement 45 t_Rd_readStatement_45 := dk_go 2 a_Rd_readStatement_43 rfl
theorem a_Rd_readStatement_48 : dk_at b_Rd_readStatement 48 t_Rd_readStatement_48 := dk_go 3 a_Rd_readStatement_45 rfl
theorem a_Rd_readStatement_49 : dk_at b_Rd_readStatement 49 t_Rd_readStatement_49 := dk_go 1 a_Rd_readStatement_48 rfl
theorem a_Rd_readStatement_52 : dk_at b_Rd_readStatement 52 t_Rd_readStatement_52 := dk_go 3 a_Rd_readStatement_49 rfl
theorem a_Rd_readStatement_53 : dk_at b_Rd_readStatement 53 t_Rd_readStatement_53 := dk_go 1 a_Rd_readStatement_52 rfl
theorem a_Rd_readStatement_54 : dk_at b_Rd_readStatement 54 t_Rd_readStatement_54 := dk_go 1 a_Rd_readStatement_53 rfl
theorem a_Rd_readStatement_55 : dk_at b_Rd_readStatement 55 t_Rd_readStatement_55 := dk_go 1 a_Rd_readStatement_54 rfl
theorem a_Rd_readStatement_58 : dk_at b_Rd_readStatement 58 t_Rd_readStatement_58 := dk_go 3 a_Rd_readStatement_55 rfl
theorem a_Rd_readStatement_59 : dk_at b_Rd_readStatement 59 t_Rd_readStatement_59 := dk_go 1 a_Rd_readStatement_58 rfl
theorem a_Rd_readStatement_62 : dk_at b_Rd_readStatement 62 t_Rd_readStatement_62 := dk_go 3 a_Rd_readStatement_59 rfl
theorem a_Rd_readStatement_63 : dk_at b_Rd_readStatement 63 t_Rd_readStatement_63 := dk_go 1 a_Rd_readStatement_62 rfl
theorem a_Rd_readStatement_64 : dk_at b_Rd_readStatement 64 t_Rd_readStatement_64 := dk_go 1 a_Rd_readStatement_63 rfl
theorem a_Rd_readStatement_67 : dk_at b_Rd_readStatement 67 t_Rd_readStatement_67 := dk_go 3 a_Rd_readStatement_64 rfl
theorem a_Rd_readStatement_68 : dk_at b_Rd_readStatement 68 t_Rd_readStatement_68 := dk_go 1 a_Rd_readStatement_67 rfl
theorem a_Rd_readStatement_71 : dk_at b_Rd_readStatement 71 t_Rd_readStatement_71 := dk_go 3 a_Rd_readStatement_68 rfl
theorem a_Rd_readStatement_72 : dk_at b_Rd_readStatement 72 t_Rd_readStatement_72 := dk_go 1 a_Rd_readStatement_71 rfl
theorem a_Rd_readStatement_128 : dk_at b_Rd_readStatement 128 t_Rd_readStatement_128 := dk_go 56 a_Rd_readStatement_72 rfl
theorem a_Rd_readStatement_129 : dk_at b_Rd_readStatement 129 t_Rd_readStatement_129 := dk_go 1 a_Rd_readStatement_128 rfl
theorem a_Rd_readStatement_130 : dk_at b_Rd_readStatement 130 t_Rd_readStatement_130 := dk_go 1 a_Rd_readStatement_129 rfl
theorem a_Rd_readStatement_133 : dk_at b_Rd_readStatement 133 t_Rd_readStatement_133 := dk_go 3 a_Rd_readStatement_130 rfl
theorem a_Rd_readStatement_134 : dk_at b_Rd_readStatement 134 t_Rd_readStatement_134 := dk_go 1 a_Rd_readStatement_133 rfl
theorem a_Rd_readStatement_135 : dk_at b_Rd_readStatement 135 t_Rd_readStatement_135 := dk_go 1 a_Rd_readStatement_134 rfl
theorem a_Rd_readStatement_136 : dk_at b_Rd_readStatement 136 t_Rd_readStatement_136 := dk_go 1 a_Rd_readStatement_135 rfl
theorem a_Rd_readStatement_139 : dk_at b_Rd_readStatement 139 t_Rd_readStatement_139 := dk_go 3 a_Rd_readStatement_136 rfl
theorem a_Rd_readStatement_140 : dk_at b_Rd_readStatement 140 t_Rd_readStatement_140 := dk_go 1 a_Rd_readStatement_139 rfl
theorem a_Rd_readStatement_141 : dk_at b_Rd_readStatement 141 t_Rd_readStatement_141 := dk_go 1 a_Rd_readStatement_140 rfl
theorem a_Rd_readStatement_144 : dk_at b_Rd_readStatement 144 t_Rd_readStatement_144 := dk_go 3 a_Rd_readStatement_141 rfl
theorem a_Rd_readStatement_145 : dk_at b_Rd_readStatement 145 t_Rd_readStatement_145 := dk_go 1 a_Rd_readStatement_144 rfl
theorem a_Rd_readStatement_146 : dk_at b_Rd_readStatement 146 t_Rd_readStatement_146 := dk_go 1 a_Rd_readStatement_145 rfl
theorem a_Rd_readStatement_147 : dk_at b_Rd_readStatement 147 t_Rd_readStatement_147 := dk_go 1 a_Rd_readStatement_146 rfl
theorem a_Rd_readStatement_150 : dk_at b_Rd_readStatement 150 t_Rd_readStatement_150 := dk_go 3 a_Rd_readStatement_147 rfl
theorem a_Rd_readStatement_151 : dk_at b_Rd_readStatement 151 t_Rd_readStatement_151 := dk_go 1 a_Rd_readStatement_150 rfl
theorem a_Rd_readStatement_152 : dk_at b_Rd_readStatement 152 t_Rd_readStatement_152 := dk_go 1 a_Rd_readStatement_151 rfl
theorem a_Rd_readStatement_153 : dk_at b_Rd_readStatement 153 t_Rd_readStatement_153 := dk_go 1 a_Rd_readStatement_152 rfl
theorem a_Rd_readStatement_156 : dk_at b_Rd_readStatement 156 t_Rd_readStatement_156 := dk_go 3 a_Rd_readStatement_153 rfl
theorem d_Rd_readStatement_0 : decode b_Rd_readStatement 0 = .ok (.aload_n 0, 1) := dk_0 a_Rd_readStatement_0 (dko_42 _)
theorem d_Rd_readStatement_1 : decode b_Rd_readStatement 1 = .ok (.getfield 66, 3) := dk_U2 a_Rd_readStatement_1 (dko_180 _) rfl
theorem d_Rd_readStatement_4 : decode b_Rd_readStatement 4 = .ok (.istore_n 1, 1) := dk_0 a_Rd_readStatement_4 (dko_60 _)
theorem d_Rd_readStatement_5 : decode b_Rd_readStatement 5 = .ok (.aload_n 0, 1) := dk_0 a_Rd_readStatement_5 (dko_42 _)
theorem d_Rd_readStatement_6 : decode b_Rd_readStatement 6 = .ok (.getfield 60, 3) := dk_U2 a_Rd_readStatement_6 (dko_180 _) rfl
theorem d_Rd_readStatement_9 : decode b_Rd_readStatement 9 = .ok (.ifCond .ge 15, 3) := dk_S2 a_Rd_readStatement_9 (dko_156 _) (by decide +kernel)
theorem d_Rd_readStatement_12 : decode b_Rd_readStatement 12 = .ok (.iload_n 1, 1) := dk_0 a_Rd_readStatement_12 (dko_27 _)
theorem d_Rd_readStatement_13 : decode b_Rd_readStatement 13 = .ok (.bipush 11, 2) := dk_S1 a_Rd_readStatement_13 (dko_16 _) (by decide +kernel)
theorem d_Rd_readStatement_15 : decode b_Rd_readStatement 15 = .ok (.if_icmp .lt 9, 3) := dk_S2 a_Rd_readStatement_15 (dko_161 _) (by decide +kernel)
theorem d_Rd_readStatement_18 : decode b_Rd_readStatement 18 = .ok (.iload_n 1, 1) := dk_0 a_Rd_readStatement_18 (dko_27 _)
theorem d_Rd_readStatement_19 : decode b_Rd_readStatement 19 = .ok (.bipush 26, 2) := dk_S1 a_Rd_readStatement_19 (dko_16 _) (by decide +kernel)
theorem d_Rd_readStatement_21 : decode b_Rd_readStatement 21 = .ok (.if_icmp .le 9, 3) := dk_S2 a_Rd_readStatement_21 (dko_164 _) (by decide +kernel)
theorem d_Rd_readStatement_24 : decode b_Rd_readStatement 24 = .ok (.aload_n 0, 1) := dk_0 a_Rd_readStatement_24 (dko_42 _)
theorem d_Rd_readStatement_25 : decode b_Rd_readStatement 25 = .ok (.invokevirtual 108, 3) := dk_U2 a_Rd_readStatement_25 (dko_182 _) rfl
theorem d_Rd_readStatement_28 : decode b_Rd_readStatement 28 = .ok (.iconst 0, 1) := dk_0 a_Rd_readStatement_28 (dko_3 _)
theorem d_Rd_readStatement_29 : decode b_Rd_readStatement 29 = .ok (.ireturn, 1) := dk_0 a_Rd_readStatement_29 (dko_172 _)
theorem d_Rd_readStatement_30 : decode b_Rd_readStatement 30 = .ok (.iload_n 1, 1) := dk_0 a_Rd_readStatement_30 (dko_27 _)
theorem d_Rd_readStatement_31 : decode b_Rd_readStatement 31 = .ok (.bipush 15, 2) := dk_S1 a_Rd_readStatement_31 (dko_16 _) (by decide +kernel)
theorem d_Rd_readStatement_33 : decode b_Rd_readStatement 33 = .ok (.if_icmp .eq 15, 3) := dk_S2 a_Rd_readStatement_33 (dko_159 _) (by decide +kernel)
theorem d_Rd_readStatement_36 : decode b_Rd_readStatement 36 = .ok (.iload_n 1, 1) := dk_0 a_Rd_readStatement_36 (dko_27 _)
theorem d_Rd_readStatement_37 : decode b_Rd_readStatement 37 = .ok (.bipush 18, 2) := dk_S1 a_Rd_readStatement_37 (dko_16 _) (by decide +kernel)
theorem d_Rd_readStatement_39 : decode b_Rd_readStatement 39 = .ok (.if_icmp .eq 9, 3) := dk_S2 a_Rd_readStatement_39 (dko_159 _) (by decide +kernel)
theorem d_Rd_readStatement_42 : decode b_Rd_readStatement 42 = .ok (.iload_n 1, 1) := dk_0 a_Rd_readStatement_42 (dko_27 _)
theorem d_Rd_readStatement_43 : decode b_Rd_readStatement 43 = .ok (.bipush 21, 2) := dk_S1 a_Rd_readStatement_43 (dko_16 _) (by decide +kernel)
theorem d_Rd_readStatement_45 : decode b_Rd_readStatement 45 = .ok (.if_icmp .ne 9, 3) := dk_S2 a_Rd_readStatement_45 (dko_160 _) (by decide +kernel)
theorem d_Rd_readStatement_48 : decode b_Rd_readStatement 48 = .ok (.aload_n 0, 1) := dk_0 a_Rd_readStatement_48 (dko_42 _)
theorem d_Rd_readStatement_49 : decode b_Rd_readStatement 49 = .ok (.invokevirtual 108, 3) := dk_U2 a_Rd_readStatement_49 (dko_182 _) rfl
theorem d_Rd_readStatement_52 : decode b_Rd_readStatement 52 = .ok (.iconst 0, 1) := dk_0 a_Rd_readStatement_52 (dko_3 _)
theorem d_Rd_readStatement_53 : decode b_Rd_readStatement 53 = .ok (.ireturn, 1) := dk_0 a_Rd_readStatement_53 (dko_172 _)
theorem d_Rd_readStatement_54 : decode b_Rd_readStatement 54 = .ok (.aload_n 0, 1) := dk_0 a_Rd_readStatement_54 (dko_42 _)
theorem d_Rd_readStatement_55 : decode b_Rd_readStatement 55 = .ok (.getfield 44, 3) := dk_U2 a_Rd_readStatement_55 (dko_180 _) rfl
theorem d_Rd_readStatement_58 : decode b_Rd_readStatement 58 = .ok (.dup, 1) := dk_0 a_Rd_readStatement_58 (dko_89 _)
theorem d_Rd_readStatement_59 : decode b_Rd_readStatement 59 = .ok (.getfield 188, 3) := dk_U2 a_Rd_readStatement_59 (dko_180 _) rfl
theorem d_Rd_readStatement_62 : decode b_Rd_readStatement 62 = .ok (.iconst 1, 1) := dk_0 a_Rd_readStatement_62 (dko_4 _)
theorem d_Rd_readStatement_63 : decode b_Rd_readStatement 63 = .ok (.iadd, 1) := dk_0 a_Rd_readStatement_63 (dko_96 _)
theorem d_Rd_readStatement_64 : decode b_Rd_readStatement 64 = .ok (.putfield 188, 3) := dk_U2 a_Rd_readStatement_64 (dko_181 _) rfl
theorem d_Rd_readStatement_67 : decode b_Rd_readStatement 67 = .ok (.aload_n 0, 1) := dk_0 a_Rd_readStatement_67 (dko_42 _)
theorem d_Rd_readStatement_68 : decode b_Rd_readStatement 68 = .ok (.invokevirtual 63, 3) := dk_U2 a_Rd_readStatement_68 (dko_182 _) rfl
theorem d_Rd_readStatement_71 : decode b_Rd_readStatement 71 = .ok (.iload_n 1, 1) := dk_0 a_Rd_readStatement_71 (dko_27 _)
theorem d_Rd_readStatement_72 : decode b_Rd_readStatement 72 = .ok (.tableswitch 79 11 20 #[56, 62, 62, 56, 79, 68, 73, 79, 73, 73], 56) := by decide +kernel
theorem d_Rd_readStatement_128 : decode b_Rd_readStatement 128 = .ok (.aload_n 0, 1) := dk_0 a_Rd_readStatement_128 (dko_42 _)
theorem d_Rd_readStatement_129 : decode b_Rd_readStatement 129 = .ok (.iload_n 1, 1) := dk_0 a_Rd_readStatement_129 (dko_27 _)
theorem d_Rd_readStatement_130 : decode b_Rd_readStatement 130 = .ok (.invokevirtual 191, 3) := dk_U2 a_Rd_readStatement_130 (dko_182 _) rfl
theorem d_Rd_readStatement_133 : decode b_Rd_readStatement 133 = .ok (.ireturn, 1) := dk_0 a_Rd_readStatement_133 (dko_172 _)
theorem d_Rd_readStatement_134 : decode b_Rd_readStatement 134 = .ok (.aload_n 0, 1) := dk_0 a_Rd_readStatement_134 (dko_42 _)
theorem d_Rd_readStatement_135 : decode b_Rd_readStatement 135 = .ok (.iload_n 1, 1) := dk_0 a_Rd_readStatement_135 (dko_27 _)
theorem d_Rd_readStatement_136 : decode b_Rd_readStatement 136 = .ok (.invokevirtual 194, 3) := dk_U2 a_Rd_readStatement_136 (dko_182 _) rfl
theorem d_Rd_readStatement_139 : decode b_Rd_readStatement 139 = .ok (.ireturn, 1) := dk_0 a_Rd_readStatement_139 (dko_172 _)
theorem d_Rd_readStatement_140 : decode b_Rd_readStatement 140 = .ok (.aload_n 0, 1) := dk_0 a_Rd_readStatement_140 (dko_42 _)
theorem d_Rd_readStatement_141 : decode b_Rd_readStatement 141 = .ok (.invokevirtual 197, 3) := dk_U2 a_Rd_readStatement_141 (dko_182 _) rfl
theorem d_Rd_readStatement_144 : decode b_Rd_readStatement 144 = .ok (.ireturn, 1) := dk_0 a_Rd_readStatement_144 (dko_172 _)
theorem d_Rd_readStatement_145 : decode b_Rd_readStatement 145 = .ok (.aload_n 0, 1) := dk_0 a_Rd_readStatement_145 (dko_42 _)
theorem d_Rd_readStatement_146 : decode b_Rd_readStatement 146 = .ok (.iload_n 1, 1) := dk_0 a_Rd_readStatement_146 (dko_27 _)
theorem d_Rd_readStatement_147 : decode b_Rd_readStatement 147 = .ok (.invokevirtual 200, 3) := dk_U2 a_Rd_readStatement_147 (dko_182 _) rfl
theorem d_Rd_readStatement_150 : decode b_Rd_readStatement 150 = .ok (.ireturn, 1) := dk_0 a_Rd_readStatement_150 (dko_172 _)
theorem d_Rd_readStatement_151 : decode b_Rd_readStatement 151 = .ok (.aload_n 0, 1) := dk_0 a_Rd_readStatement_151 (dko_42 _)
theorem d_Rd_readStatement_152 : decode b_Rd_readStatement 152 = .ok (.iload_n 1, 1) := dk_0 a_Rd_readStatement_152 (dko_27 _)
theorem d_Rd_readStatement_153 : decode b_Rd_readStatement 153 = .ok (.invokevirtual 203, 3) := dk_U2 a_Rd_readStatement_153 (dko_182 _) rfl
theorem d_Rd_readStatement_156 : decode b_Rd_readStatement 156 = .ok (.ireturn, 1) := dk_0 a_Rd_readStatement_156 (dko_172 _)
set_option maxHeartbeats 4000000 in
set_option maxRecDepth 100000 in
theorem ok_Rd_readStatement (pc : Nat) : OpS mt mi_Rd_readStatement pc (cs_Rd_readStatement pc) := (os_n (os_n (os_n (os_n (os_n (os_l (so_aload_n d_Rd_readStatement_0 rfl)) (os_n (os_l (so_get (C := R_Rd) (T := F_Rd) (N := 13) (j := 3) in_Rd rfl (by decide) mw_639 d_Rd_readStatement_1)) (os_l (so_istore_n d_Rd_readStatement_4 rfl (by decide))))) (os_n (os_n (os_l (so_aload_n d_Rd_readStatement_5 rfl)) (os_l (so_get (C := R_Rd) (T := F_Rd) (N := 13) (j := 9) in_Rd rfl (by decide) mw_645 d_Rd_readStatement_6))) (os_n (os_l (so_ifge d_Rd_readStatement_9 (by decide))) (os_l (so_iload_n d_Rd_readStatement_12 rfl))))) (os_n (os_n (os_l (so_bipush d_Rd_readStatement_13 (by decide))) (os_n (os_l (so_iclt d_Rd_readStatement_15 (by decide))) (os_l (so_iload_n d_Rd_readStatement_18 rfl)))) (os_n (os_n (os_l (so_bipush d_Rd_readStatement_19 (by decide))) (os_l (so_icle d_Rd_readStatement_21 (by decide)))) (os_n (os_l (so_aload_n d_Rd_readStatement_24 rfl)) (os_l (so_callV (iv := mi_Rd_fail) rfl rfl rfl mw_915 mw_917 sl_24 mw_13 mw_918 ⟨by decide +kernel, by decide +kernel, by decide +kernel⟩ (by decide) d_Rd_readStatement_25)))))) (os_n (os_n (os_n (os_l (so_iconst d_Rd_readStatement_28 (by decide))) (os_n (os_l (so_ireturn rfl d_Rd_readStatement_29)) (os_l (so_iload_n d_Rd_readStatement_30 rfl)))) (os_n (os_n (os_l (so_bipush d_Rd_readStatement_31 (by decide))) (os_l (so_iceq d_Rd_readStatement_33 (by decide)))) (os_n (os_l (so_iload_n d_Rd_readStatement_36 rfl)) (os_l (so_bipush d_Rd_readStatement_37 (by decide)))))) (os_n (os_n (os_n (os_l (so_iceq d_Rd_readStatement_39 (by decide))) (os_l (so_iload_n d_Rd_readStatement_42 rfl))) (os_n (os_l (so_bipush d_Rd_readStatement_43 (by decide))) (os_l (so_icne d_Rd_readStatement_45 (by decide))))) (os_n (os_n (os_l (so_aload_n d_Rd_readStatement_48 rfl)) (os_l (so_callV (iv := mi_Rd_fail) rfl rfl rfl mw_915 mw_917 sl_24 mw_13 mw_918 ⟨by decide +kernel, by decide +kernel, by decide +kernel⟩ (by decide) d_Rd_readStatement_49))) (os_n (os_l (so_iconst d_Rd_readStatement_52 (by decide))) (os_l (so_ireturn rfl d_Rd_readStatement_53))))))) (os_n (os_n (os_n (os_n (os_l (so_aload_n d_Rd_readStatement_54 rfl)) (os_n (os_l (so_get (C := R_Rd) (T := F_Rd) (N := 13) (j := 1) in_Rd rfl (by decide) mw_637 d_Rd_readStatement_55)) (os_l (so_dup d_Rd_readStatement_58)))) (os_n (os_n (os_l (so_get (C := R_Pr) (T := F_Pr) (N := 18) (j := 0) in_Pr rfl (by decide) mw_430 d_Rd_readStatement_59)) (os_l (so_iconst d_Rd_readStatement_62 (by decide)))) (os_n (os_l (so_iadd d_Rd_readStatement_63)) (os_l (so_putI (C := R_Pr) (T := F_Pr) (N := 18) (j := 0) in_Pr t_Pr_ok n_Pr rfl (by decide) mw_430 rfl (by decide +kernel) d_Rd_readStatement_64))))) (os_n (os_n (os_n (os_l (so_aload_n d_Rd_readStatement_67 rfl)) (os_l (so_callV (iv := mi_Rd_nextWord) rfl rfl rfl mw_887 mw_889 sl_20 mw_13 mw_890 ⟨by decide +kernel, by decide +kernel, by decide +kernel⟩ (by decide) d_Rd_readStatement_68))) (os_n (os_l (so_iload_n d_Rd_readStatement_71 rfl)) (os_l (so_tab d_Rd_readStatement_72 (by decide) (by decide) (by decide))))) (os_n (os_n (os_l (so_aload_n d_Rd_readStatement_128 rfl)) (os_l (so_iload_n d_Rd_readStatement_129 rfl))) (os_n (os_l (so_callV (iv := mi_Rd_readChange) rfl rfl rfl mw_935 mw_937 sl_28 mw_13 mw_938 ⟨by decide +kernel, by decide +kernel, by decide +kernel⟩ (by decide) d_Rd_readStatement_130)) (os_l (so_ireturn rfl d_Rd_readStatement_133)))))) (os_n (os_n (os_n (os_l (so_aload_n d_Rd_readStatement_134 rfl)) (os_n (os_l (so_iload_n d_Rd_readStatement_135 rfl)) (os_l (so_callV (iv := mi_Rd_readPause) rfl rfl rfl mw_987 mw_989 sl_37 mw_13 mw_990 ⟨by decide +kernel, by decide +kernel, by decide +kernel⟩ (by decide) d_Rd_readStatement_136)))) (os_n (os_n (os_l (so_ireturn rfl d_Rd_readStatement_139)) (os_l (so_aload_n d_Rd_readStatement_140 rfl))) (os_n (os_l (so_callV (iv := mi_Rd_readPar) rfl rfl rfl mw_991 mw_993 sl_38 mw_13 mw_994 ⟨by decide +kernel, by decide +kernel, by decide +kernel⟩ (by decide) d_Rd_readStatement_141)) (os_l (so_ireturn rfl d_Rd_readStatement_144))))) (os_n (os_n (os_n (os_l (so_aload_n d_Rd_readStatement_145 rfl)) (os_l (so_iload_n d_Rd_readStatement_146 rfl))) (os_n (os_l (so_callV (iv := mi_Rd_readGuarded) rfl rfl rfl mw_995 mw_997 sl_39 mw_13 mw_998 ⟨by decide +kernel, by decide +kernel, by decide +kernel⟩ (by decide) d_Rd_readStatement_147)) (os_l (so_ireturn rfl d_Rd_readStatement_150)))) (os_n (os_n (os_l (so_aload_n d_Rd_readStatement_151 rfl)) (os_l (so_iload_n d_Rd_readStatement_152 rfl))) (os_n (os_l (so_callV (iv := mi_Rd_readShort) rfl rfl rfl mw_999 mw_1001 sl_40 mw_13 mw_1002 ⟨by decide +kernel, by decide +kernel, by decide +kernel⟩ (by decide) d_Rd_readStatement_153)) (os_l (so_ireturn rfl d_Rd_readStatement_156))))))))
abbrev t_Rd_readChange_91 : List UInt8 := 172 :: []
abbrev t_Rd_readChange_88 : List UInt8 := 182 :: 0 :: 219 :: t_Rd_readChange_91
abbrev t_Rd_readChange_86 : List UInt8 := 21 :: 4 :: t_Rd_readChange_88
abbrev t_Rd_readChange_85 : List UInt8 := 29 :: t_Rd_readChange_86
abbrev t_Rd_readChange_82 : List UInt8 := 182 :: 0 :: 79 :: t_Rd_readChange_85
abbrev t_Rd_readChange_81 : List UInt8 := 28 :: t_Rd_readChange_82
abbrev t_Rd_readChange_80 : List UInt8 := 27 :: t_Rd_readChange_81
abbrev t_Rd_readChange_79 : List UInt8 := 42 :: t_Rd_readChange_80
abbrev t_Rd_readChange_78 : List UInt8 := 42 :: t_Rd_readChange_79
abbrev t_Rd_readChange_75 : List UInt8 := 182 :: 0 :: 83 :: t_Rd_readChange_78
abbrev t_Rd_readChange_73 : List UInt8 := 16 :: 59 :: t_Rd_readChange_75
abbrev t_Rd_readChange_72 : List UInt8 := 42 :: t_Rd_readChange_73
abbrev t_Rd_readChange_69 : List UInt8 := 182 :: 0 :: 215 :: t_Rd_readChange_72
abbrev t_Rd_readChange_68 : List UInt8 := 6 :: t_Rd_readChange_69
abbrev t_Rd_readChange_65 : List UInt8 := 182 :: 0 :: 209 :: t_Rd_readChange_68
abbrev t_Rd_readChange_64 : List UInt8 := 4 :: t_Rd_readChange_65
abbrev t_Rd_readChange_63 : List UInt8 := 42 :: t_Rd_readChange_64
abbrev t_Rd_readChange_62 : List UInt8 := 42 :: t_Rd_readChange_63
abbrev t_Rd_readChange_59 : List UInt8 := 182 :: 0 :: 83 :: t_Rd_readChange_62
abbrev t_Rd_readChange_57 : List UInt8 := 16 :: 15 :: t_Rd_readChange_59
abbrev t_Rd_readChange_56 : List UInt8 := 42 :: t_Rd_readChange_57
abbrev t_Rd_readChange_53 : List UInt8 := 160 :: 0 :: 19 :: t_Rd_readChange_56
abbrev t_Rd_readChange_51 : List UInt8 := 16 :: 14 :: t_Rd_readChange_53
abbrev t_Rd_readChange_50 : List UInt8 := 27 :: t_Rd_readChange_51
abbrev t_Rd_readChange_48 : List UInt8 := 54 :: 4 :: t_Rd_readChange_50
abbrev t_Rd_readChange_45 : List UInt8 := 180 :: 0 :: 160 :: t_Rd_readChange_48
abbrev t_Rd_readChange_42 : List UInt8 := 180 :: 0 :: 44 :: t_Rd_readChange_45
abbrev t_Rd_readChange_41 : List UInt8 := 42 :: t_Rd_readChange_42
abbrev t_Rd_readChange_38 : List UInt8 := 182 :: 0 :: 215 :: t_Rd_readChange_41
abbrev t_Rd_readChange_37 : List UInt8 := 46 :: t_Rd_readChange_38
abbrev t_Rd_readChange_36 : List UInt8 := 28 :: t_Rd_readChange_37
abbrev t_Rd_readChange_33 : List UInt8 := 180 :: 0 :: 212 :: t_Rd_readChange_36
abbrev t_Rd_readChange_30 : List UInt8 := 180 :: 0 :: 44 :: t_Rd_readChange_33
abbrev t_Rd_readChange_29 : List UInt8 := 42 :: t_Rd_readChange_30
abbrev t_Rd_readChange_26 : List UInt8 := 167 :: 0 :: 12 :: t_Rd_readChange_29
abbrev t_Rd_readChange_25 : List UInt8 := 3 :: t_Rd_readChange_26
abbrev t_Rd_readChange_22 : List UInt8 := 156 :: 0 :: 7 :: t_Rd_readChange_25
abbrev t_Rd_readChange_21 : List UInt8 := 28 :: t_Rd_readChange_22
abbrev t_Rd_readChange_18 : List UInt8 := 182 :: 0 :: 209 :: t_Rd_readChange_21
abbrev t_Rd_readChange_17 : List UInt8 := 4 :: t_Rd_readChange_18
abbrev t_Rd_readChange_16 : List UInt8 := 42 :: t_Rd_readChange_17
abbrev t_Rd_readChange_15 : List UInt8 := 42 :: t_Rd_readChange_16
abbrev t_Rd_readChange_14 : List UInt8 := 62 :: t_Rd_readChange_15
abbrev t_Rd_readChange_11 : List UInt8 := 180 :: 0 :: 160 :: t_Rd_readChange_14
abbrev t_Rd_readChange_8 : List UInt8 := 180 :: 0 :: 44 :: t_Rd_readChange_11
abbrev t_Rd_readChange_7 : List UInt8 := 42 :: t_Rd_readChange_8
abbrev t_Rd_readChange_6 : List UInt8 := 61 :: t_Rd_readChange_7
abbrev t_Rd_readChange_3 : List UInt8 := 182 :: 0 :: 206 :: t_Rd_readChange_6
abbrev t_Rd_readChange_1 : List UInt8 := 16 :: 9 :: t_Rd_readChange_3
abbrev t_Rd_readChange_0 : List UInt8 := 42 :: t_Rd_readChange_1
theorem a_Rd_readChange_0 : dk_at b_Rd_readChange 0 t_Rd_readChange_0 := dk_start (by decide +kernel)
theorem a_Rd_readChange_1 : dk_at b_Rd_readChange 1 t_Rd_readChange_1 := dk_go 1 a_Rd_readChange_0 rfl
theorem a_Rd_readChange_3 : dk_at b_Rd_readChange 3 t_Rd_readChange_3 := dk_go 2 a_Rd_readChange_1 rfl
theorem a_Rd_readChange_6 : dk_at b_Rd_readChange 6 t_Rd_readChange_6 := dk_go 3 a_Rd_readChange_3 rfl
theorem a_Rd_readChange_7 : dk_at b_Rd_readChange 7 t_Rd_readChange_7 := dk_go 1 a_Rd_readChange_6 rfl
theorem a_Rd_readChange_8 : dk_at b_Rd_readChange 8 t_Rd_readChange_8 := dk_go 1 a_Rd_readChange_7 rfl
theorem a_Rd_readChange_11 : dk_at b_Rd_readChange 11 t_Rd_readChange_11 := dk_go 3 a_Rd_readChange_8 rfl
theorem a_Rd_readChange_14 : dk_at b_Rd_readChange 14 t_Rd_readChange_14 := dk_go 3 a_Rd_readChange_11 rfl
theorem a_Rd_readChange_15 : dk_at b_Rd_readChange 15 t_Rd_readChange_15 := dk_go 1 a_Rd_readChange_14 rfl
theorem a_Rd_readChange_16 : dk_at b_Rd_readChange 16 t_Rd_readChange_16 := dk_go 1 a_Rd_readChange_15 rfl
theorem a_Rd_readChange_17 : dk_at b_Rd_readChange 17 t_Rd_readChange_17 := dk_go 1 a_Rd_readChange_16 rfl
theorem a_Rd_readChange_18 : dk_at b_Rd_readChange 18 t_Rd_readChange_18 := dk_go 1 a_Rd_readChange_17 rfl
theorem a_Rd_readChange_21 : dk_at b_Rd_readChange 21 t_Rd_readChange_21 := dk_go 3 a_Rd_readChange_18 rfl
theorem a_Rd_readChange_22 : dk_at b_Rd_readChange 22 t_Rd_readChange_22 := dk_go 1 a_Rd_readChange_21 rfl
theorem a_Rd_readChange_25 : dk_at b_Rd_readChange 25 t_Rd_readChange_25 := dk_go 3 a_Rd_readChange_22 rfl
theorem a_Rd_readChange_26 : dk_at b_Rd_readChange 26 t_Rd_readChange_26 := dk_go 1 a_Rd_readChange_25 rfl
theorem a_Rd_readChange_29 : dk_at b_Rd_readChange 29 t_Rd_readChange_29 := dk_go 3 a_Rd_readChange_26 rfl
theorem a_Rd_readChange_30 : dk_at b_Rd_readChange 30 t_Rd_readChange_30 := dk_go 1 a_Rd_readChange_29 rfl
theorem a_Rd_readChange_33 : dk_at b_Rd_readChange 33 t_Rd_readChange_33 := dk_go 3 a_Rd_readChange_30 rfl
theorem a_Rd_readChange_36 : dk_at b_Rd_readChange 36 t_Rd_readChange_36 := dk_go 3 a_Rd_readChange_33 rfl
theorem a_Rd_readChange_37 : dk_at b_Rd_readChange 37 t_Rd_readChange_37 := dk_go 1 a_Rd_readChange_36 rfl
theorem a_Rd_readChange_38 : dk_at b_Rd_readChange 38 t_Rd_readChange_38 := dk_go 1 a_Rd_readChange_37 rfl
theorem a_Rd_readChange_41 : dk_at b_Rd_readChange 41 t_Rd_readChange_41 := dk_go 3 a_Rd_readChange_38 rfl
theorem a_Rd_readChange_42 : dk_at b_Rd_readChange 42 t_Rd_readChange_42 := dk_go 1 a_Rd_readChange_41 rfl
theorem a_Rd_readChange_45 : dk_at b_Rd_readChange 45 t_Rd_readChange_45 := dk_go 3 a_Rd_readChange_42 rfl
theorem a_Rd_readChange_48 : dk_at b_Rd_readChange 48 t_Rd_readChange_48 := dk_go 3 a_Rd_readChange_45 rfl
theorem a_Rd_readChange_50 : dk_at b_Rd_readChange 50 t_Rd_readChange_50 := dk_go 2 a_Rd_readChange_48 rfl
theorem a_Rd_readChange_51 : dk_at b_Rd_readChange 51 t_Rd_readChange_51 := dk_go 1 a_Rd_readChange_50 rfl
theorem a_Rd_readChange_53 : dk_at b_Rd_readChange 53 t_Rd_readChange_53 := dk_go 2 a_Rd_readChange_51 rfl
theorem a_Rd_readChange_56 : dk_at b_Rd_readChange 56 t_Rd_readChange_56 := dk_go 3 a_Rd_readChange_53 rfl
theorem a_Rd_readChange_57 : dk_at b_Rd_readChange 57 t_Rd_readChange_57 := dk_go 1 a_Rd_readChange_56 rfl
theorem a_Rd_readChange_59 : dk_at b_Rd_readChange 59 t_Rd_readChange_59 := dk_go 2 a_Rd_readChange_57 rfl
theorem a_Rd_readChange_62 : dk_at b_Rd_readChange 62 t_Rd_readChange_62 := dk_go 3 a_Rd_readChange_59 rfl
theorem a_Rd_readChange_63 : dk_at b_Rd_readChange 63 t_Rd_readChange_63 := dk_go 1 a_Rd_readChange_62 rfl
theorem a_Rd_readChange_64 : dk_at b_Rd_readChange 64 t_Rd_readChange_64 := dk_go 1 a_Rd_readChange_63 rfl
theorem a_Rd_readChange_65 : dk_at b_Rd_readChange 65 t_Rd_readChange_65 := dk_go 1 a_Rd_readChange_64 rfl
theorem a_Rd_readChange_68 : dk_at b_Rd_readChange 68 t_Rd_readChange_68 := dk_go 3 a_Rd_readChange_65 rfl
theorem a_Rd_readChange_69 : dk_at b_Rd_readChange 69 t_Rd_readChange_69 := dk_go 1 a_Rd_readChange_68 rfl
theorem a_Rd_readChange_72 : dk_at b_Rd_readChange 72 t_Rd_readChange_72 := dk_go 3 a_Rd_readChange_69 rfl
theorem a_Rd_readChange_73 : dk_at b_Rd_readChange 73 t_Rd_readChange_73 := dk_go 1 a_Rd_readChange_72 rfl
theorem a_Rd_readChange_75 : dk_at b_Rd_readChange 75 t_Rd_readChange_75 := dk_go 2 a_Rd_readChange_73 rfl
theorem a_Rd_readChange_78 : dk_at b_Rd_readChange 78 t_Rd_readChange_78 := dk_go 3 a_Rd_readChange_75 rfl
theorem a_Rd_readChange_79 : dk_at b_Rd_readChange 79 t_Rd_readChange_79 := dk_go 1 a_Rd_readChange_78 rfl
theorem a_Rd_readChange_80 : dk_at b_Rd_readChange 80 t_Rd_readChange_80 := dk_go 1 a_Rd_readChange_79 rfl
theorem a_Rd_readChange_81 : dk_at b_Rd_readChange 81 t_Rd_readChange_81 := dk_go 1 a_Rd_readChange_80 rfl
theorem a_Rd_readChange_82 : dk_at b_Rd_readChange 82 t_Rd_readChange_82 := dk_go 1 a_Rd_readChange_81 rfl
theorem a_Rd_readChange_85 : dk_at b_Rd_readChange 85 t_Rd_readChange_85 := dk_go 3 a_Rd_readChange_82 rfl
theorem a_Rd_readChange_86 : dk_at b_Rd_readChange 86 t_Rd_readChange_86 := dk_go 1 a_Rd_readChange_85 rfl
theorem a_Rd_readChange_88 : dk_at b_Rd_readChange 88 t_Rd_readChange_88 := dk_go 2 a_Rd_readChange_86 rfl
theorem a_Rd_readChange_91 : dk_at b_Rd_readChange 91 t_Rd_readChange_91 := dk_go 3 a_Rd_readChange_88 rfl
theorem d_Rd_readChange_0 : decode b_Rd_readChange 0 = .ok (.aload_n 0, 1) := dk_0 a_Rd_readChange_0 (dko_42 _)
theorem d_Rd_readChange_1 : decode b_Rd_readChange 1 = .ok (.bipush 9, 2) := dk_S1 a_Rd_readChange_1 (dko_16 _) (by decide +kernel)
theorem d_Rd_readChange_3 : decode b_Rd_readChange 3 = .ok (.invokevirtual 206, 3) := dk_U2 a_Rd_readChange_3 (dko_182 _) rfl
theorem d_Rd_readChange_6 : decode b_Rd_readChange 6 = .ok (.istore_n 2, 1) := dk_0 a_Rd_readChange_6 (dko_61 _)
theorem d_Rd_readChange_7 : decode b_Rd_readChange 7 = .ok (.aload_n 0, 1) := dk_0 a_Rd_readChange_7 (dko_42 _)
theorem d_Rd_readChange_8 : decode b_Rd_readChange 8 = .ok (.getfield 44, 3) := dk_U2 a_Rd_readChange_8 (dko_180 _) rfl
theorem d_Rd_readChange_11 : decode b_Rd_readChange 11 = .ok (.getfield 160, 3) := dk_U2 a_Rd_readChange_11 (dko_180 _) rfl
theorem d_Rd_readChange_14 : decode b_Rd_readChange 14 = .ok (.istore_n 3, 1) := dk_0 a_Rd_readChange_14 (dko_62 _)
theorem d_Rd_readChange_15 : decode b_Rd_readChange 15 = .ok (.aload_n 0, 1) := dk_0 a_Rd_readChange_15 (dko_42 _)
theorem d_Rd_readChange_16 : decode b_Rd_readChange 16 = .ok (.aload_n 0, 1) := dk_0 a_Rd_readChange_16 (dko_42 _)
theorem d_Rd_readChange_17 : decode b_Rd_readChange 17 = .ok (.iconst 1, 1) := dk_0 a_Rd_readChange_17 (dko_4 _)
theorem d_Rd_readChange_18 : decode b_Rd_readChange 18 = .ok (.invokevirtual 209, 3) := dk_U2 a_Rd_readChange_18 (dko_182 _) rfl
theorem d_Rd_readChange_21 : decode b_Rd_readChange 21 = .ok (.iload_n 2, 1) := dk_0 a_Rd_readChange_21 (dko_28 _)
theorem d_Rd_readChange_22 : decode b_Rd_readChange 22 = .ok (.ifCond .ge 7, 3) := dk_S2 a_Rd_readChange_22 (dko_156 _) (by decide +kernel)
theorem d_Rd_readChange_25 : decode b_Rd_readChange 25 = .ok (.iconst 0, 1) := dk_0 a_Rd_readChange_25 (dko_3 _)
theorem d_Rd_readChange_26 : decode b_Rd_readChange 26 = .ok (.goto 12, 3) := dk_S2 a_Rd_readChange_26 (dko_167 _) (by decide +kernel)
theorem d_Rd_readChange_29 : decode b_Rd_readChange 29 = .ok (.aload_n 0, 1) := dk_0 a_Rd_readChange_29 (dko_42 _)
theorem d_Rd_readChange_30 : decode b_Rd_readChange 30 = .ok (.getfield 44, 3) := dk_U2 a_Rd_readChange_30 (dko_180 _) rfl
theorem d_Rd_readChange_33 : decode b_Rd_readChange 33 = .ok (.getfield 212, 3) := dk_U2 a_Rd_readChange_33 (dko_180 _) rfl
theorem d_Rd_readChange_36 : decode b_Rd_readChange 36 = .ok (.iload_n 2, 1) := dk_0 a_Rd_readChange_36 (dko_28 _)
theorem d_Rd_readChange_37 : decode b_Rd_readChange 37 = .ok (.iaload, 1) := dk_0 a_Rd_readChange_37 (dko_46 _)
theorem d_Rd_readChange_38 : decode b_Rd_readChange 38 = .ok (.invokevirtual 215, 3) := dk_U2 a_Rd_readChange_38 (dko_182 _) rfl
theorem d_Rd_readChange_41 : decode b_Rd_readChange 41 = .ok (.aload_n 0, 1) := dk_0 a_Rd_readChange_41 (dko_42 _)
theorem d_Rd_readChange_42 : decode b_Rd_readChange 42 = .ok (.getfield 44, 3) := dk_U2 a_Rd_readChange_42 (dko_180 _) rfl
theorem d_Rd_readChange_45 : decode b_Rd_readChange 45 = .ok (.getfield 160, 3) := dk_U2 a_Rd_readChange_45 (dko_180 _) rfl
theorem d_Rd_readChange_48 : decode b_Rd_readChange 48 = .ok (.istore 4, 2) := dk_U1 a_Rd_readChange_48 (dko_54 _) rfl
theorem d_Rd_readChange_50 : decode b_Rd_readChange 50 = .ok (.iload_n 1, 1) := dk_0 a_Rd_readChange_50 (dko_27 _)
theorem d_Rd_readChange_51 : decode b_Rd_readChange 51 = .ok (.bipush 14, 2) := dk_S1 a_Rd_readChange_51 (dko_16 _) (by decide +kernel)
theorem d_Rd_readChange_53 : decode b_Rd_readChange 53 = .ok (.if_icmp .ne 19, 3) := dk_S2 a_Rd_readChange_53 (dko_160 _) (by decide +kernel)
theorem d_Rd_readChange_56 : decode b_Rd_readChange 56 = .ok (.aload_n 0, 1) := dk_0 a_Rd_readChange_56 (dko_42 _)
theorem d_Rd_readChange_57 : decode b_Rd_readChange 57 = .ok (.bipush 15, 2) := dk_S1 a_Rd_readChange_57 (dko_16 _) (by decide +kernel)
theorem d_Rd_readChange_59 : decode b_Rd_readChange 59 = .ok (.invokevirtual 83, 3) := dk_U2 a_Rd_readChange_59 (dko_182 _) rfl
theorem d_Rd_readChange_62 : decode b_Rd_readChange 62 = .ok (.aload_n 0, 1) := dk_0 a_Rd_readChange_62 (dko_42 _)
theorem d_Rd_readChange_63 : decode b_Rd_readChange 63 = .ok (.aload_n 0, 1) := dk_0 a_Rd_readChange_63 (dko_42 _)
theorem d_Rd_readChange_64 : decode b_Rd_readChange 64 = .ok (.iconst 1, 1) := dk_0 a_Rd_readChange_64 (dko_4 _)
theorem d_Rd_readChange_65 : decode b_Rd_readChange 65 = .ok (.invokevirtual 209, 3) := dk_U2 a_Rd_readChange_65 (dko_182 _) rfl
theorem d_Rd_readChange_68 : decode b_Rd_readChange 68 = .ok (.iconst 3, 1) := dk_0 a_Rd_readChange_68 (dko_6 _)
theorem d_Rd_readChange_69 : decode b_Rd_readChange 69 = .ok (.invokevirtual 215, 3) := dk_U2 a_Rd_readChange_69 (dko_182 _) rfl
theorem d_Rd_readChange_72 : decode b_Rd_readChange 72 = .ok (.aload_n 0, 1) := dk_0 a_Rd_readChange_72 (dko_42 _)
theorem d_Rd_readChange_73 : decode b_Rd_readChange 73 = .ok (.bipush 59, 2) := dk_S1 a_Rd_readChange_73 (dko_16 _) (by decide +kernel)
theorem d_Rd_readChange_75 : decode b_Rd_readChange 75 = .ok (.invokevirtual 83, 3) := dk_U2 a_Rd_readChange_75 (dko_182 _) rfl
theorem d_Rd_readChange_78 : decode b_Rd_readChange 78 = .ok (.aload_n 0, 1) := dk_0 a_Rd_readChange_78 (dko_42 _)
theorem d_Rd_readChange_79 : decode b_Rd_readChange 79 = .ok (.aload_n 0, 1) := dk_0 a_Rd_readChange_79 (dko_42 _)
theorem d_Rd_readChange_80 : decode b_Rd_readChange 80 = .ok (.iload_n 1, 1) := dk_0 a_Rd_readChange_80 (dko_27 _)
theorem d_Rd_readChange_81 : decode b_Rd_readChange 81 = .ok (.iload_n 2, 1) := dk_0 a_Rd_readChange_81 (dko_28 _)
theorem d_Rd_readChange_82 : decode b_Rd_readChange 82 = .ok (.invokevirtual 79, 3) := dk_U2 a_Rd_readChange_82 (dko_182 _) rfl
theorem d_Rd_readChange_85 : decode b_Rd_readChange 85 = .ok (.iload_n 3, 1) := dk_0 a_Rd_readChange_85 (dko_29 _)
theorem d_Rd_readChange_86 : decode b_Rd_readChange 86 = .ok (.iload 4, 2) := dk_U1 a_Rd_readChange_86 (dko_21 _) rfl
theorem d_Rd_readChange_88 : decode b_Rd_readChange 88 = .ok (.invokevirtual 219, 3) := dk_U2 a_Rd_readChange_88 (dko_182 _) rfl
theorem d_Rd_readChange_91 : decode b_Rd_readChange 91 = .ok (.ireturn, 1) := dk_0 a_Rd_readChange_91 (dko_172 _)
set_option maxHeartbeats 4000000 in
set_option maxRecDepth 100000 in
theorem ok_Rd_readChange (pc : Nat) : OpS mt mi_Rd_readChange pc (cs_Rd_readChange pc) := (os_n (os_n (os_n (os_n (os_n (os_l (so_aload_n d_Rd_readChange_0 rfl)) (os_n (os_l (so_bipush d_Rd_readChange_1 (by decide))) (os_l (so_callV (iv := mi_Rd_takeName) rfl rfl rfl mw_939 mw_941 sl_29 mw_13 mw_942 ⟨by decide +kernel, by decide +kernel, by decide +kernel⟩ (by decide) d_Rd_readChange_3)))) (os_n (os_l (so_istore_n d_Rd_readChange_6 rfl (by decide))) (os_n (os_l (so_aload_n d_Rd_readChange_7 rfl)) (os_l (so_get (C := R_Rd) (T := F_Rd) (N := 13) (j := 1) in_Rd rfl (by decide) mw_637 d_Rd_readChange_8))))) (os_n (os_n (os_l (so_get (C := R_Pr) (T := F_Pr) (N := 18) (j := 1) in_Pr rfl (by decide) mw_432 d_Rd_readChange_11)) (os_n (os_l (so_istore_n d_Rd_readChange_14 rfl (by decide))) (os_l (so_aload_n d_Rd_readChange_15 rfl)))) (os_n (os_l (so_aload_n d_Rd_readChange_16 rfl)) (os_n (os_l (so_iconst d_Rd_readChange_17 (by decide))) (os_l (so_callV (iv := mi_Rd_readLevel) rfl rfl rfl mw_943 mw_945 sl_30 mw_13 mw_946 ⟨by decide +kernel, by decide +kernel, by decide +kernel⟩ (by decide) d_Rd_readChange_18)))))) (os_n (os_n (os_n (os_l (so_iload_n d_Rd_readChange_21 rfl)) (os_n (os_l (so_ifge d_Rd_readChange_22 (by decide))) (os_l (so_iconst d_Rd_readChange_25 (by decide))))) (os_n (os_l (so_goto d_Rd_readChange_26 (by decide))) (os_n (os_l (so_aload_n d_Rd_readChange_29 rfl)) (os_l (so_get (C := R_Rd) (T := F_Rd) (N := 13) (j := 1) in_Rd rfl (by decide) mw_637 d_Rd_readChange_30))))) (os_n (os_n (os_l (so_get (C := R_Pr) (T := F_Pr) (N := 18) (j := 13) in_Pr rfl (by decide) mw_464 d_Rd_readChange_33)) (os_n (os_l (so_iload_n d_Rd_readChange_36 rfl)) (os_l (so_iaload d_Rd_readChange_37)))) (os_n (os_n (os_l (so_callV (iv := mi_Rd_demand) rfl rfl rfl mw_975 mw_977 sl_34 mw_13 mw_978 ⟨by decide +kernel, by decide +kernel, by decide +kernel⟩ (by decide) d_Rd_readChange_38)) (os_l (so_aload_n d_Rd_readChange_41 rfl))) (os_n (os_l (so_get (C := R_Rd) (T := F_Rd) (N := 13) (j := 1) in_Rd rfl (by decide) mw_637 d_Rd_readChange_42)) (os_l (so_get (C := R_Pr) (T := F_Pr) (N := 18) (j := 1) in_Pr rfl (by decide) mw_432 d_Rd_readChange_45))))))) (os_n (os_n (os_n (os_n (os_l (so_istore d_Rd_readChange_48 (by decide))) (os_n (os_l (so_iload_n d_Rd_readChange_50 rfl)) (os_l (so_bipush d_Rd_readChange_51 (by decide))))) (os_n (os_l (so_icne d_Rd_readChange_53 (by decide))) (os_n (os_l (so_aload_n d_Rd_readChange_56 rfl)) (os_l (so_bipush d_Rd_readChange_57 (by decide)))))) (os_n (os_n (os_l (so_callV (iv := mi_Rd_take) rfl rfl rfl mw_979 mw_981 sl_35 mw_13 mw_982 ⟨by decide +kernel, by decide +kernel, by decide +kernel⟩ (by decide) d_Rd_readChange_59)) (os_n (os_l (so_aload_n d_Rd_readChange_62 rfl)) (os_l (so_aload_n d_Rd_readChange_63 rfl)))) (os_n (os_l (so_iconst d_Rd_readChange_64 (by decide))) (os_n (os_l (so_callV (iv := mi_Rd_readLevel) rfl rfl rfl mw_943 mw_945 sl_30 mw_13 mw_946 ⟨by decide +kernel, by decide +kernel, by decide +kernel⟩ (by decide) d_Rd_readChange_65)) (os_l (so_iconst d_Rd_readChange_68 (by decide))))))) (os_n (os_n (os_n (os_l (so_callV (iv := mi_Rd_demand) rfl rfl rfl mw_975 mw_977 sl_34 mw_13 mw_978 ⟨by decide +kernel, by decide +kernel, by decide +kernel⟩ (by decide) d_Rd_readChange_69)) (os_n (os_l (so_aload_n d_Rd_readChange_72 rfl)) (os_l (so_bipush d_Rd_readChange_73 (by decide))))) (os_n (os_l (so_callV (iv := mi_Rd_take) rfl rfl rfl mw_979 mw_981 sl_35 mw_13 mw_982 ⟨by decide +kernel, by decide +kernel, by decide +kernel⟩ (by decide) d_Rd_readChange_75)) (os_n (os_l (so_aload_n d_Rd_readChange_78 rfl)) (os_l (so_aload_n d_Rd_readChange_79 rfl))))) (os_n (os_n (os_l (so_iload_n d_Rd_readChange_80 rfl)) (os_n (os_l (so_iload_n d_Rd_readChange_81 rfl)) (os_l (so_callV (iv := mi_Rd_makeNode) rfl rfl rfl mw_958 mw_960 sl_32 mw_13 mw_961 ⟨by decide +kernel, by decide +kernel, by decide +kernel⟩ (by decide) d_Rd_readChange_82)))) (os_n (os_n (os_l (so_iload_n d_Rd_readChange_85 rfl)) (os_l (so_iload d_Rd_readChange_86))) (os_n (os_l (so_callV (iv := mi_Rd_giveRange) rfl rfl rfl mw_983 mw_985 sl_36 mw_13 mw_986 ⟨by decide +kernel, by decide +kernel, by decide +kernel⟩ (by decide) d_Rd_readChange_88)) (os_l (so_ireturn rfl d_Rd_readChange_91))))))))
abbrev t_Rd_demand_9 : List UInt8 := 177 :: []
abbrev t_Rd_demand_6 : List UInt8 := 182 :: 0 :: 108 :: t_Rd_demand_9
abbrev t_Rd_demand_5 : List UInt8 := 42 :: t_Rd_demand_6
abbrev t_Rd_demand_2 : List UInt8 := 159 :: 0 :: 7 :: t_Rd_demand_5
abbrev t_Rd_demand_1 : List UInt8 := 28 :: t_Rd_demand_2
abbrev t_Rd_demand_0 : List UInt8 := 27 :: t_Rd_demand_1
theorem a_Rd_demand_0 : dk_at b_Rd_demand 0 t_Rd_demand_0 := dk_start (by decide +kernel)
theorem a_Rd_demand_1 : dk_at b_Rd_demand 1 t_Rd_demand_1 := dk_go 1 a_Rd_demand_0 rfl
theorem a_Rd_demand_2 : dk_at b_Rd_demand 2 t_Rd_demand_2 := dk_go 1 a_Rd_demand_1 rfl
theorem a_Rd_demand_5 : dk_at b_Rd_demand 5 t_Rd_demand_5 := dk_go 3 a_Rd_demand_2 rfl
theorem a_Rd_demand_6 : dk_at b_Rd_demand 6 t_Rd_demand_6 := dk_go 1 a_Rd_demand_5 rfl
theorem a_Rd_demand_9 : dk_at b_Rd_demand 9 t_Rd_demand_9 := dk_go 3 a_Rd_demand_6 rfl
theorem d_Rd_demand_0 : decode b_Rd_demand 0 = .ok (.iload_n 1, 1) := dk_0 a_Rd_demand_0 (dko_27 _)
theorem d_Rd_demand_1 : decode b_Rd_demand 1 = .ok (.iload_n 2, 1) := dk_0 a_Rd_demand_1 (dko_28 _)
theorem d_Rd_demand_2 : decode b_Rd_demand 2 = .ok (.if_icmp .eq 7, 3) := dk_S2 a_Rd_demand_2 (dko_159 _) (by decide +kernel)
theorem d_Rd_demand_5 : decode b_Rd_demand 5 = .ok (.aload_n 0, 1) := dk_0 a_Rd_demand_5 (dko_42 _)
theorem d_Rd_demand_6 : decode b_Rd_demand 6 = .ok (.invokevirtual 108, 3) := dk_U2 a_Rd_demand_6 (dko_182 _) rfl
theorem d_Rd_demand_9 : decode b_Rd_demand 9 = .ok (.return_, 1) := dk_0 a_Rd_demand_9 (dko_177 _)
set_option maxHeartbeats 4000000 in
set_option maxRecDepth 100000 in
theorem ok_Rd_demand (pc : Nat) : OpS mt mi_Rd_demand pc (cs_Rd_demand pc) := (os_n (os_n (os_l (so_iload_n d_Rd_demand_0 rfl)) (os_n (os_l (so_iload_n d_Rd_demand_1 rfl)) (os_l (so_iceq d_Rd_demand_2 (by decide))))) (os_n (os_l (so_aload_n d_Rd_demand_5 rfl)) (os_n (os_l (so_callV (iv := mi_Rd_fail) rfl rfl rfl mw_915 mw_917 sl_24 mw_13 mw_918 ⟨by decide +kernel, by decide +kernel, by decide +kernel⟩ (by decide) d_Rd_demand_6)) (os_l (so_return rfl d_Rd_demand_9)))))
abbrev t_Rd_giveRange_21 : List UInt8 := 172 :: []
abbrev t_Rd_giveRange_20 : List UInt8 := 27 :: t_Rd_giveRange_21
abbrev t_Rd_giveRange_19 : List UInt8 := 79 :: t_Rd_giveRange_20
abbrev t_Rd_giveRange_18 : List UInt8 := 29 :: t_Rd_giveRange_19
abbrev t_Rd_giveRange_17 : List UInt8 := 27 :: t_Rd_giveRange_18
abbrev t_Rd_giveRange_14 : List UInt8 := 180 :: 0 :: 172 :: t_Rd_giveRange_17
abbrev t_Rd_giveRange_11 : List UInt8 := 180 :: 0 :: 44 :: t_Rd_giveRange_14
abbrev t_Rd_giveRange_10 : List UInt8 := 42 :: t_Rd_giveRange_11
abbrev t_Rd_giveRange_9 : List UInt8 := 79 :: t_Rd_giveRange_10
abbrev t_Rd_giveRange_8 : List UInt8 := 28 :: t_Rd_giveRange_9
abbrev t_Rd_giveRange_7 : List UInt8 := 27 :: t_Rd_giveRange_8
abbrev t_Rd_giveRange_4 : List UInt8 := 180 :: 0 :: 169 :: t_Rd_giveRange_7
abbrev t_Rd_giveRange_1 : List UInt8 := 180 :: 0 :: 44 :: t_Rd_giveRange_4
abbrev t_Rd_giveRange_0 : List UInt8 := 42 :: t_Rd_giveRange_1
theorem a_Rd_giveRange_0 : dk_at b_Rd_giveRange 0 t_Rd_giveRange_0 := dk_start (by decide +kernel)
theorem a_Rd_giveRange_1 : dk_at b_Rd_giveRange 1 t_Rd_giveRange_1 := dk_go 1 a_Rd_giveRange_0 rfl
theorem a_Rd_giveRange_4 : dk_at b_Rd_giveRange 4 t_Rd_giveRange_4 := dk_go 3 a_Rd_giveRange_1 rfl
theorem a_Rd_giveRange_7 : dk_at b_Rd_giveRange 7 t_Rd_giveRange_7 := dk_go 3 a_Rd_giveRange_4 rfl
theorem a_Rd_giveRange_8 : dk_at b_Rd_giveRange 8 t_Rd_giveRange_8 := dk_go 1 a_Rd_giveRange_7 rfl
theorem a_Rd_giveRange_9 : dk_at b_Rd_giveRange 9 t_Rd_giveRange_9 := dk_go 1 a_Rd_giveRange_8 rfl
theorem a_Rd_giveRange_10 : dk_at b_Rd_giveRange 10 t_Rd_giveRange_10 := dk_go 1 a_Rd_giveRange_9 rfl
theorem a_Rd_giveRange_11 : dk_at b_Rd_giveRange 11 t_Rd_giveRange_11 := dk_go 1 a_Rd_giveRange_10 rfl
theorem a_Rd_giveRange_14 : dk_at b_Rd_giveRange 14 t_Rd_giveRange_14 := dk_go 3 a_Rd_giveRange_11 rfl
theorem a_Rd_giveRange_17 : dk_at b_Rd_giveRange 17 t_Rd_giveRange_17 := dk_go 3 a_Rd_giveRange_14 rfl
theorem a_Rd_giveRange_18 : dk_at b_Rd_giveRange 18 t_Rd_giveRange_18 := dk_go 1 a_Rd_giveRange_17 rfl
theorem a_Rd_giveRange_19 : dk_at b_Rd_giveRange 19 t_Rd_giveRange_19 := dk_go 1 a_Rd_giveRange_18 rfl
theorem a_Rd_giveRange_20 : dk_at b_Rd_giveRange 20 t_Rd_giveRange_20 := dk_go 1 a_Rd_giveRange_19 rfl
theorem a_Rd_giveRange_21 : dk_at b_Rd_giveRange 21 t_Rd_giveRange_21 := dk_go 1 a_Rd_giveRange_20 rfl
theorem d_Rd_giveRange_0 : decode b_Rd_giveRange 0 = .ok (.aload_n 0, 1) := dk_0 a_Rd_giveRange_0 (dko_42 _)
theorem d_Rd_giveRange_1 : decode b_Rd_giveRange 1 = .ok (.getfield 44, 3) := dk_U2 a_Rd_giveRange_1 (dko_180 _) rfl
theorem d_Rd_giveRange_4 : decode b_Rd_giveRange 4 = .ok (.getfield 169, 3) := dk_U2 a_Rd_giveRange_4 (dko_180 _) rfl
theorem d_Rd_giveRange_7 : decode b_Rd_giveRange 7 = .ok (.iload_n 1, 1) := dk_0 a_Rd_giveRange_7 (dko_27 _)
theorem d_Rd_giveRange_8 : decode b_Rd_giveRange 8 = .ok (.iload_n 2, 1) := dk_0 a_Rd_giveRange_8 (dko_28 _)
theorem d_Rd_giveRange_9 : decode b_Rd_giveRange 9 = .ok (.iastore, 1) := dk_0 a_Rd_giveRange_9 (dko_79 _)
theorem d_Rd_giveRange_10 : decode b_Rd_giveRange 10 = .ok (.aload_n 0, 1) := dk_0 a_Rd_giveRange_10 (dko_42 _)
theorem d_Rd_giveRange_11 : decode b_Rd_giveRange 11 = .ok (.getfield 44, 3) := dk_U2 a_Rd_giveRange_11 (dko_180 _) rfl
theorem d_Rd_giveRange_14 : decode b_Rd_giveRange 14 = .ok (.getfield 172, 3) := dk_U2 a_Rd_giveRange_14 (dko_180 _) rfl
theorem d_Rd_giveRange_17 : decode b_Rd_giveRange 17 = .ok (.iload_n 1, 1) := dk_0 a_Rd_giveRange_17 (dko_27 _)
theorem d_Rd_giveRange_18 : decode b_Rd_giveRange 18 = .ok (.iload_n 3, 1) := dk_0 a_Rd_giveRange_18 (dko_29 _)
theorem d_Rd_giveRange_19 : decode b_Rd_giveRange 19 = .ok (.iastore, 1) := dk_0 a_Rd_giveRange_19 (dko_79 _)
theorem d_Rd_giveRange_20 : decode b_Rd_giveRange 20 = .ok (.iload_n 1, 1) := dk_0 a_Rd_giveRange_20 (dko_27 _)
theorem d_Rd_giveRange_21 : decode b_Rd_giveRange 21 = .ok (.ireturn, 1) := dk_0 a_Rd_giveRange_21 (dko_172 _)
set_option maxHeartbeats 4000000 in
set_option maxRecDepth 100000 in
theorem ok_Rd_giveRange (pc : Nat) : OpS mt mi_Rd_giveRange pc (cs_Rd_giveRange pc) := (os_n (os_n (os_n (os_l (so_aload_n d_Rd_giveRange_0 rfl)) (os_n (os_l (so_get (C := R_Rd) (T := F_Rd) (N := 13) (j := 1) in_Rd rfl (by decide) mw_637 d_Rd_giveRange_1)) (os_l (so_get (C := R_Pr) (T := F_Pr) (N := 18) (j := 5) in_Pr rfl (by decide) mw_445 d_Rd_giveRange_4)))) (os_n (os_n (os_l (so_iload_n d_Rd_giveRange_7 rfl)) (os_l (so_iload_n d_Rd_giveRange_8 rfl))) (os_n (os_l (so_iastore d_Rd_giveRange_9)) (os_l (so_aload_n d_Rd_giveRange_10 rfl))))) (os_n (os_n (os_l (so_get (C := R_Rd) (T := F_Rd) (N := 13) (j := 1) in_Rd rfl (by decide) mw_637 d_Rd_giveRange_11)) (os_n (os_l (so_get (C := R_Pr) (T := F_Pr) (N := 18) (j := 6) in_Pr rfl (by decide) mw_448 d_Rd_giveRange_14)) (os_l (so_iload_n d_Rd_giveRange_17 rfl)))) (os_n (os_n (os_l (so_iload_n d_Rd_giveRange_18 rfl)) (os_l (so_iastore d_Rd_giveRange_19))) (os_n (os_l (so_iload_n d_Rd_giveRange_20 rfl)) (os_l (so_ireturn rfl d_Rd_giveRange_21))))))
abbrev t_Rd_readPause_59 : List UInt8 := 172 :: []
abbrev t_Rd_readPause_56 : List UInt8 := 182 :: 0 :: 219 :: t_Rd_readPause_59
abbrev t_Rd_readPause_55 : List UInt8 := 29 :: t_Rd_readPause_56
abbrev t_Rd_readPause_54 : List UInt8 := 28 :: t_Rd_readPause_55
abbrev t_Rd_readPause_51 : List UInt8 := 182 :: 0 :: 79 :: t_Rd_readPause_54
abbrev t_Rd_readPause_50 : List UInt8 := 3 :: t_Rd_readPause_51
abbrev t_Rd_readPause_49 : List UInt8 := 27 :: t_Rd_readPause_50
abbrev t_Rd_readPause_48 : List UInt8 := 42 :: t_Rd_readPause_49
abbrev t_Rd_readPause_47 : List UInt8 := 42 :: t_Rd_readPause_48
abbrev t_Rd_readPause_44 : List UInt8 := 182 :: 0 :: 83 :: t_Rd_readPause_47
abbrev t_Rd_readPause_42 : List UInt8 := 16 :: 59 :: t_Rd_readPause_44
abbrev t_Rd_readPause_41 : List UInt8 := 42 :: t_Rd_readPause_42
abbrev t_Rd_readPause_40 : List UInt8 := 62 :: t_Rd_readPause_41
abbrev t_Rd_readPause_37 : List UInt8 := 180 :: 0 :: 160 :: t_Rd_readPause_40
abbrev t_Rd_readPause_34 : List UInt8 := 180 :: 0 :: 44 :: t_Rd_readPause_37
abbrev t_Rd_readPause_33 : List UInt8 := 42 :: t_Rd_readPause_34
abbrev t_Rd_readPause_32 : List UInt8 := 87 :: t_Rd_readPause_33
abbrev t_Rd_readPause_29 : List UInt8 := 182 :: 0 :: 209 :: t_Rd_readPause_32
abbrev t_Rd_readPause_28 : List UInt8 := 3 :: t_Rd_readPause_29
abbrev t_Rd_readPause_27 : List UInt8 := 42 :: t_Rd_readPause_28
abbrev t_Rd_readPause_24 : List UInt8 := 167 :: 0 :: 9 :: t_Rd_readPause_27
abbrev t_Rd_readPause_21 : List UInt8 := 182 :: 0 :: 215 :: t_Rd_readPause_24
abbrev t_Rd_readPause_20 : List UInt8 := 6 :: t_Rd_readPause_21
abbrev t_Rd_readPause_17 : List UInt8 := 182 :: 0 :: 209 :: t_Rd_readPause_20
abbrev t_Rd_readPause_16 : List UInt8 := 4 :: t_Rd_readPause_17
abbrev t_Rd_readPause_15 : List UInt8 := 42 :: t_Rd_readPause_16
abbrev t_Rd_readPause_14 : List UInt8 := 42 :: t_Rd_readPause_15
abbrev t_Rd_readPause_11 : List UInt8 := 160 :: 0 :: 16 :: t_Rd_readPause_14
abbrev t_Rd_readPause_9 : List UInt8 := 16 :: 12 :: t_Rd_readPause_11
abbrev t_Rd_readPause_8 : List UInt8 := 27 :: t_Rd_readPause_9
abbrev t_Rd_readPause_7 : List UInt8 := 61 :: t_Rd_readPause_8
abbrev t_Rd_readPause_4 : List UInt8 := 180 :: 0 :: 160 :: t_Rd_readPause_7
abbrev t_Rd_readPause_1 : List UInt8 := 180 :: 0 :: 44 :: t_Rd_readPause_4
abbrev t_Rd_readPause_0 : List UInt8 := 42 :: t_Rd_readPause_1
theorem a_Rd_readPause_0 : dk_at b_Rd_readPause 0 t_Rd_readPause_0 := dk_start (by decide +kernel)
theorem a_Rd_readPause_1 : dk_at b_Rd_readPause 1 t_Rd_readPause_1 := dk_go 1 a_Rd_readPause_0 rfl
theorem a_Rd_readPause_4 : dk_at b_Rd_readPause 4 t_Rd_readPause_4 := dk_go 3 a_Rd_readPause_1 rfl
theorem a_Rd_readPause_7 : dk_at b_Rd_readPause 7 t_Rd_readPause_7 := dk_go 3 a_Rd_readPause_4 rfl
theorem a_Rd_readPause_8 : dk_at b_Rd_readPause 8 t_Rd_readPause_8 := dk_go 1 a_Rd_readPause_7 rfl
theorem a_Rd_readPause_9 : dk_at b_Rd_readPause 9 t_Rd_readPause_9 := dk_go 1 a_Rd_readPause_8 rfl
theorem a_Rd_readPause_11 : dk_at b_Rd_readPause 11 t_Rd_readPause_11 := dk_go 2 a_Rd_readPause_9 rfl
theorem a_Rd_readPause_14 : dk_at b_Rd_readPause 14 t_Rd_readPause_14 := dk_go 3 a_Rd_readPause_11 rfl
theorem a_Rd_readPause_15 : dk_at b_Rd_readPause 15 t_Rd_readPause_15 := dk_go 1 a_Rd_readPause_14 rfl
theorem a_Rd_readPause_16 : dk_at b_Rd_readPause 16 t_Rd_readPause_16 := dk_go 1 a_Rd_readPause_15 rfl
theorem a_Rd_readPause_17 : dk_at b_Rd_readPause 17 t_Rd_readPause_17 := dk_go 1 a_Rd_readPause_16 rfl
theorem a_Rd_readPause_20 : dk_at b_Rd_readPause 20 t_Rd_readPause_20 := dk_go 3 a_Rd_readPause_17 rfl
theorem a_Rd_readPause_21 : dk_at b_Rd_readPause 21 t_Rd_readPause_21 := dk_go 1 a_Rd_readPause_20 rfl
theorem a_Rd_readPause_24 : dk_at b_Rd_readPause 24 t_Rd_readPause_24 := dk_go 3 a_Rd_readPause_21 rfl
theorem a_Rd_readPause_27 : dk_at b_Rd_readPause 27 t_Rd_readPause_27 := dk_go 3 a_Rd_readPause_24 rfl
theorem a_Rd_readPause_28 : dk_at b_Rd_readPause 28 t_Rd_readPause_28 := dk_go 1 a_Rd_readPause_27 rfl
theorem a_Rd_readPause_29 : dk_at b_Rd_readPause 29 t_Rd_readPause_29 := dk_go 1 a_Rd_readPause_28 rfl
theorem a_Rd_readPause_32 : dk_at b_Rd_readPause 32 t_Rd_readPause_32 := dk_go 3 a_Rd_readPause_29 rfl
theorem a_Rd_readPause_33 : dk_at b_Rd_readPause 33 t_Rd_readPause_33 := dk_go 1 a_Rd_readPause_32 rfl
theorem a_Rd_readPause_34 : dk_at b_Rd_readPause 34 t_Rd_readPause_34 := dk_go 1 a_Rd_readPause_33 rfl
theorem a_Rd_readPause_37 : dk_at b_Rd_readPause 37 t_Rd_readPause_37 := dk_go 3 a_Rd_readPause_34 rfl
theorem a_Rd_readPause_40 : dk_at b_Rd_readPause 40 t_Rd_readPause_40 := dk_go 3 a_Rd_readPause_37 rfl
theorem a_Rd_readPause_41 : dk_at b_Rd_readPause 41 t_Rd_readPause_41 := dk_go 1 a_Rd_readPause_40 rfl
theorem a_Rd_readPause_42 : dk_at b_Rd_readPause 42 t_Rd_readPause_42 := dk_go 1 a_Rd_readPause_41 rfl
theorem a_Rd_readPause_44 : dk_at b_Rd_readPause 44 t_Rd_readPause_44 := dk_go 2 a_Rd_readPause_42 rfl
theorem a_Rd_readPause_47 : dk_at b_Rd_readPause 47 t_Rd_readPause_47 := dk_go 3 a_Rd_readPause_44 rfl
theorem a_Rd_readPause_48 : dk_at b_Rd_readPause 48 t_Rd_readPause_48 := dk_go 1 a_Rd_readPause_47 rfl
theorem a_Rd_readPause_49 : dk_at b_Rd_readPause 49 t_Rd_readPause_49 := dk_go 1 a_Rd_readPause_48 rfl
theorem a_Rd_readPause_50 : dk_at b_Rd_readPause 50 t_Rd_readPause_50 := dk_go 1 a_Rd_readPause_49 rfl
theorem a_Rd_readPause_51 : dk_at b_Rd_readPause 51 t_Rd_readPause_51 := dk_go 1 a_Rd_readPause_50 rfl
theorem a_Rd_readPause_54 : dk_at b_Rd_readPause 54 t_Rd_readPause_54 := dk_go 3 a_Rd_readPause_51 rfl
theorem a_Rd_readPause_55 : dk_at b_Rd_readPause 55 t_Rd_readPause_55 := dk_go 1 a_Rd_readPause_54 rfl
theorem a_Rd_readPause_56 : dk_at b_Rd_readPause 56 t_Rd_readPause_56 := dk_go 1 a_Rd_readPause_55 rfl
theorem a_Rd_readPause_59 : dk_at b_Rd_readPause 59 t_Rd_readPause_59 := dk_go 3 a_Rd_readPause_56 rfl
theorem d_Rd_readPause_0 : decode b_Rd_readPause 0 = .ok (.aload_n 0, 1) := dk_0 a_Rd_readPause_0 (dko_42 _)
theorem d_Rd_readPause_1 : decode b_Rd_readPause 1 = .ok (.getfield 44, 3) := dk_U2 a_Rd_readPause_1 (dko_180 _) rfl
theorem d_Rd_readPause_4 : decode b_Rd_readPause 4 = .ok (.getfield 160, 3) := dk_U2 a_Rd_readPause_4 (dko_180 _) rfl
theorem d_Rd_readPause_7 : decode b_Rd_readPause 7 = .ok (.istore_n 2, 1) := dk_0 a_Rd_readPause_7 (dko_61 _)
theorem d_Rd_readPause_8 : decode b_Rd_readPause 8 = .ok (.iload_n 1, 1) := dk_0 a_Rd_readPause_8 (dko_27 _)
theorem d_Rd_readPause_9 : decode b_Rd_readPause 9 = .ok (.bipush 12, 2) := dk_S1 a_Rd_readPause_9 (dko_16 _) (by decide +kernel)
theorem d_Rd_readPause_11 : decode b_Rd_readPause 11 = .ok (.if_icmp .ne 16, 3) := dk_S2 a_Rd_readPause_11 (dko_160 _) (by decide +kernel)
theorem d_Rd_readPause_14 : decode b_Rd_readPause 14 = .ok (.aload_n 0, 1) := dk_0 a_Rd_readPause_14 (dko_42 _)
theorem d_Rd_readPause_15 : decode b_Rd_readPause 15 = .ok (.aload_n 0, 1) := dk_0 a_Rd_readPause_15 (dko_42 _)
theorem d_Rd_readPause_16 : decode b_Rd_readPause 16 = .ok (.iconst 1, 1) := dk_0 a_Rd_readPause_16 (dko_4 _)
theorem d_Rd_readPause_17 : decode b_Rd_readPause 17 = .ok (.invokevirtual 209, 3) := dk_U2 a_Rd_readPause_17 (dko_182 _) rfl
theorem d_Rd_readPause_20 : decode b_Rd_readPause 20 = .ok (.iconst 3, 1) := dk_0 a_Rd_readPause_20 (dko_6 _)
theorem d_Rd_readPause_21 : decode b_Rd_readPause 21 = .ok (.invokevirtual 215, 3) := dk_U2 a_Rd_readPause_21 (dko_182 _) rfl
theorem d_Rd_readPause_24 : decode b_Rd_readPause 24 = .ok (.goto 9, 3) := dk_S2 a_Rd_readPause_24 (dko_167 _) (by decide +kernel)
theorem d_Rd_readPause_27 : decode b_Rd_readPause 27 = .ok (.aload_n 0, 1) := dk_0 a_Rd_readPause_27 (dko_42 _)
theorem d_Rd_readPause_28 : decode b_Rd_readPause 28 = .ok (.iconst 0, 1) := dk_0 a_Rd_readPause_28 (dko_3 _)
theorem d_Rd_readPause_29 : decode b_Rd_readPause 29 = .ok (.invokevirtual 209, 3) := dk_U2 a_Rd_readPause_29 (dko_182 _) rfl
theorem d_Rd_readPause_32 : decode b_Rd_readPause 32 = .ok (.pop, 1) := dk_0 a_Rd_readPause_32 (dko_87 _)
theorem d_Rd_readPause_33 : decode b_Rd_readPause 33 = .ok (.aload_n 0, 1) := dk_0 a_Rd_readPause_33 (dko_42 _)
theorem d_Rd_readPause_34 : decode b_Rd_readPause 34 = .ok (.getfield 44, 3) := dk_U2 a_Rd_readPause_34 (dko_180 _) rfl
theorem d_Rd_readPause_37 : decode b_Rd_readPause 37 = .ok (.getfield 160, 3) := dk_U2 a_Rd_readPause_37 (dko_180 _) rfl
theorem d_Rd_readPause_40 : decode b_Rd_readPause 40 = .ok (.istore_n 3, 1) := dk_0 a_Rd_readPause_40 (dko_62 _)
theorem d_Rd_readPause_41 : decode b_Rd_readPause 41 = .ok (.aload_n 0, 1) := dk_0 a_Rd_readPause_41 (dko_42 _)
theorem d_Rd_readPause_42 : decode b_Rd_readPause 42 = .ok (.bipush 59, 2) := dk_S1 a_Rd_readPause_42 (dko_16 _) (by decide +kernel)
theorem d_Rd_readPause_44 : decode b_Rd_readPause 44 = .ok (.invokevirtual 83, 3) := dk_U2 a_Rd_readPause_44 (dko_182 _) rfl
theorem d_Rd_readPause_47 : decode b_Rd_readPause 47 = .ok (.aload_n 0, 1) := dk_0 a_Rd_readPause_47 (dko_42 _)
theorem d_Rd_readPause_48 : decode b_Rd_readPause 48 = .ok (.aload_n 0, 1) := dk_0 a_Rd_readPause_48 (dko_42 _)
theorem d_Rd_readPause_49 : decode b_Rd_readPause 49 = .ok (.iload_n 1, 1) := dk_0 a_Rd_readPause_49 (dko_27 _)
theorem d_Rd_readPause_50 : decode b_Rd_readPause 50 = .ok (.iconst 0, 1) := dk_0 a_Rd_readPause_50 (dko_3 _)
theorem d_Rd_readPause_51 : decode b_Rd_readPause 51 = .ok (.invokevirtual 79, 3) := dk_U2 a_Rd_readPause_51 (dko_182 _) rfl
theorem d_Rd_readPause_54 : decode b_Rd_readPause 54 = .ok (.iload_n 2, 1) := dk_0 a_Rd_readPause_54 (dko_28 _)
theorem d_Rd_readPause_55 : decode b_Rd_readPause 55 = .ok (.iload_n 3, 1) := dk_0 a_Rd_readPause_55 (dko_29 _)
theorem d_Rd_readPause_56 : decode b_Rd_readPause 56 = .ok (.invokevirtual 219, 3) := dk_U2 a_Rd_readPause_56 (dko_182 _) rfl
theorem d_Rd_readPause_59 : decode b_Rd_readPause 59 = .ok (.ireturn, 1) := dk_0 a_Rd_readPause_59 (dko_172 _)
set_option maxHeartbeats 4000000 in
set_option maxRecDepth 100000 in
theorem ok_Rd_readPause (pc : Nat) : OpS mt mi_Rd_readPause pc (cs_Rd_readPause pc) := (os_n (os_n (os_n (os_n (os_n (os_l (so_aload_n d_Rd_readPause_0 rfl)) (os_l (so_get (C := R_Rd) (T := F_Rd) (N := 13) (j := 1) in_Rd rfl (by decide) mw_637 d_Rd_readPause_1))) (os_n (os_l (so_get (C := R_Pr) (T := F_Pr) (N := 18) (j := 1) in_Pr rfl (by decide) mw_432 d_Rd_readPause_4)) (os_l (so_istore_n d_Rd_readPause_7 rfl (by decide))))) (os_n (os_n (os_l (so_iload_n d_Rd_readPause_8 rfl)) (os_l (so_bipush d_Rd_readPause_9 (by decide)))) (os_n (os_l (so_icne d_Rd_readPause_11 (by decide))) (os_l (so_aload_n d_Rd_readPause_14 rfl))))) (os_n (os_n (os_n (os_l (so_aload_n d_Rd_readPause_15 rfl)) (os_l (so_iconst d_Rd_readPause_16 (by decide)))) (os_n (os_l (so_callV (iv := mi_Rd_readLevel) rfl rfl rfl mw_943 mw_945 sl_30 mw_13 mw_946 ⟨by decide +kernel, by decide +kernel, by decide +kernel⟩ (by decide) d_Rd_readPause_17)) (os_l (so_iconst d_Rd_readPause_20 (by decide))))) (os_n (os_n (os_l (so_callV (iv := mi_Rd_demand) rfl rfl rfl mw_975 mw_977 sl_34 mw_13 mw_978 ⟨by decide +kernel, by decide +kernel, by decide +kernel⟩ (by decide) d_Rd_readPause_21)) (os_l (so_goto d_Rd_readPause_24 (by decide)))) (os_n (os_l (so_aload_n d_Rd_readPause_27 rfl)) (os_n (os_l (so_iconst d_Rd_readPause_28 (by decide))) (os_l (so_callV (iv := mi_Rd_readLevel) rfl rfl rfl mw_943 mw_945 sl_30 mw_13 mw_946 ⟨by decide +kernel, by decide +kernel, by decide +kernel⟩ (by decide) d_Rd_readPause_29))))))) (os_n (os_n (os_n (os_n (os_l (so_pop d_Rd_readPause_32)) (os_l (so_aload_n d_Rd_readPause_33 rfl))) (os_n (os_l (so_get (C := R_Rd) (T := F_Rd) (N := 13) (j := 1) in_Rd rfl (by decide) mw_637 d_Rd_readPause_34)) (os_l (so_get (C := R_Pr) (T := F_Pr) (N := 18) (j := 1) in_Pr rfl (by decide) mw_432 d_Rd_readPause_37)))) (os_n (os_n (os_l (so_istore_n d_Rd_readPause_40 rfl (by decide))) (os_l (so_aload_n d_Rd_readPause_41 rfl))) (os_n (os_l (so_bipush d_Rd_readPause_42 (by decide))) (os_l (so_callV (iv := mi_Rd_take) rfl rfl rfl mw_979 mw_981 sl_35 mw_13 mw_982 ⟨by decide +kernel, by decide +kernel, by decide +kernel⟩ (by decide) d_Rd_readPause_44))))) (os_n (os_n (os_n (os_l (so_aload_n d_Rd_readPause_47 rfl)) (os_l (so_aload_n d_Rd_readPause_48 rfl))) (os_n (os_l (so_iload_n d_Rd_readPause_49 rfl)) (os_l (so_iconst d_Rd_readPause_50 (by decide))))) (os_n (os_n (os_l (so_callV (iv := mi_Rd_makeNode) rfl rfl rfl mw_958 mw_960 sl_32 mw_13 mw_961 ⟨by decide +kernel, by decide +kernel, by decide +kernel⟩ (by decide) d_Rd_readPause_51)) (os_l (so_iload_n d_Rd_readPause_54 rfl))) (os_n (os_l (so_iload_n d_Rd_readPause_55 rfl)) (os_n (os_l (so_callV (iv := mi_Rd_giveRange) rfl rfl rfl mw_983 mw_985 sl_36 mw_13 mw_986 ⟨by decide +kernel, by decide +kernel, by decide +kernel⟩ (by decide) d_Rd_readPause_56)) (os_l (so_ireturn rfl d_Rd_readPause_59))))))))
abbrev t_Rd_readPar_151 : List UInt8 := 172 :: []
abbrev t_Rd_readPar_149 : List UInt8 := 21 :: 5 :: t_Rd_readPar_151
abbrev t_Rd_readPar_148 : List UInt8 := 79 :: t_Rd_readPar_149
abbrev t_Rd_readPar_146 : List UInt8 := 21 :: 4 :: t_Rd_readPar_148
abbrev t_Rd_readPar_144 : List UInt8 := 21 :: 5 :: t_Rd_readPar_146
abbrev t_Rd_readPar_141 : List UInt8 := 180 :: 0 :: 15 :: t_Rd_readPar_144
abbrev t_Rd_readPar_140 : List UInt8 := 42 :: t_Rd_readPar_141
abbrev t_Rd_readPar_139 : List UInt8 := 79 :: t_Rd_readPar_140
abbrev t_Rd_readPar_138 : List UInt8 := 29 :: t_Rd_readPar_139
abbrev t_Rd_readPar_136 : List UInt8 := 21 :: 5 :: t_Rd_readPar_138
abbrev t_Rd_readPar_133 : List UInt8 := 180 :: 0 :: 9 :: t_Rd_readPar_136
abbrev t_Rd_readPar_132 : List UInt8 := 42 :: t_Rd_readPar_133
abbrev t_Rd_readPar_131 : List UInt8 := 79 :: t_Rd_readPar_132
abbrev t_Rd_readPar_130 : List UInt8 := 27 :: t_Rd_readPar_131
abbrev t_Rd_readPar_128 : List UInt8 := 21 :: 5 :: t_Rd_readPar_130
abbrev t_Rd_readPar_125 : List UInt8 := 180 :: 0 :: 175 :: t_Rd_readPar_128
abbrev t_Rd_readPar_122 : List UInt8 := 180 :: 0 :: 44 :: t_Rd_readPar_125
abbrev t_Rd_readPar_121 : List UInt8 := 42 :: t_Rd_readPar_122
abbrev t_Rd_readPar_119 : List UInt8 := 54 :: 5 :: t_Rd_readPar_121
abbrev t_Rd_readPar_116 : List UInt8 := 182 :: 0 :: 79 :: t_Rd_readPar_119
abbrev t_Rd_readPar_115 : List UInt8 := 3 :: t_Rd_readPar_116
abbrev t_Rd_readPar_113 : List UInt8 := 16 :: 16 :: t_Rd_readPar_115
abbrev t_Rd_readPar_112 : List UInt8 := 42 :: t_Rd_readPar_113
abbrev t_Rd_readPar_109 : List UInt8 := 167 :: 255 :: 174 :: t_Rd_readPar_112
abbrev t_Rd_readPar_106 : List UInt8 := 132 :: 5 :: 1 :: t_Rd_readPar_109
abbrev t_Rd_readPar_104 : List UInt8 := 54 :: 4 :: t_Rd_readPar_106
abbrev t_Rd_readPar_101 : List UInt8 := 184 :: 0 :: 99 :: t_Rd_readPar_104
abbrev t_Rd_readPar_100 : List UInt8 := 46 :: t_Rd_readPar_101
abbrev t_Rd_readPar_98 : List UInt8 := 21 :: 6 :: t_Rd_readPar_100
abbrev t_Rd_readPar_95 : List UInt8 := 180 :: 0 :: 15 :: t_Rd_readPar_98
abbrev t_Rd_readPar_94 : List UInt8 := 42 :: t_Rd_readPar_95
abbrev t_Rd_readPar_92 : List UInt8 := 21 :: 4 :: t_Rd_readPar_94
abbrev t_Rd_readPar_91 : List UInt8 := 62 :: t_Rd_readPar_92
abbrev t_Rd_readPar_88 : List UInt8 := 184 :: 0 :: 94 :: t_Rd_readPar_91
abbrev t_Rd_readPar_85 : List UInt8 := 17 :: 1 :: 245 :: t_Rd_readPar_88
abbrev t_Rd_readPar_84 : List UInt8 := 96 :: t_Rd_readPar_85
abbrev t_Rd_readPar_83 : List UInt8 := 46 :: t_Rd_readPar_84
abbrev t_Rd_readPar_81 : List UInt8 := 21 :: 6 :: t_Rd_readPar_83
abbrev t_Rd_readPar_78 : List UInt8 := 180 :: 0 :: 9 :: t_Rd_readPar_81
abbrev t_Rd_readPar_77 : List UInt8 := 42 :: t_Rd_readPar_78
abbrev t_Rd_readPar_76 : List UInt8 := 29 :: t_Rd_readPar_77
abbrev t_Rd_readPar_75 : List UInt8 := 61 :: t_Rd_readPar_76
abbrev t_Rd_readPar_73 : List UInt8 := 21 :: 6 :: t_Rd_readPar_75
abbrev t_Rd_readPar_72 : List UInt8 := 79 :: t_Rd_readPar_73
abbrev t_Rd_readPar_70 : List UInt8 := 21 :: 6 :: t_Rd_readPar_72
abbrev t_Rd_readPar_69 : List UInt8 := 28 :: t_Rd_readPar_70
abbrev t_Rd_readPar_66 : List UInt8 := 180 :: 0 :: 105 :: t_Rd_readPar_69
abbrev t_Rd_readPar_63 : List UInt8 := 180 :: 0 :: 44 :: t_Rd_readPar_66
abbrev t_Rd_readPar_62 : List UInt8 := 42 :: t_Rd_readPar_63
abbrev t_Rd_readPar_60 : List UInt8 := 54 :: 6 :: t_Rd_readPar_62
abbrev t_Rd_readPar_57 : List UInt8 := 182 :: 0 :: 73 :: t_Rd_readPar_60
abbrev t_Rd_readPar_56 : List UInt8 := 42 :: t_Rd_readPar_57
abbrev t_Rd_readPar_53 : List UInt8 := 160 :: 0 :: 59 :: t_Rd_readPar_56
abbrev t_Rd_readPar_51 : List UInt8 := 16 :: 123 :: t_Rd_readPar_53
abbrev t_Rd_readPar_48 : List UInt8 := 180 :: 0 :: 66 :: t_Rd_readPar_51
abbrev t_Rd_readPar_47 : List UInt8 := 42 :: t_Rd_readPar_48
abbrev t_Rd_readPar_44 : List UInt8 := 153 :: 0 :: 12 :: t_Rd_readPar_47
abbrev t_Rd_readPar_42 : List UInt8 := 21 :: 5 :: t_Rd_readPar_44
abbrev t_Rd_readPar_39 : List UInt8 := 156 :: 0 :: 73 :: t_Rd_readPar_42
abbrev t_Rd_readPar_36 : List UInt8 := 180 :: 0 :: 60 :: t_Rd_readPar_39
abbrev t_Rd_readPar_35 : List UInt8 := 42 :: t_Rd_readPar_36
abbrev t_Rd_readPar_32 : List UInt8 := 163 :: 0 :: 80 :: t_Rd_readPar_35
abbrev t_Rd_readPar_29 : List UInt8 := 17 :: 15 :: 160 :: t_Rd_readPar_32
abbrev t_Rd_readPar_27 : List UInt8 := 21 :: 5 :: t_Rd_readPar_29
abbrev t_Rd_readPar_25 : List UInt8 := 54 :: 5 :: t_Rd_readPar_27
abbrev t_Rd_readPar_24 : List UInt8 := 3 :: t_Rd_readPar_25
abbrev t_Rd_readPar_22 : List UInt8 := 54 :: 4 :: t_Rd_readPar_24
abbrev t_Rd_readPar_21 : List UInt8 := 46 :: t_Rd_readPar_22
abbrev t_Rd_readPar_20 : List UInt8 := 27 :: t_Rd_readPar_21
abbrev t_Rd_readPar_17 : List UInt8 := 180 :: 0 :: 15 :: t_Rd_readPar_20
abbrev t_Rd_readPar_16 : List UInt8 := 42 :: t_Rd_readPar_17
abbrev t_Rd_readPar_15 : List UInt8 := 62 :: t_Rd_readPar_16
abbrev t_Rd_readPar_14 : List UInt8 := 96 :: t_Rd_readPar_15
abbrev t_Rd_readPar_13 : List UInt8 := 46 :: t_Rd_readPar_14
abbrev t_Rd_readPar_12 : List UInt8 := 27 :: t_Rd_readPar_13
abbrev t_Rd_readPar_9 : List UInt8 := 180 :: 0 :: 9 :: t_Rd_readPar_12
abbrev t_Rd_readPar_8 : List UInt8 := 42 :: t_Rd_readPar_9
abbrev t_Rd_readPar_7 : List UInt8 := 4 :: t_Rd_readPar_8
abbrev t_Rd_readPar_6 : List UInt8 := 61 :: t_Rd_readPar_7
abbrev t_Rd_readPar_5 : List UInt8 := 27 :: t_Rd_readPar_6
abbrev t_Rd_readPar_4 : List UInt8 := 60 :: t_Rd_readPar_5
abbrev t_Rd_readPar_1 : List UInt8 := 182 :: 0 :: 73 :: t_Rd_readPar_4
abbrev t_Rd_readPar_0 : List UInt8 := 42 :: t_Rd_readPar_1
theorem a_Rd_readPar_0 : dk_at b_Rd_readPar 0 t_Rd_readPar_0 := dk_start (by decide +kernel)
theorem a_Rd_readPar_1 : dk_at b_Rd_readPar 1 t_Rd_readPar_1 := dk_go 1 a_Rd_readPar_0 rfl
theorem a_Rd_readPar_4 : dk_at b_Rd_readPar 4 t_Rd_readPar_4 := dk_go 3 a_Rd_readPar_1 rfl
theorem a_Rd_readPar_5 : dk_at b_Rd_readPar 5 t_Rd_readPar_5 := dk_go 1 a_Rd_readPar_4 rfl
theorem a_Rd_readPar_6 : dk_at b_Rd_readPar 6 t_Rd_readPar_6 := dk_go 1 a_Rd_readPar_5 rfl
theorem a_Rd_readPar_7 : dk_at b_Rd_readPar 7 t_Rd_readPar_7 := dk_go 1 a_Rd_readPar_6 rfl
theorem a_Rd_readPar_8 : dk_at b_Rd_readPar 8 t_Rd_readPar_8 := dk_go 1 a_Rd_readPar_7 rfl
theorem a_Rd_readPar_9 : dk_at b_Rd_readPar 9 t_Rd_readPar_9 := dk_go 1 a_Rd_readPar_8 rfl
theorem a_Rd_readPar_12 : dk_at b_Rd_readPar 12 t_Rd_readPar_12 := dk_go 3 a_Rd_readPar_9 rfl
theorem a_Rd_readPar_13 : dk_at b_Rd_readPar 13 t_Rd_readPar_13 := dk_go 1 a_Rd_readPar_12 rfl
theorem a_Rd_readPar_14 : dk_at b_Rd_readPar 14 t_Rd_readPar_14 := dk_go 1 a_Rd_readPar_13 rfl
theorem a_Rd_readPar_15 : dk_at b_Rd_readPar 15 t_Rd_readPar_15 := dk_go 1 a_Rd_readPar_14 rfl
theorem a_Rd_readPar_16 : dk_at b_Rd_readPar 16 t_Rd_readPar_16 := dk_go 1 a_Rd_readPar_15 rfl
theorem a_Rd_readPar_17 : dk_at b_Rd_readPar 17 t_Rd_readPar_17 := dk_go 1 a_Rd_readPar_16 rfl
theorem a_Rd_readPar_20 : dk_at b_Rd_readPar 20 t_Rd_readPar_20 := dk_go 3 a_Rd_readPar_17 rfl
theorem a_Rd_readPar_21 : dk_at b_Rd_readPar 21 t_Rd_readPar_21 := dk_go 1 a_Rd_readPar_20 rfl
theorem a_Rd_readPar_22 : dk_at b_Rd_readPar 22 t_Rd_readPar_22 := dk_go 1 a_Rd_readPar_21 rfl
theorem a_Rd_readPar_24 : dk_at b_Rd_readPar 24 t_Rd_readPar_24 := dk_go 2 a_Rd_readPar_22 rfl
theorem a_Rd_readPar_25 : dk_at b_Rd_readPar 25 t_Rd_readPar_25 := dk_go 1 a_Rd_readPar_24 rfl
theorem a_Rd_readPar_27 : dk_at b_Rd_readPar 27 t_Rd_readPar_27 := dk_go 2 a_Rd_readPar_25 rfl
theorem a_Rd_readPar_29 : dk_at b_Rd_readPar 29 t_Rd_readPar_29 := dk_go 2 a_Rd_readPar_27 rfl
theorem a_Rd_readPar_32 : dk_at b_Rd_readPar 32 t_Rd_readPar_32 := dk_go 3 a_Rd_readPar_29 rfl
theorem a_Rd_readPar_35 : dk_at b_Rd_readPar 35 t_Rd_readPar_35 := dk_go 3 a_Rd_readPar_32 rfl
theorem a_Rd_readPar_36 : dk_at b_Rd_readPar 36 t_Rd_readPar_36 := dk_go 1 a_Rd_readPar_35 rfl
theorem a_Rd_readPar_39 : dk_at b_Rd_readPar 39 t_Rd_readPar_39 := dk_go 3 a_Rd_readPar_36 rfl
theorem a_Rd_readPar_42 : dk_at b_Rd_readPar 42 t_Rd_readPar_42 := dk_go 3 a_Rd_readPar_39 rfl
theorem a_Rd_readPar_44 : dk_at b_Rd_readPar 44 t_Rd_readPar_44 := dk_go 2 a_Rd_readPar_42 rfl
theorem a_Rd_readPar_47 : dk_at b_Rd_readPar 47 t_Rd_readPar_47 := dk_go 3 a_Rd_readPar_44 rfl
theorem a_Rd_readPar_48 : dk_at b_Rd_readPar 48 t_Rd_readPar_48 := dk_go 1 a_Rd_readPar_47 rfl
theorem a_Rd_readPar_51 : dk_at b_Rd_readPar 51 t_Rd_readPar_51 := dk_go 3 a_Rd_readPar_48 rfl
theorem a_Rd_readPar_53 : dk_at b_Rd_readPar 53 t_Rd_readPar_53 := dk_go 2 a_Rd_readPar_51 rfl
theorem a_Rd_readPar_56 : dk_at b_Rd_readPar 56 t_Rd_readPar_56 := dk_go 3 a_Rd_readPar_53 rfl
theorem a_Rd_readPar_57 : dk_at b_Rd_readPar 57 t_Rd_readPar_57 := dk_go 1 a_Rd_readPar_56 rfl
theorem a_Rd_readPar_60 : dk_at b_Rd_readPar 60 t_Rd_readPar_60 := dk_go 3 a_Rd_readPar_57 rfl
theorem a_Rd_readPar_62 : dk_at b_Rd_readPar 62 t_Rd_readPar_62 := dk_go 2 a_Rd_readPar_60 rfl
theorem a_Rd_readPar_63 : dk_at b_Rd_readPar 63 t_Rd_readPar_63 := dk_go 1 a_Rd_readPar_62 rfl
theorem a_Rd_readPar_66 : dk_at b_Rd_readPar 66 t_Rd_readPar_66 := dk_go 3 a_Rd_readPar_63 rfl
theorem a_Rd_readPar_69 : dk_at b_Rd_readPar 69 t_Rd_readPar_69 := dk_go 3 a_Rd_readPar_66 rfl
theorem a_Rd_readPar_70 : dk_at b_Rd_readPar 70 t_Rd_readPar_70 := dk_go 1 a_Rd_readPar_69 rfl
theorem a_Rd_readPar_72 : dk_at b_Rd_readPar 72 t_Rd_readPar_72 := dk_go 2 a_Rd_readPar_70 rfl
theorem a_Rd_readPar_73 : dk_at b_Rd_readPar 73 t_Rd_readPar_73 := dk_go 1 a_Rd_readPar_72 rfl
theorem a_Rd_readPar_75 : dk_at b_Rd_readPar 75 t_Rd_readPar_75 := dk_go 2 a_Rd_readPar_73 rfl
theorem a_Rd_readPar_76 : dk_at b_Rd_readPar 76 t_Rd_readPar_76 := dk_go 1 a_Rd_readPar_75 rfl
theorem a_Rd_readPar_77 : dk_at b_Rd_readPar 77 t_Rd_readPar_77 := dk_go 1 a_Rd_readPar_76 rfl
theorem a_Rd_readPar_78 : dk_at b_Rd_readPar 78 t_Rd_readPar_78 := dk_go 1 a_Rd_readPar_77 rfl
theorem a_Rd_readPar_81 : dk_at b_Rd_readPar 81 t_Rd_readPar_81 := dk_go 3 a_Rd_readPar_78 rfl
theorem a_Rd_readPar_83 : dk_at b_Rd_readPar 83 t_Rd_readPar_83 := dk_go 2 a_Rd_readPar_81 rfl
theorem a_Rd_readPar_84 : dk_at b_Rd_readPar 84 t_Rd_readPar_84 := dk_go 1 a_Rd_readPar_83 rfl
theorem a_Rd_readPar_85 : dk_at b_Rd_readPar 85 t_Rd_readPar_85 := dk_go 1 a_Rd_readPar_84 rfl
theorem a_Rd_readPar_88 : dk_at b_Rd_readPar 88 t_Rd_readPar_88 := dk_go 3 a_Rd_readPar_85 rfl
theorem a_Rd_readPar_91 : dk_at b_Rd_readPar 91 t_Rd_readPar_91 := dk_go 3 a_Rd_readPar_88 rfl
theorem a_Rd_readPar_92 : dk_at b_Rd_readPar 92 t_Rd_readPar_92 := dk_go 1 a_Rd_readPar_91 rfl
theorem a_Rd_readPar_94 : dk_at b_Rd_readPar 94 t_Rd_readPar_94 := dk_go 2 a_Rd_readPar_92 rfl
theorem a_Rd_readPar_95 : dk_at b_Rd_readPar 95 t_Rd_readPar_95 := dk_go 1 a_Rd_readPar_94 rfl
theorem a_Rd_readPar_98 : dk_at b_Rd_readPar 98 t_Rd_readPar_98 := dk_go 3 a_Rd_readPar_95 rfl
theorem a_Rd_readPar_100 : dk_at b_Rd_readPar 100 t_Rd_readPar_100 := dk_go 2 a_Rd_readPar_98 rfl
theorem a_Rd_readPar_101 : dk_at b_Rd_readPar 101 t_Rd_readPar_101 := dk_go 1 a_Rd_readPar_100 rfl
theorem a_Rd_readPar_104 : dk_at b_Rd_readPar 104 t_Rd_readPar_104 := dk_go 3 a_Rd_readPar_101 rfl
theorem a_Rd_readPar_106 : dk_at b_Rd_readPar 106 t_Rd_readPar_106 := dk_go 2 a_Rd_readPar_104 rfl
theorem a_Rd_readPar_109 : dk_at b_Rd_readPar 109 t_Rd_readPar_109 := dk_go 3 a_Rd_readPar_106 rfl
theorem a_Rd_readPar_112 : dk_at b_Rd_readPar 112 t_Rd_readPar_112 := dk_go 3 a_Rd_readPar_109 rfl
theorem a_Rd_readPar_113 : dk_at b_Rd_readPar 113 t_Rd_readPar_113 := dk_go 1 a_Rd_readPar_112 rfl
theorem a_Rd_readPar_115 : dk_at b_Rd_readPar 115 t_Rd_readPar_115 := dk_go 2 a_Rd_readPar_113 rfl
theorem a_Rd_readPar_116 : dk_at b_Rd_readPar 116 t_Rd_readPar_116 := dk_go 1 a_Rd_readPar_115 rfl
theorem a_Rd_readPar_119 : dk_at b_Rd_readPar 119 t_Rd_readPar_119 := dk_go 3 a_Rd_readPar_116 rfl
theorem a_Rd_readPar_121 : dk_at b_Rd_readPar 121 t_Rd_readPar_121 := dk_go 2 a_Rd_readPar_119 rfl
theorem a_Rd_readPar_122 : dk_at b_Rd_readPar 122 t_Rd_readPar_122 := dk_go 1 a_Rd_readPar_121 rfl
theorem a_Rd_readPar_125 : dk_at b_Rd_readPar 125 t_Rd_readPar_125 := dk_go 3 a_Rd_readPar_122 rfl
theorem a_Rd_readPar_128 : dk_at b_Rd_readPar 128 t_Rd_readPar_128 := dk_go 3 a_Rd_readPar_125 rfl
theorem a_Rd_readPar_130 : dk_at b_Rd_readPar 130 t_Rd_readPar_130 := dk_go 2 a_Rd_readPar_128 rfl
theorem a_Rd_readPar_131 : dk_at b_Rd_readPar 131 t_Rd_readPar_131 := dk_go 1 a_Rd_readPar_130 rfl
theorem a_Rd_readPar_132 : dk_at b_Rd_readPar 132 t_Rd_readPar_132 := dk_go 1 a_Rd_readPar_131 rfl
theorem a_Rd_readPar_133 : dk_at b_Rd_readPar 133 t_Rd_readPar_133 := dk_go 1 a_Rd_readPar_132 rfl
theorem a_Rd_readPar_136 : dk_at b_Rd_readPar 136 t_Rd_readPar_136 := dk_go 3 a_Rd_readPar_133 rfl
theorem a_Rd_readPar_138 : dk_at b_Rd_readPar 138 t_Rd_readPar_138 := dk_go 2 a_Rd_readPar_136 rfl
theorem a_Rd_readPar_139 : dk_at b_Rd_readPar 139 t_Rd_readPar_139 := dk_go 1 a_Rd_readPar_138 rfl
theorem a_Rd_readPar_140 : dk_at b_Rd_readPar 140 t_Rd_readPar_140 := dk_go 1 a_Rd_readPar_139 rfl
theorem a_Rd_readPar_141 : dk_at b_Rd_readPar 141 t_Rd_readPar_141 := dk_go 1 a_Rd_readPar_140 rfl
theorem a_Rd_readPar_144 : dk_at b_Rd_readPar 144 t_Rd_readPar_144 := dk_go 3 a_Rd_readPar_141 rfl
theorem a_Rd_readPar_146 : dk_at b_Rd_readPar 146 t_Rd_readPar_146 := dk_go 2 a_Rd_readPar_144 rfl
theorem a_Rd_readPar_148 : dk_at b_Rd_readPar 148 t_Rd_readPar_148 := dk_go 2 a_Rd_readPar_146 rfl
theorem a_Rd_readPar_149 : dk_at b_Rd_readPar 149 t_Rd_readPar_149 := dk_go 1 a_Rd_readPar_148 rfl
theorem a_Rd_readPar_151 : dk_at b_Rd_readPar 151 t_Rd_readPar_151 := dk_go 2 a_Rd_readPar_149 rfl
theorem d_Rd_readPar_0 : decode b_Rd_readPar 0 = .ok (.aload_n 0, 1) := dk_0 a_Rd_readPar_0 (dko_42 _)
theorem d_Rd_readPar_1 : decode b_Rd_readPar 1 = .ok (.invokevirtual 73, 3) := dk_U2 a_Rd_readPar_1 (dko_182 _) rfl
theorem d_Rd_readPar_4 : decode b_Rd_readPar 4 = .ok (.istore_n 1, 1) := dk_0 a_Rd_readPar_4 (dko_60 _)
theorem d_Rd_readPar_5 : decode b_Rd_readPar 5 = .ok (.iload_n 1, 1) := dk_0 a_Rd_readPar_5 (dko_27 _)
theorem d_Rd_readPar_6 : decode b_Rd_readPar 6 = .ok (.istore_n 2, 1) := dk_0 a_Rd_readPar_6 (dko_61 _)
theorem d_Rd_readPar_7 : decode b_Rd_readPar 7 = .ok (.iconst 1, 1) := dk_0 a_Rd_readPar_7 (dko_4 _)
theorem d_Rd_readPar_8 : decode b_Rd_readPar 8 = .ok (.aload_n 0, 1) := dk_0 a_Rd_readPar_8 (dko_42 _)
theorem d_Rd_readPar_9 : decode b_Rd_readPar 9 = .ok (.getfield 9, 3) := dk_U2 a_Rd_readPar_9 (dko_180 _) rfl
theorem d_Rd_readPar_12 : decode b_Rd_readPar 12 = .ok (.iload_n 1, 1) := dk_0 a_Rd_readPar_12 (dko_27 _)
theorem d_Rd_readPar_13 : decode b_Rd_readPar 13 = .ok (.iaload, 1) := dk_0 a_Rd_readPar_13 (dko_46 _)
theorem d_Rd_readPar_14 : decode b_Rd_readPar 14 = .ok (.iadd, 1) := dk_0 a_Rd_readPar_14 (dko_96 _)
theorem d_Rd_readPar_15 : decode b_Rd_readPar 15 = .ok (.istore_n 3, 1) := dk_0 a_Rd_readPar_15 (dko_62 _)
theorem d_Rd_readPar_16 : decode b_Rd_readPar 16 = .ok (.aload_n 0, 1) := dk_0 a_Rd_readPar_16 (dko_42 _)
theorem d_Rd_readPar_17 : decode b_Rd_readPar 17 = .ok (.getfield 15, 3) := dk_U2 a_Rd_readPar_17 (dko_180 _) rfl
theorem d_Rd_readPar_20 : decode b_Rd_readPar 20 = .ok (.iload_n 1, 1) := dk_0 a_Rd_readPar_20 (dko_27 _)
theorem d_Rd_readPar_21 : decode b_Rd_readPar 21 = .ok (.iaload, 1) := dk_0 a_Rd_readPar_21 (dko_46 _)
theorem d_Rd_readPar_22 : decode b_Rd_readPar 22 = .ok (.istore 4, 2) := dk_U1 a_Rd_readPar_22 (dko_54 _) rfl
theorem d_Rd_readPar_24 : decode b_Rd_readPar 24 = .ok (.iconst 0, 1) := dk_0 a_Rd_readPar_24 (dko_3 _)
theorem d_Rd_readPar_25 : decode b_Rd_readPar 25 = .ok (.istore 5, 2) := dk_U1 a_Rd_readPar_25 (dko_54 _) rfl
theorem d_Rd_readPar_27 : decode b_Rd_readPar 27 = .ok (.iload 5, 2) := dk_U1 a_Rd_readPar_27 (dko_21 _) rfl
theorem d_Rd_readPar_29 : decode b_Rd_readPar 29 = .ok (.sipush 4000, 3) := dk_S2 a_Rd_readPar_29 (dko_17 _) (by decide +kernel)
theorem d_Rd_readPar_32 : decode b_Rd_readPar 32 = .ok (.if_icmp .gt 80, 3) := dk_S2 a_Rd_readPar_32 (dko_163 _) (by decide +kernel)
theorem d_Rd_readPar_35 : decode b_Rd_readPar 35 = .ok (.aload_n 0, 1) := dk_0 a_Rd_readPar_35 (dko_42 _)
theorem d_Rd_readPar_36 : decode b_Rd_readPar 36 = .ok (.getfield 60, 3) := dk_U2 a_Rd_readPar_36 (dko_180 _) rfl
theorem d_Rd_readPar_39 : decode b_Rd_readPar 39 = .ok (.ifCond .ge 73, 3) := dk_S2 a_Rd_readPar_39 (dko_156 _) (by decide +kernel)
theorem d_Rd_readPar_42 : decode b_Rd_readPar 42 = .ok (.iload 5, 2) := dk_U1 a_Rd_readPar_42 (dko_21 _) rfl
theorem d_Rd_readPar_44 : decode b_Rd_readPar 44 = .ok (.ifCond .eq 12, 3) := dk_S2 a_Rd_readPar_44 (dko_153 _) (by decide +kernel)
theorem d_Rd_readPar_47 : decode b_Rd_readPar 47 = .ok (.aload_n 0, 1) := dk_0 a_Rd_readPar_47 (dko_42 _)
theorem d_Rd_readPar_48 : decode b_Rd_readPar 48 = .ok (.getfield 66, 3) := dk_U2 a_Rd_readPar_48 (dko_180 _) rfl
theorem d_Rd_readPar_51 : decode b_Rd_readPar 51 = .ok (.bipush 123, 2) := dk_S1 a_Rd_readPar_51 (dko_16 _) (by decide +kernel)
theorem d_Rd_readPar_53 : decode b_Rd_readPar 53 = .ok (.if_icmp .ne 59, 3) := dk_S2 a_Rd_readPar_53 (dko_160 _) (by decide +kernel)
theorem d_Rd_readPar_56 : decode b_Rd_readPar 56 = .ok (.aload_n 0, 1) := dk_0 a_Rd_readPar_56 (dko_42 _)
theorem d_Rd_readPar_57 : decode b_Rd_readPar 57 = .ok (.invokevirtual 73, 3) := dk_U2 a_Rd_readPar_57 (dko_182 _) rfl
theorem d_Rd_readPar_60 : decode b_Rd_readPar 60 = .ok (.istore 6, 2) := dk_U1 a_Rd_readPar_60 (dko_54 _) rfl
theorem d_Rd_readPar_62 : decode b_Rd_readPar 62 = .ok (.aload_n 0, 1) := dk_0 a_Rd_readPar_62 (dko_42 _)
theorem d_Rd_readPar_63 : decode b_Rd_readPar 63 = .ok (.getfield 44, 3) := dk_U2 a_Rd_readPar_63 (dko_180 _) rfl
theorem d_Rd_readPar_66 : decode b_Rd_readPar 66 = .ok (.getfield 105, 3) := dk_U2 a_Rd_readPar_66 (dko_180 _) rfl
theorem d_Rd_readPar_69 : decode b_Rd_readPar 69 = .ok (.iload_n 2, 1) := dk_0 a_Rd_readPar_69 (dko_28 _)
theorem d_Rd_readPar_70 : decode b_Rd_readPar 70 = .ok (.iload 6, 2) := dk_U1 a_Rd_readPar_70 (dko_21 _) rfl
theorem d_Rd_readPar_72 : decode b_Rd_readPar 72 = .ok (.iastore, 1) := dk_0 a_Rd_readPar_72 (dko_79 _)
theorem d_Rd_readPar_73 : decode b_Rd_readPar 73 = .ok (.iload 6, 2) := dk_U1 a_Rd_readPar_73 (dko_21 _) rfl
theorem d_Rd_readPar_75 : decode b_Rd_readPar 75 = .ok (.istore_n 2, 1) := dk_0 a_Rd_readPar_75 (dko_61 _)
theorem d_Rd_readPar_76 : decode b_Rd_readPar 76 = .ok (.iload_n 3, 1) := dk_0 a_Rd_readPar_76 (dko_29 _)
theorem d_Rd_readPar_77 : decode b_Rd_readPar 77 = .ok (.aload_n 0, 1) := dk_0 a_Rd_readPar_77 (dko_42 _)
theorem d_Rd_readPar_78 : decode b_Rd_readPar 78 = .ok (.getfield 9, 3) := dk_U2 a_Rd_readPar_78 (dko_180 _) rfl
theorem d_Rd_readPar_81 : decode b_Rd_readPar 81 = .ok (.iload 6, 2) := dk_U1 a_Rd_readPar_81 (dko_21 _) rfl
theorem d_Rd_readPar_83 : decode b_Rd_readPar 83 = .ok (.iaload, 1) := dk_0 a_Rd_readPar_83 (dko_46 _)
theorem d_Rd_readPar_84 : decode b_Rd_readPar 84 = .ok (.iadd, 1) := dk_0 a_Rd_readPar_84 (dko_96 _)
theorem d_Rd_readPar_85 : decode b_Rd_readPar 85 = .ok (.sipush 501, 3) := dk_S2 a_Rd_readPar_85 (dko_17 _) (by decide +kernel)
theorem d_Rd_readPar_88 : decode b_Rd_readPar 88 = .ok (.invokestatic 94, 3) := dk_U2 a_Rd_readPar_88 (dko_184 _) rfl
theorem d_Rd_readPar_91 : decode b_Rd_readPar 91 = .ok (.istore_n 3, 1) := dk_0 a_Rd_readPar_91 (dko_62 _)
theorem d_Rd_readPar_92 : decode b_Rd_readPar 92 = .ok (.iload 4, 2) := dk_U1 a_Rd_readPar_92 (dko_21 _) rfl
theorem d_Rd_readPar_94 : decode b_Rd_readPar 94 = .ok (.aload_n 0, 1) := dk_0 a_Rd_readPar_94 (dko_42 _)
theorem d_Rd_readPar_95 : decode b_Rd_readPar 95 = .ok (.getfield 15, 3) := dk_U2 a_Rd_readPar_95 (dko_180 _) rfl
theorem d_Rd_readPar_98 : decode b_Rd_readPar 98 = .ok (.iload 6, 2) := dk_U1 a_Rd_readPar_98 (dko_21 _) rfl
theorem d_Rd_readPar_100 : decode b_Rd_readPar 100 = .ok (.iaload, 1) := dk_0 a_Rd_readPar_100 (dko_46 _)
theorem d_Rd_readPar_101 : decode b_Rd_readPar 101 = .ok (.invokestatic 99, 3) := dk_U2 a_Rd_readPar_101 (dko_184 _) rfl
theorem d_Rd_readPar_104 : decode b_Rd_readPar 104 = .ok (.istore 4, 2) := dk_U1 a_Rd_readPar_104 (dko_54 _) rfl
theorem d_Rd_readPar_106 : decode b_Rd_readPar 106 = .ok (.iinc 5 1, 3) := dk_US a_Rd_readPar_106 (dko_132 _) (by decide +kernel)
theorem d_Rd_readPar_109 : decode b_Rd_readPar 109 = .ok (.goto (-82), 3) := dk_S2 a_Rd_readPar_109 (dko_167 _) (by decide +kernel)
theorem d_Rd_readPar_112 : decode b_Rd_readPar 112 = .ok (.aload_n 0, 1) := dk_0 a_Rd_readPar_112 (dko_42 _)
theorem d_Rd_readPar_113 : decode b_Rd_readPar 113 = .ok (.bipush 16, 2) := dk_S1 a_Rd_readPar_113 (dko_16 _) (by decide +kernel)
theorem d_Rd_readPar_115 : decode b_Rd_readPar 115 = .ok (.iconst 0, 1) := dk_0 a_Rd_readPar_115 (dko_3 _)
theorem d_Rd_readPar_116 : decode b_Rd_readPar 116 = .ok (.invokevirtual 79, 3) := dk_U2 a_Rd_readPar_116 (dko_182 _) rfl
theorem d_Rd_readPar_119 : decode b_Rd_readPar 119 = .ok (.istore 5, 2) := dk_U1 a_Rd_readPar_119 (dko_54 _) rfl
theorem d_Rd_readPar_121 : decode b_Rd_readPar 121 = .ok (.aload_n 0, 1) := dk_0 a_Rd_readPar_121 (dko_42 _)
theorem d_Rd_readPar_122 : decode b_Rd_readPar 122 = .ok (.getfield 44, 3) := dk_U2 a_Rd_readPar_122 (dko_180 _) rfl
theorem d_Rd_readPar_125 : decode b_Rd_readPar 125 = .ok (.getfield 175, 3) := dk_U2 a_Rd_readPar_125 (dko_180 _) rfl
theorem d_Rd_readPar_128 : decode b_Rd_readPar 128 = .ok (.iload 5, 2) := dk_U1 a_Rd_readPar_128 (dko_21 _) rfl
theorem d_Rd_readPar_130 : decode b_Rd_readPar 130 = .ok (.iload_n 1, 1) := dk_0 a_Rd_readPar_130 (dko_27 _)
theorem d_Rd_readPar_131 : decode b_Rd_readPar 131 = .ok (.iastore, 1) := dk_0 a_Rd_readPar_131 (dko_79 _)
theorem d_Rd_readPar_132 : decode b_Rd_readPar 132 = .ok (.aload_n 0, 1) := dk_0 a_Rd_readPar_132 (dko_42 _)
theorem d_Rd_readPar_133 : decode b_Rd_readPar 133 = .ok (.getfield 9, 3) := dk_U2 a_Rd_readPar_133 (dko_180 _) rfl
theorem d_Rd_readPar_136 : decode b_Rd_readPar 136 = .ok (.iload 5, 2) := dk_U1 a_Rd_readPar_136 (dko_21 _) rfl
theorem d_Rd_readPar_138 : decode b_Rd_readPar 138 = .ok (.iload_n 3, 1) := dk_0 a_Rd_readPar_138 (dko_29 _)
theorem d_Rd_readPar_139 : decode b_Rd_readPar 139 = .ok (.iastore, 1) := dk_0 a_Rd_readPar_139 (dko_79 _)
theorem d_Rd_readPar_140 : decode b_Rd_readPar 140 = .ok (.aload_n 0, 1) := dk_0 a_Rd_readPar_140 (dko_42 _)
theorem d_Rd_readPar_141 : decode b_Rd_readPar 141 = .ok (.getfield 15, 3) := dk_U2 a_Rd_readPar_141 (dko_180 _) rfl
theorem d_Rd_readPar_144 : decode b_Rd_readPar 144 = .ok (.iload 5, 2) := dk_U1 a_Rd_readPar_144 (dko_21 _) rfl
theorem d_Rd_readPar_146 : decode b_Rd_readPar 146 = .ok (.iload 4, 2) := dk_U1 a_Rd_readPar_146 (dko_21 _) rfl
theorem d_Rd_readPar_148 : decode b_Rd_readPar 148 = .ok (.iastore, 1) := dk_0 a_Rd_readPar_148 (dko_79 _)
theorem d_Rd_readPar_149 : decode b_Rd_readPar 149 = .ok (.iload 5, 2) := dk_U1 a_Rd_readPar_149 (dko_21 _) rfl
theorem d_Rd_readPar_151 : decode b_Rd_readPar 151 = .ok (.ireturn, 1) := dk_0 a_Rd_readPar_151 (dko_172 _)
set_option maxHeartbeats 4000000 in
set_option maxRecDepth 100000 in
theorem ok_Rd_readPar (pc : Nat) : OpS mt mi_Rd_readPar pc (cs_Rd_readPar pc) := (os_n (os_n (os_n (os_n (os_n (os_n (os_l (so_aload_n d_Rd_readPar_0 rfl)) (os_l (so_callV (iv := mi_Rd_readBlock) rfl rfl rfl mw_927 mw_929 sl_26 mw_13 mw_930 ⟨by decide +kernel, by decide +kernel, by decide +kernel⟩ (by decide) d_Rd_readPar_1))) (os_n (os_l (so_istore_n d_Rd_readPar_4 rfl (by decide))) (os_n (os_l (so_iload_n d_Rd_readPar_5 rfl)) (os_l (so_istore_n d_Rd_readPar_6 rfl (by decide)))))) (os_n (os_n (os_l (so_iconst d_Rd_readPar_7 (by decide))) (os_l (so_aload_n d_Rd_readPar_8 rfl))) (os_n (os_l (so_get (C := R_Rd) (T := F_Rd) (N := 13) (j := 10) in_Rd rfl (by decide) mw_646 d_Rd_readPar_9)) (os_n (os_l (so_iload_n d_Rd_readPar_12 rfl)) (os_l (so_iaload d_Rd_readPar_13)))))) (os_n (os_n (os_n (os_l (so_iadd d_Rd_readPar_14)) (os_l (so_istore_n d_Rd_readPar_15 rfl (by decide)))) (os_n (os_l (so_aload_n d_Rd_readPar_16 rfl)) (os_n (os_l (so_get (C := R_Rd) (T := F_Rd) (N := 13) (j := 11) in_Rd rfl (by decide) mw_647 d_Rd_readPar_17)) (os_l (so_iload_n d_Rd_readPar_20 rfl))))) (os_n (os_n (os_l (so_iaload d_Rd_readPar_21)) (os_l (so_istore d_Rd_readPar_22 (by decide)))) (os_n (os_l (so_iconst d_Rd_readPar_24 (by decide))) (os_n (os_l (so_istore d_Rd_readPar_25 (by decide))) (os_l (so_iload d_Rd_readPar_27))))))) (os_n (os_n (os_n (os_n (os_l (so_sipush d_Rd_readPar_29 (by decide))) (os_l (so_icgt d_Rd_readPar_32 (by decide)))) (os_n (os_l (so_aload_n d_Rd_readPar_35 rfl)) (os_n (os_l (so_get (C := R_Rd) (T := F_Rd) (N := 13) (j := 9) in_Rd rfl (by decide) mw_645 d_Rd_readPar_36)) (os_l (so_ifge d_Rd_readPar_39 (by decide)))))) (os_n (os_n (os_l (so_iload d_Rd_readPar_42)) (os_l (so_ifeq d_Rd_readPar_44 (by decide)))) (os_n (os_l (so_aload_n d_Rd_readPar_47 rfl)) (os_n (os_l (so_get (C := R_Rd) (T := F_Rd) (N := 13) (j := 3) in_Rd rfl (by decide) mw_639 d_Rd_readPar_48)) (os_l (so_bipush d_Rd_readPar_51 (by decide))))))) (os_n (os_n (os_n (os_l (so_icne d_Rd_readPar_53 (by decide))) (os_l (so_aload_n d_Rd_readPar_56 rfl))) (os_n (os_l (so_callV (iv := mi_Rd_readBlock) rfl rfl rfl mw_927 mw_929 sl_26 mw_13 mw_930 ⟨by decide +kernel, by decide +kernel, by decide +kernel⟩ (by decide) d_Rd_readPar_57)) (os_n (os_l (so_istore d_Rd_readPar_60 (by decide))) (os_l (so_aload_n d_Rd_readPar_62 rfl))))) (os_n (os_n (os_l (so_get (C := R_Rd) (T := F_Rd) (N := 13) (j := 1) in_Rd rfl (by decide) mw_637 d_Rd_readPar_63)) (os_n (os_l (so_get (C := R_Pr) (T := F_Pr) (N := 18) (j := 8) in_Pr rfl (by decide) mw_452 d_Rd_readPar_66)) (os_l (so_iload_n d_Rd_readPar_69 rfl)))) (os_n (os_l (so_iload d_Rd_readPar_70)) (os_n (os_l (so_iastore d_Rd_readPar_72)) (os_l (so_iload d_Rd_readPar_73)))))))) (os_n (os_n (os_n (os_n (os_n (os_l (so_istore_n d_Rd_readPar_75 rfl (by decide))) (os_l (so_iload_n d_Rd_readPar_76 rfl))) (os_n (os_l (so_aload_n d_Rd_readPar_77 rfl)) (os_n (os_l (so_get (C := R_Rd) (T := F_Rd) (N := 13) (j := 10) in_Rd rfl (by decide) mw_646 d_Rd_readPar_78)) (os_l (so_iload d_Rd_readPar_81))))) (os_n (os_n (os_l (so_iaload d_Rd_readPar_83)) (os_l (so_iadd d_Rd_readPar_84))) (os_n (os_l (so_sipush d_Rd_readPar_85 (by decide))) (os_n (os_l (so_callS (iv := mi_Ma_min) rfl mw_962 mw_963 mw_21 mw_964 ⟨by decide +kernel, by decide +kernel, by decide +kernel⟩ (by decide) d_Rd_readPar_88)) (os_l (so_istore_n d_Rd_readPar_91 rfl (by decide))))))) (os_n (os_n (os_n (os_l (so_iload d_Rd_readPar_92)) (os_l (so_aload_n d_Rd_readPar_94 rfl))) (os_n (os_l (so_get (C := R_Rd) (T := F_Rd) (N := 13) (j := 11) in_Rd rfl (by decide) mw_647 d_Rd_readPar_95)) (os_n (os_l (so_iload d_Rd_readPar_98)) (os_l (so_iaload d_Rd_readPar_100))))) (os_n (os_n (os_l (so_callS (iv := mi_Ma_max) rfl mw_972 mw_973 mw_21 mw_974 ⟨by decide +kernel, by decide +kernel, by decide +kernel⟩ (by decide) d_Rd_readPar_101)) (os_n (os_l (so_istore d_Rd_readPar_104 (by decide))) (os_l (so_iinc d_Rd_readPar_106 (by decide) (by decide))))) (os_n (os_l (so_goto d_Rd_readPar_109 (by decide))) (os_n (os_l (so_aload_n d_Rd_readPar_112 rfl)) (os_l (so_bipush d_Rd_readPar_113 (by decide)))))))) (os_n (os_n (os_n (os_n (os_l (so_iconst d_Rd_readPar_115 (by decide))) (os_l (so_callV (iv := mi_Rd_makeNode) rfl rfl rfl mw_958 mw_960 sl_32 mw_13 mw_961 ⟨by decide +kernel, by decide +kernel, by decide +kernel⟩ (by decide) d_Rd_readPar_116))) (os_n (os_l (so_istore d_Rd_readPar_119 (by decide))) (os_n (os_l (so_aload_n d_Rd_readPar_121 rfl)) (os_l (so_get (C := R_Rd) (T := F_Rd) (N := 13) (j := 1) in_Rd rfl (by decide) mw_637 d_Rd_readPar_122))))) (os_n (os_n (os_l (so_get (C := R_Pr) (T := F_Pr) (N := 18) (j := 7) in_Pr rfl (by decide) mw_450 d_Rd_readPar_125)) (os_l (so_iload d_Rd_readPar_128))) (os_n (os_l (so_iload_n d_Rd_readPar_130 rfl)) (os_n (os_l (so_iastore d_Rd_readPar_131)) (os_l (so_aload_n d_Rd_readPar_132 rfl)))))) (os_n (os_n (os_n (os_l (so_get (C := R_Rd) (T := F_Rd) (N := 13) (j := 10) in_Rd rfl (by decide) mw_646 d_Rd_readPar_133)) (os_l (so_iload d_Rd_readPar_136))) (os_n (os_l (so_iload_n d_Rd_readPar_138 rfl)) (os_n (os_l (so_iastore d_Rd_readPar_139)) (os_l (so_aload_n d_Rd_readPar_140 rfl))))) (os_n (os_n (os_l (so_get (C := R_Rd) (T := F_Rd) (N := 13) (j := 11) in_Rd rfl (by decide) mw_647 d_Rd_readPar_141)) (os_n (os_l (so_iload d_Rd_readPar_144)) (os_l (so_iload d_Rd_readPar_146)))) (os_n (os_l (so_iastore d_Rd_readPar_148)) (os_n (os_l (so_iload d_Rd_readPar_149)) (os_l (so_ireturn rfl d_Rd_readPar_151)))))))))
abbrev t_Rd_readGuarded_206 : List UInt8 := 172 :: []
abbrev t_Rd_readGuarded_204 : List UInt8 := 21 :: 6 :: t_Rd_readGuarded_206
abbrev t_Rd_readGuarded_203 : List UInt8 := 79 :: t_Rd_readGuarded_204
abbrev t_Rd_readGuarded_200 : List UInt8 := 184 :: 0 :: 99 :: t_Rd_readGuarded_203
abbrev t_Rd_readGuarded_199 : List UInt8 := 46 :: t_Rd_readGuarded_200
abbrev t_Rd_readGuarded_197 : List UInt8 := 21 :: 5 :: t_Rd_readGuarded_199
abbrev t_Rd_readGuarded_194 : List UInt8 := 180 :: 0 :: 15 :: t_Rd_readGuarded_197
abbrev t_Rd_readGuarded_193 : List UInt8 := 42 :: t_Rd_readGuarded_194
abbrev t_Rd_readGuarded_190 : List UInt8 := 167 :: 0 :: 10 :: t_Rd_readGuarded_193
abbrev t_Rd_readGuarded_189 : List UInt8 := 3 :: t_Rd_readGuarded_190
abbrev t_Rd_readGuarded_186 : List UInt8 := 156 :: 0 :: 7 :: t_Rd_readGuarded_189
abbrev t_Rd_readGuarded_184 : List UInt8 := 21 :: 5 :: t_Rd_readGuarded_186
abbrev t_Rd_readGuarded_183 : List UInt8 := 46 :: t_Rd_readGuarded_184
abbrev t_Rd_readGuarded_181 : List UInt8 := 21 :: 4 :: t_Rd_readGuarded_183
abbrev t_Rd_readGuarded_178 : List UInt8 := 180 :: 0 :: 15 :: t_Rd_readGuarded_181
abbrev t_Rd_readGuarded_177 : List UInt8 := 42 :: t_Rd_readGuarded_178
abbrev t_Rd_readGuarded_175 : List UInt8 := 21 :: 6 :: t_Rd_readGuarded_177
abbrev t_Rd_readGuarded_172 : List UInt8 := 180 :: 0 :: 15 :: t_Rd_readGuarded_175
abbrev t_Rd_readGuarded_171 : List UInt8 := 42 :: t_Rd_readGuarded_172
abbrev t_Rd_readGuarded_170 : List UInt8 := 79 :: t_Rd_readGuarded_171
abbrev t_Rd_readGuarded_167 : List UInt8 := 184 :: 0 :: 94 :: t_Rd_readGuarded_170
abbrev t_Rd_readGuarded_164 : List UInt8 := 17 :: 1 :: 245 :: t_Rd_readGuarded_167
abbrev t_Rd_readGuarded_163 : List UInt8 := 96 :: t_Rd_readGuarded_164
abbrev t_Rd_readGuarded_162 : List UInt8 := 46 :: t_Rd_readGuarded_163
abbrev t_Rd_readGuarded_160 : List UInt8 := 21 :: 5 :: t_Rd_readGuarded_162
abbrev t_Rd_readGuarded_157 : List UInt8 := 180 :: 0 :: 9 :: t_Rd_readGuarded_160
abbrev t_Rd_readGuarded_156 : List UInt8 := 42 :: t_Rd_readGuarded_157
abbrev t_Rd_readGuarded_153 : List UInt8 := 167 :: 0 :: 10 :: t_Rd_readGuarded_156
abbrev t_Rd_readGuarded_152 : List UInt8 := 3 :: t_Rd_readGuarded_153
abbrev t_Rd_readGuarded_149 : List UInt8 := 156 :: 0 :: 7 :: t_Rd_readGuarded_152
abbrev t_Rd_readGuarded_147 : List UInt8 := 21 :: 5 :: t_Rd_readGuarded_149
abbrev t_Rd_readGuarded_146 : List UInt8 := 96 :: t_Rd_readGuarded_147
abbrev t_Rd_readGuarded_145 : List UInt8 := 46 :: t_Rd_readGuarded_146
abbrev t_Rd_readGuarded_143 : List UInt8 := 21 :: 4 :: t_Rd_readGuarded_145
abbrev t_Rd_readGuarded_140 : List UInt8 := 180 :: 0 :: 9 :: t_Rd_readGuarded_143
abbrev t_Rd_readGuarded_139 : List UInt8 := 42 :: t_Rd_readGuarded_140
abbrev t_Rd_readGuarded_138 : List UInt8 := 4 :: t_Rd_readGuarded_139
abbrev t_Rd_readGuarded_136 : List UInt8 := 21 :: 6 :: t_Rd_readGuarded_138
abbrev t_Rd_readGuarded_133 : List UInt8 := 180 :: 0 :: 9 :: t_Rd_readGuarded_136
abbrev t_Rd_readGuarded_132 : List UInt8 := 42 :: t_Rd_readGuarded_133
abbrev t_Rd_readGuarded_131 : List UInt8 := 79 :: t_Rd_readGuarded_132
abbrev t_Rd_readGuarded_129 : List UInt8 := 21 :: 5 :: t_Rd_readGuarded_131
abbrev t_Rd_readGuarded_127 : List UInt8 := 21 :: 4 :: t_Rd_readGuarded_129
abbrev t_Rd_readGuarded_124 : List UInt8 := 180 :: 0 :: 105 :: t_Rd_readGuarded_127
abbrev t_Rd_readGuarded_121 : List UInt8 := 180 :: 0 :: 44 :: t_Rd_readGuarded_124
abbrev t_Rd_readGuarded_120 : List UInt8 := 42 :: t_Rd_readGuarded_121
abbrev t_Rd_readGuarded_119 : List UInt8 := 79 :: t_Rd_readGuarded_120
abbrev t_Rd_readGuarded_117 : List UInt8 := 21 :: 4 :: t_Rd_readGuarded_119
abbrev t_Rd_readGuarded_115 : List UInt8 := 21 :: 6 :: t_Rd_readGuarded_117
abbrev t_Rd_readGuarded_112 : List UInt8 := 180 :: 0 :: 175 :: t_Rd_readGuarded_115
abbrev t_Rd_readGuarded_109 : List UInt8 := 180 :: 0 :: 44 :: t_Rd_readGuarded_112
abbrev t_Rd_readGuarded_108 : List UInt8 := 42 :: t_Rd_readGuarded_109
abbrev t_Rd_readGuarded_106 : List UInt8 := 54 :: 6 :: t_Rd_readGuarded_108
abbrev t_Rd_readGuarded_103 : List UInt8 := 182 :: 0 :: 219 :: t_Rd_readGuarded_106
abbrev t_Rd_readGuarded_102 : List UInt8 := 29 :: t_Rd_readGuarded_103
abbrev t_Rd_readGuarded_101 : List UInt8 := 28 :: t_Rd_readGuarded_102
abbrev t_Rd_readGuarded_98 : List UInt8 := 182 :: 0 :: 79 :: t_Rd_readGuarded_101
abbrev t_Rd_readGuarded_97 : List UInt8 := 3 :: t_Rd_readGuarded_98
abbrev t_Rd_readGuarded_96 : List UInt8 := 27 :: t_Rd_readGuarded_97
abbrev t_Rd_readGuarded_95 : List UInt8 := 42 :: t_Rd_readGuarded_96
abbrev t_Rd_readGuarded_94 : List UInt8 := 42 :: t_Rd_readGuarded_95
abbrev t_Rd_readGuarded_92 : List UInt8 := 54 :: 5 :: t_Rd_readGuarded_94
abbrev t_Rd_readGuarded_89 : List UInt8 := 182 :: 0 :: 73 :: t_Rd_readGuarded_92
abbrev t_Rd_readGuarded_88 : List UInt8 := 42 :: t_Rd_readGuarded_89
abbrev t_Rd_readGuarded_85 : List UInt8 := 182 :: 0 :: 83 :: t_Rd_readGuarded_88
abbrev t_Rd_readGuarded_83 : List UInt8 := 16 :: 18 :: t_Rd_readGuarded_85
abbrev t_Rd_readGuarded_80 : List UInt8 := 167 :: 0 :: 5 :: t_Rd_readGuarded_83
abbrev t_Rd_readGuarded_78 : List UInt8 := 16 :: 21 :: t_Rd_readGuarded_80
abbrev t_Rd_readGuarded_75 : List UInt8 := 160 :: 0 :: 8 :: t_Rd_readGuarded_78
abbrev t_Rd_readGuarded_73 : List UInt8 := 16 :: 20 :: t_Rd_readGuarded_75
abbrev t_Rd_readGuarded_72 : List UInt8 := 27 :: t_Rd_readGuarded_73
abbrev t_Rd_readGuarded_71 : List UInt8 := 42 :: t_Rd_readGuarded_72
abbrev t_Rd_readGuarded_68 : List UInt8 := 160 :: 0 :: 26 :: t_Rd_readGuarded_71
abbrev t_Rd_readGuarded_66 : List UInt8 := 16 :: 18 :: t_Rd_readGuarded_68
abbrev t_Rd_readGuarded_63 : List UInt8 := 180 :: 0 :: 66 :: t_Rd_readGuarded_66
abbrev t_Rd_readGuarded_62 : List UInt8 := 42 :: t_Rd_readGuarded_63
abbrev t_Rd_readGuarded_59 : List UInt8 := 160 :: 0 :: 35 :: t_Rd_readGuarded_62
abbrev t_Rd_readGuarded_57 : List UInt8 := 16 :: 17 :: t_Rd_readGuarded_59
abbrev t_Rd_readGuarded_56 : List UInt8 := 27 :: t_Rd_readGuarded_57
abbrev t_Rd_readGuarded_53 : List UInt8 := 159 :: 0 :: 18 :: t_Rd_readGuarded_56
abbrev t_Rd_readGuarded_51 : List UInt8 := 16 :: 20 :: t_Rd_readGuarded_53
abbrev t_Rd_readGuarded_50 : List UInt8 := 27 :: t_Rd_readGuarded_51
abbrev t_Rd_readGuarded_48 : List UInt8 := 54 :: 5 :: t_Rd_readGuarded_50
abbrev t_Rd_readGuarded_47 : List UInt8 := 2 :: t_Rd_readGuarded_48
abbrev t_Rd_readGuarded_45 : List UInt8 := 54 :: 4 :: t_Rd_readGuarded_47
abbrev t_Rd_readGuarded_42 : List UInt8 := 182 :: 0 :: 73 :: t_Rd_readGuarded_45
abbrev t_Rd_readGuarded_41 : List UInt8 := 42 :: t_Rd_readGuarded_42
abbrev t_Rd_readGuarded_40 : List UInt8 := 62 :: t_Rd_readGuarded_41
abbrev t_Rd_readGuarded_37 : List UInt8 := 180 :: 0 :: 160 :: t_Rd_readGuarded_40
abbrev t_Rd_readGuarded_34 : List UInt8 := 180 :: 0 :: 44 :: t_Rd_readGuarded_37
abbrev t_Rd_readGuarded_33 : List UInt8 := 42 :: t_Rd_readGuarded_34
abbrev t_Rd_readGuarded_32 : List UInt8 := 87 :: t_Rd_readGuarded_33
abbrev t_Rd_readGuarded_29 : List UInt8 := 182 :: 0 :: 209 :: t_Rd_readGuarded_32
abbrev t_Rd_readGuarded_28 : List UInt8 := 3 :: t_Rd_readGuarded_29
abbrev t_Rd_readGuarded_27 : List UInt8 := 42 :: t_Rd_readGuarded_28
abbrev t_Rd_readGuarded_24 : List UInt8 := 167 :: 0 :: 9 :: t_Rd_readGuarded_27
abbrev t_Rd_readGuarded_21 : List UInt8 := 182 :: 0 :: 215 :: t_Rd_readGuarded_24
abbrev t_Rd_readGuarded_20 : List UInt8 := 3 :: t_Rd_readGuarded_21
abbrev t_Rd_readGuarded_17 : List UInt8 := 182 :: 0 :: 209 :: t_Rd_readGuarded_20
abbrev t_Rd_readGuarded_16 : List UInt8 := 4 :: t_Rd_readGuarded_17
abbrev t_Rd_readGuarded_15 : List UInt8 := 42 :: t_Rd_readGuarded_16
abbrev t_Rd_readGuarded_14 : List UInt8 := 42 :: t_Rd_readGuarded_15
abbrev t_Rd_readGuarded_11 : List UInt8 := 160 :: 0 :: 16 :: t_Rd_readGuarded_14
abbrev t_Rd_readGuarded_9 : List UInt8 := 16 :: 19 :: t_Rd_readGuarded_11
abbrev t_Rd_readGuarded_8 : List UInt8 := 27 :: t_Rd_readGuarded_9
abbrev t_Rd_readGuarded_7 : List UInt8 := 61 :: t_Rd_readGuarded_8
abbrev t_Rd_readGuarded_4 : List UInt8 := 180 :: 0 :: 160 :: t_Rd_readGuarded_7
abbrev t_Rd_readGuarded_1 : List UInt8 := 180 :: 0 :: 44 :: t_Rd_readGuarded_4
abbrev t_Rd_readGuarded_0 : List UInt8 := 42 :: t_Rd_readGuarded_1
theorem a_Rd_readGuarded_0 : dk_at b_Rd_readGuarded 0 t_Rd_readGuarded_0 := dk_start (by decide +kernel)
theorem a_Rd_readGuarded_1 : dk_at b_Rd_readGuarded 1 t_Rd_readGuarded_1 := dk_go 1 a_Rd_readGuarded_0 rfl
theorem a_Rd_readGuarded_4 : dk_at b_Rd_readGuarded 4 t_Rd_readGuarded_4 := dk_go 3 a_Rd_readGuarded_1 rfl
theorem a_Rd_readGuarded_7 : dk_at b_Rd_readGuarded 7 t_Rd_readGuarded_7 := dk_go 3 a_Rd_readGuarded_4 rfl
theorem a_Rd_readGuarded_8 : dk_at b_Rd_readGuarded 8 t_Rd_readGuarded_8 := dk_go 1 a_Rd_readGuarded_7 rfl
theorem a_Rd_readGuarded_9 : dk_at b_Rd_readGuarded 9 t_Rd_readGuarded_9 := dk_go 1 a_Rd_readGuarded_8 rfl
theorem a_Rd_readGuarded_11 : dk_at b_Rd_readGuarded 11 t_Rd_readGuarded_11 := dk_go 2 a_Rd_readGuarded_9 rfl
theorem a_Rd_readGuarded_14 : dk_at b_Rd_readGuarded 14 t_Rd_readGuarded_14 := dk_go 3 a_Rd_readGuarded_11 rfl
theorem a_Rd_readGuarded_15 : dk_at b_Rd_readGuarded 15 t_Rd_readGuarded_15 := dk_go 1 a_Rd_readGuarded_14 rfl
theorem a_Rd_readGuarded_16 : dk_at b_Rd_readGuarded 16 t_Rd_readGuarded_16 := dk_go 1 a_Rd_readGuarded_15 rfl
theorem a_Rd_readGuarded_17 : dk_at b_Rd_readGuarded 17 t_Rd_readGuarded_17 := dk_go 1 a_Rd_readGuarded_16 rfl
theorem a_Rd_readGuarded_20 : dk_at b_Rd_readGuarded 20 t_Rd_readGuarded_20 := dk_go 3 a_Rd_readGuarded_17 rfl
theorem a_Rd_readGuarded_21 : dk_at b_Rd_readGuarded 21 t_Rd_readGuarded_21 := dk_go 1 a_Rd_readGuarded_20 rfl
theorem a_Rd_readGuarded_24 : dk_at b_Rd_readGuarded 24 t_Rd_readGuarded_24 := dk_go 3 a_Rd_readGuarded_21 rfl
theorem a_Rd_readGuarded_27 : dk_at b_Rd_readGuarded 27 t_Rd_readGuarded_27 := dk_go 3 a_Rd_readGuarded_24 rfl
theorem a_Rd_readGuarded_28 : dk_at b_Rd_readGuarded 28 t_Rd_readGuarded_28 := dk_go 1 a_Rd_readGuarded_27 rfl
theorem a_Rd_readGuarded_29 : dk_at b_Rd_readGuarded 29 t_Rd_readGuarded_29 := dk_go 1 a_Rd_readGuarded_28 rfl
theorem a_Rd_readGuarded_32 : dk_at b_Rd_readGuarded 32 t_Rd_readGuarded_32 := dk_go 3 a_Rd_readGuarded_29 rfl
theorem a_Rd_readGuarded_33 : dk_at b_Rd_readGuarded 33 t_Rd_readGuarded_33 := dk_go 1 a_Rd_readGuarded_32 rfl
theorem a_Rd_readGuarded_34 : dk_at b_Rd_readGuarded 34 t_Rd_readGuarded_34 := dk_go 1 a_Rd_readGuarded_33 rfl
theorem a_Rd_readGuarded_37 : dk_at b_Rd_readGuarded 37 t_Rd_readGuarded_37 := dk_go 3 a_Rd_readGuarded_34 rfl
theorem a_Rd_readGuarded_40 : dk_at b_Rd_readGuarded 40 t_Rd_readGuarded_40 := dk_go 3 a_Rd_readGuarded_37 rfl
theorem a_Rd_readGuarded_41 : dk_at b_Rd_readGuarded 41 t_Rd_readGuarded_41 := dk_go 1 a_Rd_readGuarded_40 rfl
theorem a_Rd_readGuarded_42 : dk_at b_Rd_readGuarded 42 t_Rd_readGuarded_42 := dk_go 1 a_Rd_readGuarded_41 rfl
theorem a_Rd_readGuarded_45 : dk_at b_Rd_readGuarded 45 t_Rd_readGuarded_45 := dk_go 3 a_Rd_readGuarded_42 rfl
theorem a_Rd_readGuarded_47 : dk_at b_Rd_readGuarded 47 t_Rd_readGuarded_47 := dk_go 2 a_Rd_readGuarded_45 rfl
theorem a_Rd_readGuarded_48 : dk_at b_Rd_readGuarded 48 t_Rd_readGuarded_48 := dk_go 1 a_Rd_readGuarded_47 rfl
theorem a_Rd_readGuarded_50 : dk_at b_Rd_readGuarded 50 t_Rd_readGuarded_50 := dk_go 2 a_Rd_readGuarded_48 rfl
theorem a_Rd_readGuarded_51 : dk_at b_Rd_readGuarded 51 t_Rd_readGuarded_51 := dk_go 1 a_Rd_readGuarded_50 rfl
theorem a_Rd_readGuarded_53 : dk_at b_Rd_readGuarded 53 t_Rd_readGuarded_53 := dk_go 2 a_Rd_readGuarded_51 rfl
theorem a_Rd_readGuarded_56 : dk_at b_Rd_readGuarded 56 t_Rd_readGuarded_56 := dk_go 3 a_Rd_readGuarded_53 rfl
theorem a_Rd_readGuarded_57 : dk_at b_Rd_readGuarded 57 t_Rd_readGuarded_57 := dk_go 1 a_Rd_readGuarded_56 rfl
theorem a_Rd_readGuarded_59 : dk_at b_Rd_readGuarded 59 t_Rd_readGuarded_59 := dk_go 2 a_Rd_readGuarded_57 rfl
theorem a_Rd_readGuarded_62 : dk_at b_Rd_readGuarded 62 t_Rd_readGuarded_62 := dk_go 3 a_Rd_readGuarded_59 rfl
theorem a_Rd_readGuarded_63 : dk_at b_Rd_readGuarded 63 t_Rd_readGuarded_63 := dk_go 1 a_Rd_readGuarded_62 rfl
theorem a_Rd_readGuarded_66 : dk_at b_Rd_readGuarded 66 t_Rd_readGuarded_66 := dk_go 3 a_Rd_readGuarded_63 rfl
theorem a_Rd_readGuarded_68 : dk_at b_Rd_readGuarded 68 t_Rd_readGuarded_68 := dk_go 2 a_Rd_readGuarded_66 rfl
theorem a_Rd_readGuarded_71 : dk_at b_Rd_readGuarded 71 t_Rd_readGuarded_71 := dk_go 3 a_Rd_readGuarded_68 rfl
theorem a_Rd_readGuarded_72 : dk_at b_Rd_readGuarded 72 t_Rd_readGuarded_72 := dk_go 1 a_Rd_readGuarded_71 rfl
theorem a_Rd_readGuarded_73 : dk_at b_Rd_readGuarded 73 t_Rd_readGuarded_73 := dk_go 1 a_Rd_readGuarded_72 rfl
theorem a_Rd_readGuarded_75 : dk_at b_Rd_readGuarded 75 t_Rd_readGuarded_75 := dk_go 2 a_Rd_readGuarded_73 rfl
theorem a_Rd_readGuarded_78 : dk_at b_Rd_readGuarded 78 t_Rd_readGuarded_78 := dk_go 3 a_Rd_readGuarded_75 rfl
theorem a_Rd_readGuarded_80 : dk_at b_Rd_readGuarded 80 t_Rd_readGuarded_80 := dk_go 2 a_Rd_readGuarded_78 rfl
theorem a_Rd_readGuarded_83 : dk_at b_Rd_readGuarded 83 t_Rd_readGuarded_83 := dk_go 3 a_Rd_readGuarded_80 rfl
theorem a_Rd_readGuarded_85 : dk_at b_Rd_readGuarded 85 t_Rd_readGuarded_85 := dk_go 2 a_Rd_readGuarded_83 rfl
theorem a_Rd_readGuarded_88 : dk_at b_Rd_readGuarded 88 t_Rd_readGuarded_88 := dk_go 3 a_Rd_readGuarded_85 rfl
theorem a_Rd_readGuarded_89 : dk_at b_Rd_readGuarded 89 t_Rd_readGuarded_89 := dk_go 1 a_Rd_readGuarded_88 rfl
theorem a_Rd_readGuarded_92 : dk_at b_Rd_readGuarded 92 t_Rd_readGuarded_92 := dk_go 3 a_Rd_readGuarded_89 rfl
theorem a_Rd_readGuarded_94 : dk_at b_Rd_readGuarded 94 t_Rd_readGuarded_94 := dk_go 2 a_Rd_readGuarded_92 rfl
theorem a_Rd_readGuarded_95 : dk_at b_Rd_readGuarded 95 t_Rd_readGuarded_95 := dk_go 1 a_Rd_readGuarded_94 rfl
theorem a_Rd_readGuarded_96 : dk_at b_Rd_readGuarded 96 t_Rd_readGuarded_96 := dk_go 1 a_Rd_readGuarded_95 rfl
theorem a_Rd_readGuarded_97 : dk_at b_Rd_readGuarded 97 t_Rd_readGuarded_97 := dk_go 1 a_Rd_readGuarded_96 rfl
theorem a_Rd_readGuarded_98 : dk_at b_Rd_readGuarded 98 t_Rd_readGuarded_98 := dk_go 1 a_Rd_readGuarded_97 rfl
theorem a_Rd_readGuarded_101 : dk_at b_Rd_readGuarded 101 t_Rd_readGuarded_101 := dk_go 3 a_Rd_readGuarded_98 rfl
theorem a_Rd_readGuarded_102 : dk_at b_Rd_readGuarded 102 t_Rd_readGuarded_102 := dk_go 1 a_Rd_readGuarded_101 rfl
theorem a_Rd_readGuarded_103 : dk_at b_Rd_readGuarded 103 t_Rd_readGuarded_103 := dk_go 1 a_Rd_readGuarded_102 rfl
theorem a_Rd_readGuarded_106 : dk_at b_Rd_readGuarded 106 t_Rd_readGuarded_106 := dk_go 3 a_Rd_readGuarded_103 rfl
theorem a_Rd_readGuarded_108 : dk_at b_Rd_readGuarded 108 t_Rd_readGuarded_108 := dk_go 2 a_Rd_readGuarded_106 rfl
theorem a_Rd_readGuarded_109 : dk_at b_Rd_readGuarded 109 t_Rd_readGuarded_109 := dk_go 1 a_Rd_readGuarded_108 rfl
theorem a_Rd_readGuarded_112 : dk_at b_Rd_readGuarded 112 t_Rd_readGuarded_112 := dk_go 3 a_Rd_readGuarded_109 rfl
theorem a_Rd_readGuarded_115 : dk_at b_Rd_readGuarded 115 t_Rd_readGuarded_115 := dk_go 3 a_Rd_readGuarded_112 rfl
theorem a_Rd_readGuarded_117 : dk_at b_Rd_readGuarded 117 t_Rd_readGuarded_117 := dk_go 2 a_Rd_readGuarded_115 rfl
theorem a_Rd_readGuarded_119 : dk_at b_Rd_readGuarded 119 t_Rd_readGuarded_119 := dk_go 2 a_Rd_readGuarded_117 rfl
theorem a_Rd_readGuarded_120 : dk_at b_Rd_readGuarded 120 t_Rd_readGuarded_120 := dk_go 1 a_Rd_readGuarded_119 rfl
theorem a_Rd_readGuarded_121 : dk_at b_Rd_readGuarded 121 t_Rd_readGuarded_121 := dk_go 1 a_Rd_readGuarded_120 rfl
theorem a_Rd_readGuarded_124 : dk_at b_Rd_readGuarded 124 t_Rd_readGuarded_124 := dk_go 3 a_Rd_readGuarded_121 rfl
theorem a_Rd_readGuarded_127 : dk_at b_Rd_readGuarded 127 t_Rd_readGuarded_127 := dk_go 3 a_Rd_readGuarded_124 rfl
theorem a_Rd_readGuarded_129 : dk_at b_Rd_readGuarded 129 t_Rd_readGuarded_129 := dk_go 2 a_Rd_readGuarded_127 rfl
theorem a_Rd_readGuarded_131 : dk_at b_Rd_readGuarded 131 t_Rd_readGuarded_131 := dk_go 2 a_Rd_readGuarded_129 rfl
theorem a_Rd_readGuarded_132 : dk_at b_Rd_readGuarded 132 t_Rd_readGuarded_132 := dk_go 1 a_Rd_readGuarded_131 rfl
theorem a_Rd_readGuarded_133 : dk_at b_Rd_readGuarded 133 t_Rd_readGuarded_133 := dk_go 1 a_Rd_readGuarded_132 rfl
theorem a_Rd_readGuarded_136 : dk_at b_Rd_readGuarded 136 t_Rd_readGuarded_136 := dk_go 3 a_Rd_readGuarded_133 rfl
theorem a_Rd_readGuarded_138 : dk_at b_Rd_readGuarded 138 t_Rd_readGuarded_138 := dk_go 2 a_Rd_readGuarded_136 rfl
theorem a_Rd_readGuarded_139 : dk_at b_Rd_readGuarded 139 t_Rd_readGuarded_139 := dk_go 1 a_Rd_readGuarded_138 rfl
theorem a_Rd_readGuarded_140 : dk_at b_Rd_readGuarded 140 t_Rd_readGuarded_140 := dk_go 1 a_Rd_readGuarded_139 rfl
theorem a_Rd_readGuarded_143 : dk_at b_Rd_readGuarded 143 t_Rd_readGuarded_143 := dk_go 3 a_Rd_readGuarded_140 rfl
theorem a_Rd_readGuarded_145 : dk_at b_Rd_readGuarded 145 t_Rd_readGuarded_145 := dk_go 2 a_Rd_readGuarded_143 rfl
theorem a_Rd_readGuarded_146 : dk_at b_Rd_readGuarded 146 t_Rd_readGuarded_146 := dk_go 1 a_Rd_readGuarded_145 rfl
theorem a_Rd_readGuarded_147 : dk_at b_Rd_readGuarded 147 t_Rd_readGuarded_147 := dk_go 1 a_Rd_readGuarded_146 rfl
theorem a_Rd_readGuarded_149 : dk_at b_Rd_readGuarded 149 t_Rd_readGuarded_149 := dk_go 2 a_Rd_readGuarded_147 rfl
theorem a_Rd_readGuarded_152 : dk_at b_Rd_readGuarded 152 t_Rd_readGuarded_152 := dk_go 3 a_Rd_readGuarded_149 rfl
theorem a_Rd_readGuarded_153 : dk_at b_Rd_readGuarded 153 t_Rd_readGuarded_153 := dk_go 1 a_Rd_readGuarded_152 rfl
theorem a_Rd_readGuarded_156 : dk_at b_Rd_readGuarded 156 t_Rd_readGuarded_156 := dk_go 3 a_Rd_readGuarded_153 rfl
theorem a_Rd_readGuarded_157 : dk_at b_Rd_readGuarded 157 t_Rd_readGuarded_157 := dk_go 1 a_Rd_readGuarded_156 rfl
theorem a_Rd_readGuarded_160 : dk_at b_Rd_readGuarded 160 t_Rd_readGuarded_160 := dk_go 3 a_Rd_readGuarded_157 rfl
theorem a_Rd_readGuarded_162 : dk_at b_Rd_readGuarded 162 t_Rd_readGuarded_162 := dk_go 2 a_Rd_readGuarded_160 rfl
theorem a_Rd_readGuarded_163 : dk_at b_Rd_readGuarded 163 t_Rd_readGuarded_163 := dk_go 1 a_Rd_readGuarded_162 rfl
theorem a_Rd_readGuarded_164 : dk_at b_Rd_readGuarded 164 t_Rd_readGuarded_164 := dk_go 1 a_Rd_readGuarded_163 rfl
theorem a_Rd_readGuarded_167 : dk_at b_Rd_readGuarded 167 t_Rd_readGuarded_167 := dk_go 3 a_Rd_readGuarded_164 rfl
theorem a_Rd_readGuarded_170 : dk_at b_Rd_readGuarded 170 t_Rd_readGuarded_170 := dk_go 3 a_Rd_readGuarded_167 rfl
theorem a_Rd_readGuarded_171 : dk_at b_Rd_readGuarded 171 t_Rd_readGuarded_171 := dk_go 1 a_Rd_readGuarded_170 rfl
theorem a_Rd_readGuarded_172 : dk_at b_Rd_readGuarded 172 t_Rd_readGuarded_172 := dk_go 1 a_Rd_readGuarded_171 rfl
theorem a_Rd_readGuarded_175 : dk_at b_Rd_readGuarded 175 t_Rd_readGuarded_175 := dk_go 3 a_Rd_readGuarded_172 rfl
theorem a_Rd_readGuarded_177 : dk_at b_Rd_readGuarded 177 t_Rd_readGuarded_177 := dk_go 2 a_Rd_readGuarded_175 rfl
theorem a_Rd_readGuarded_178 : dk_at b_Rd_readGuarded 178 t_Rd_readGuarded_178 := dk_go 1 a_Rd_readGuarded_177 rfl
theorem a_Rd_readGuarded_181 : dk_at b_Rd_readGuarded 181 t_Rd_readGuarded_181 := dk_go 3 a_Rd_readGuarded_178 rfl
theorem a_Rd_readGuarded_183 : dk_at b_Rd_readGuarded 183 t_Rd_readGuarded_183 := dk_go 2 a_Rd_readGuarded_181 rfl
theorem a_Rd_readGuarded_184 : dk_at b_Rd_readGuarded 184 t_Rd_readGuarded_184 := dk_go 1 a_Rd_readGuarded_183 rfl
theorem a_Rd_readGuarded_186 : dk_at b_Rd_readGuarded 186 t_Rd_readGuarded_186 := dk_go 2 a_Rd_readGuarded_184 rfl
theorem a_Rd_readGuarded_189 : dk_at b_Rd_readGuarded 189 t_Rd_readGuarded_189 := dk_go 3 a_Rd_readGuarded_186 rfl
theorem a_Rd_readGuarded_190 : dk_at b_Rd_readGuarded 190 t_Rd_readGuarded_190 := dk_go 1 a_Rd_readGuarded_189 rfl
theorem a_Rd_readGuarded_193 : dk_at b_Rd_readGuarded 193 t_Rd_readGuarded_193 := dk_go 3 a_Rd_readGuarded_190 rfl
theorem a_Rd_readGuarded_194 : dk_at b_Rd_readGuarded 194 t_Rd_readGuarded_194 := dk_go 1 a_Rd_readGuarded_193 rfl
theorem a_Rd_readGuarded_197 : dk_at b_Rd_readGuarded 197 t_Rd_readGuarded_197 := dk_go 3 a_Rd_readGuarded_194 rfl
theorem a_Rd_readGuarded_199 : dk_at b_Rd_readGuarded 199 t_Rd_readGuarded_199 := dk_go 2 a_Rd_readGuarded_197 rfl
theorem a_Rd_readGuarded_200 : dk_at b_Rd_readGuarded 200 t_Rd_readGuarded_200 := dk_go 1 a_Rd_readGuarded_199 rfl
theorem a_Rd_readGuarded_203 : dk_at b_Rd_readGuarded 203 t_Rd_readGuarded_203 := dk_go 3 a_Rd_readGuarded_200 rfl
theorem a_Rd_readGuarded_204 : dk_at b_Rd_readGuarded 204 t_Rd_readGuarded_204 := dk_go 1 a_Rd_readGuarded_203 rfl
theorem a_Rd_readGuarded_206 : dk_at b_Rd_readGuarded 206 t_Rd_readGuarded_206 := dk_go 2 a_Rd_readGuarded_204 rfl
theorem d_Rd_readGuarded_0 : decode b_Rd_readGuarded 0 = .ok (.aload_n 0, 1) := dk_0 a_Rd_readGuarded_0 (dko_42 _)
theorem d_Rd_readGuarded_1 : decode b_Rd_readGuarded 1 = .ok (.getfield 44, 3) := dk_U2 a_Rd_readGuarded_1 (dko_180 _) rfl
theorem d_Rd_readGuarded_4 : decode b_Rd_readGuarded 4 = .ok (.getfield 160, 3) := dk_U2 a_Rd_readGuarded_4 (dko_180 _) rfl
theorem d_Rd_readGuarded_7 : decode b_Rd_readGuarded 7 = .ok (.istore_n 2, 1) := dk_0 a_Rd_readGuarded_7 (dko_61 _)
theorem d_Rd_readGuarded_8 : decode b_Rd_readGuarded 8 = .ok (.iload_n 1, 1) := dk_0 a_Rd_readGuarded_8 (dko_27 _)
theorem d_Rd_readGuarded_9 : decode b_Rd_readGuarded 9 = .ok (.bipush 19, 2) := dk_S1 a_Rd_readGuarded_9 (dko_16 _) (by decide +kernel)
theorem d_Rd_readGuarded_11 : decode b_Rd_readGuarded 11 = .ok (.if_icmp .ne 16, 3) := dk_S2 a_Rd_readGuarded_11 (dko_160 _) (by decide +kernel)
theorem d_Rd_readGuarded_14 : decode b_Rd_readGuarded 14 = .ok (.aload_n 0, 1) := dk_0 a_Rd_readGuarded_14 (dko_42 _)
theorem d_Rd_readGuarded_15 : decode b_Rd_readGuarded 15 = .ok (.aload_n 0, 1) := dk_0 a_Rd_readGuarded_15 (dko_42 _)
theorem d_Rd_readGuarded_16 : decode b_Rd_readGuarded 16 = .ok (.iconst 1, 1) := dk_0 a_Rd_readGuarded_16 (dko_4 _)
theorem d_Rd_readGuarded_17 : decode b_Rd_readGuarded 17 = .ok (.invokevirtual 209, 3) := dk_U2 a_Rd_readGuarded_17 (dko_182 _) rfl
theorem d_Rd_readGuarded_20 : decode b_Rd_readGuarded 20 = .ok (.iconst 0, 1) := dk_0 a_Rd_readGuarded_20 (dko_3 _)
theorem d_Rd_readGuarded_21 : decode b_Rd_readGuarded 21 = .ok (.invokevirtual 215, 3) := dk_U2 a_Rd_readGuarded_21 (dko_182 _) rfl
theorem d_Rd_readGuarded_24 : decode b_Rd_readGuarded 24 = .ok (.goto 9, 3) := dk_S2 a_Rd_readGuarded_24 (dko_167 _) (by decide +kernel)
theorem d_Rd_readGuarded_27 : decode b_Rd_readGuarded 27 = .ok (.aload_n 0, 1) := dk_0 a_Rd_readGuarded_27 (dko_42 _)
theorem d_Rd_readGuarded_28 : decode b_Rd_readGuarded 28 = .ok (.iconst 0, 1) := dk_0 a_Rd_readGuarded_28 (dko_3 _)
theorem d_Rd_readGuarded_29 : decode b_Rd_readGuarded 29 = .ok (.invokevirtual 209, 3) := dk_U2 a_Rd_readGuarded_29 (dko_182 _) rfl
theorem d_Rd_readGuarded_32 : decode b_Rd_readGuarded 32 = .ok (.pop, 1) := dk_0 a_Rd_readGuarded_32 (dko_87 _)
theorem d_Rd_readGuarded_33 : decode b_Rd_readGuarded 33 = .ok (.aload_n 0, 1) := dk_0 a_Rd_readGuarded_33 (dko_42 _)
theorem d_Rd_readGuarded_34 : decode b_Rd_readGuarded 34 = .ok (.getfield 44, 3) := dk_U2 a_Rd_readGuarded_34 (dko_180 _) rfl
theorem d_Rd_readGuarded_37 : decode b_Rd_readGuarded 37 = .ok (.getfield 160, 3) := dk_U2 a_Rd_readGuarded_37 (dko_180 _) rfl
theorem d_Rd_readGuarded_40 : decode b_Rd_readGuarded 40 = .ok (.istore_n 3, 1) := dk_0 a_Rd_readGuarded_40 (dko_62 _)
theorem d_Rd_readGuarded_41 : decode b_Rd_readGuarded 41 = .ok (.aload_n 0, 1) := dk_0 a_Rd_readGuarded_41 (dko_42 _)
theorem d_Rd_readGuarded_42 : decode b_Rd_readGuarded 42 = .ok (.invokevirtual 73, 3) := dk_U2 a_Rd_readGuarded_42 (dko_182 _) rfl
theorem d_Rd_readGuarded_45 : decode b_Rd_readGuarded 45 = .ok (.istore 4, 2) := dk_U1 a_Rd_readGuarded_45 (dko_54 _) rfl
theorem d_Rd_readGuarded_47 : decode b_Rd_readGuarded 47 = .ok (.iconst (-1), 1) := dk_0 a_Rd_readGuarded_47 (dko_2 _)
theorem d_Rd_readGuarded_48 : decode b_Rd_readGuarded 48 = .ok (.istore 5, 2) := dk_U1 a_Rd_readGuarded_48 (dko_54 _) rfl
theorem d_Rd_readGuarded_50 : decode b_Rd_readGuarded 50 = .ok (.iload_n 1, 1) := dk_0 a_Rd_readGuarded_50 (dko_27 _)
theorem d_Rd_readGuarded_51 : decode b_Rd_readGuarded 51 = .ok (.bipush 20, 2) := dk_S1 a_Rd_readGuarded_51 (dko_16 _) (by decide +kernel)
theorem d_Rd_readGuarded_53 : decode b_Rd_readGuarded 53 = .ok (.if_icmp .eq 18, 3) := dk_S2 a_Rd_readGuarded_53 (dko_159 _) (by decide +kernel)
theorem d_Rd_readGuarded_56 : decode b_Rd_readGuarded 56 = .ok (.iload_n 1, 1) := dk_0 a_Rd_readGuarded_56 (dko_27 _)
theorem d_Rd_readGuarded_57 : decode b_Rd_readGuarded 57 = .ok (.bipush 17, 2) := dk_S1 a_Rd_readGuarded_57 (dko_16 _) (by decide +kernel)
theorem d_Rd_readGuarded_59 : decode b_Rd_readGuarded 59 = .ok (.if_icmp .ne 35, 3) := dk_S2 a_Rd_readGuarded_59 (dko_160 _) (by decide +kernel)
theorem d_Rd_readGuarded_62 : decode b_Rd_readGuarded 62 = .ok (.aload_n 0, 1) := dk_0 a_Rd_readGuarded_62 (dko_42 _)
theorem d_Rd_readGuarded_63 : decode b_Rd_readGuarded 63 = .ok (.getfield 66, 3) := dk_U2 a_Rd_readGuarded_63 (dko_180 _) rfl
theorem d_Rd_readGuarded_66 : decode b_Rd_readGuarded 66 = .ok (.bipush 18, 2) := dk_S1 a_Rd_readGuarded_66 (dko_16 _) (by decide +kernel)
theorem d_Rd_readGuarded_68 : decode b_Rd_readGuarded 68 = .ok (.if_icmp .ne 26, 3) := dk_S2 a_Rd_readGuarded_68 (dko_160 _) (by decide +kernel)
theorem d_Rd_readGuarded_71 : decode b_Rd_readGuarded 71 = .ok (.aload_n 0, 1) := dk_0 a_Rd_readGuarded_71 (dko_42 _)
theorem d_Rd_readGuarded_72 : decode b_Rd_readGuarded 72 = .ok (.iload_n 1, 1) := dk_0 a_Rd_readGuarded_72 (dko_27 _)
theorem d_Rd_readGuarded_73 : decode b_Rd_readGuarded 73 = .ok (.bipush 20, 2) := dk_S1 a_Rd_readGuarded_73 (dko_16 _) (by decide +kernel)
theorem d_Rd_readGuarded_75 : decode b_Rd_readGuarded 75 = .ok (.if_icmp .ne 8, 3) := dk_S2 a_Rd_readGuarded_75 (dko_160 _) (by decide +kernel)
theorem d_Rd_readGuarded_78 : decode b_Rd_readGuarded 78 = .ok (.bipush 21, 2) := dk_S1 a_Rd_readGuarded_78 (dko_16 _) (by decide +kernel)
theorem d_Rd_readGuarded_80 : decode b_Rd_readGuarded 80 = .ok (.goto 5, 3) := dk_S2 a_Rd_readGuarded_80 (dko_167 _) (by decide +kernel)
theorem d_Rd_readGuarded_83 : decode b_Rd_readGuarded 83 = .ok (.bipush 18, 2) := dk_S1 a_Rd_readGuarded_83 (dko_16 _) (by decide +kernel)
theorem d_Rd_readGuarded_85 : decode b_Rd_readGuarded 85 = .ok (.invokevirtual 83, 3) := dk_U2 a_Rd_readGuarded_85 (dko_182 _) rfl
theorem d_Rd_readGuarded_88 : decode b_Rd_readGuarded 88 = .ok (.aload_n 0, 1) := dk_0 a_Rd_readGuarded_88 (dko_42 _)
theorem d_Rd_readGuarded_89 : decode b_Rd_readGuarded 89 = .ok (.invokevirtual 73, 3) := dk_U2 a_Rd_readGuarded_89 (dko_182 _) rfl
theorem d_Rd_readGuarded_92 : decode b_Rd_readGuarded 92 = .ok (.istore 5, 2) := dk_U1 a_Rd_readGuarded_92 (dko_54 _) rfl
theorem d_Rd_readGuarded_94 : decode b_Rd_readGuarded 94 = .ok (.aload_n 0, 1) := dk_0 a_Rd_readGuarded_94 (dko_42 _)
theorem d_Rd_readGuarded_95 : decode b_Rd_readGuarded 95 = .ok (.aload_n 0, 1) := dk_0 a_Rd_readGuarded_95 (dko_42 _)
theorem d_Rd_readGuarded_96 : decode b_Rd_readGuarded 96 = .ok (.iload_n 1, 1) := dk_0 a_Rd_readGuarded_96 (dko_27 _)
theorem d_Rd_readGuarded_97 : decode b_Rd_readGuarded 97 = .ok (.iconst 0, 1) := dk_0 a_Rd_readGuarded_97 (dko_3 _)
theorem d_Rd_readGuarded_98 : decode b_Rd_readGuarded 98 = .ok (.invokevirtual 79, 3) := dk_U2 a_Rd_readGuarded_98 (dko_182 _) rfl
theorem d_Rd_readGuarded_101 : decode b_Rd_readGuarded 101 = .ok (.iload_n 2, 1) := dk_0 a_Rd_readGuarded_101 (dko_28 _)
theorem d_Rd_readGuarded_102 : decode b_Rd_readGuarded 102 = .ok (.iload_n 3, 1) := dk_0 a_Rd_readGuarded_102 (dko_29 _)
theorem d_Rd_readGuarded_103 : decode b_Rd_readGuarded 103 = .ok (.invokevirtual 219, 3) := dk_U2 a_Rd_readGuarded_103 (dko_182 _) rfl
theorem d_Rd_readGuarded_106 : decode b_Rd_readGuarded 106 = .ok (.istore 6, 2) := dk_U1 a_Rd_readGuarded_106 (dko_54 _) rfl
theorem d_Rd_readGuarded_108 : decode b_Rd_readGuarded 108 = .ok (.aload_n 0, 1) := dk_0 a_Rd_readGuarded_108 (dko_42 _)
theorem d_Rd_readGuarded_109 : decode b_Rd_readGuarded 109 = .ok (.getfield 44, 3) := dk_U2 a_Rd_readGuarded_109 (dko_180 _) rfl
theorem d_Rd_readGuarded_112 : decode b_Rd_readGuarded 112 = .ok (.getfield 175, 3) := dk_U2 a_Rd_readGuarded_112 (dko_180 _) rfl
theorem d_Rd_readGuarded_115 : decode b_Rd_readGuarded 115 = .ok (.iload 6, 2) := dk_U1 a_Rd_readGuarded_115 (dko_21 _) rfl
theorem d_Rd_readGuarded_117 : decode b_Rd_readGuarded 117 = .ok (.iload 4, 2) := dk_U1 a_Rd_readGuarded_117 (dko_21 _) rfl
theorem d_Rd_readGuarded_119 : decode b_Rd_readGuarded 119 = .ok (.iastore, 1) := dk_0 a_Rd_readGuarded_119 (dko_79 _)
theorem d_Rd_readGuarded_120 : decode b_Rd_readGuarded 120 = .ok (.aload_n 0, 1) := dk_0 a_Rd_readGuarded_120 (dko_42 _)
theorem d_Rd_readGuarded_121 : decode b_Rd_readGuarded 121 = .ok (.getfield 44, 3) := dk_U2 a_Rd_readGuarded_121 (dko_180 _) rfl
theorem d_Rd_readGuarded_124 : decode b_Rd_readGuarded 124 = .ok (.getfield 105, 3) := dk_U2 a_Rd_readGuarded_124 (dko_180 _) rfl
theorem d_Rd_readGuarded_127 : decode b_Rd_readGuarded 127 = .ok (.iload 4, 2) := dk_U1 a_Rd_readGuarded_127 (dko_21 _) rfl
theorem d_Rd_readGuarded_129 : decode b_Rd_readGuarded 129 = .ok (.iload 5, 2) := dk_U1 a_Rd_readGuarded_129 (dko_21 _) rfl
theorem d_Rd_readGuarded_131 : decode b_Rd_readGuarded 131 = .ok (.iastore, 1) := dk_0 a_Rd_readGuarded_131 (dko_79 _)
theorem d_Rd_readGuarded_132 : decode b_Rd_readGuarded 132 = .ok (.aload_n 0, 1) := dk_0 a_Rd_readGuarded_132 (dko_42 _)
theorem d_Rd_readGuarded_133 : decode b_Rd_readGuarded 133 = .ok (.getfield 9, 3) := dk_U2 a_Rd_readGuarded_133 (dko_180 _) rfl
theorem d_Rd_readGuarded_136 : decode b_Rd_readGuarded 136 = .ok (.iload 6, 2) := dk_U1 a_Rd_readGuarded_136 (dko_21 _) rfl
theorem d_Rd_readGuarded_138 : decode b_Rd_readGuarded 138 = .ok (.iconst 1, 1) := dk_0 a_Rd_readGuarded_138 (dko_4 _)
theorem d_Rd_readGuarded_139 : decode b_Rd_readGuarded 139 = .ok (.aload_n 0, 1) := dk_0 a_Rd_readGuarded_139 (dko_42 _)
theorem d_Rd_readGuarded_140 : decode b_Rd_readGuarded 140 = .ok (.getfield 9, 3) := dk_U2 a_Rd_readGuarded_140 (dko_180 _) rfl
theorem d_Rd_readGuarded_143 : decode b_Rd_readGuarded 143 = .ok (.iload 4, 2) := dk_U1 a_Rd_readGuarded_143 (dko_21 _) rfl
theorem d_Rd_readGuarded_145 : decode b_Rd_readGuarded 145 = .ok (.iaload, 1) := dk_0 a_Rd_readGuarded_145 (dko_46 _)
theorem d_Rd_readGuarded_146 : decode b_Rd_readGuarded 146 = .ok (.iadd, 1) := dk_0 a_Rd_readGuarded_146 (dko_96 _)
theorem d_Rd_readGuarded_147 : decode b_Rd_readGuarded 147 = .ok (.iload 5, 2) := dk_U1 a_Rd_readGuarded_147 (dko_21 _) rfl
theorem d_Rd_readGuarded_149 : decode b_Rd_readGuarded 149 = .ok (.ifCond .ge 7, 3) := dk_S2 a_Rd_readGuarded_149 (dko_156 _) (by decide +kernel)
theorem d_Rd_readGuarded_152 : decode b_Rd_readGuarded 152 = .ok (.iconst 0, 1) := dk_0 a_Rd_readGuarded_152 (dko_3 _)
theorem d_Rd_readGuarded_153 : decode b_Rd_readGuarded 153 = .ok (.goto 10, 3) := dk_S2 a_Rd_readGuarded_153 (dko_167 _) (by decide +kernel)
theorem d_Rd_readGuarded_156 : decode b_Rd_readGuarded 156 = .ok (.aload_n 0, 1) := dk_0 a_Rd_readGuarded_156 (dko_42 _)
theorem d_Rd_readGuarded_157 : decode b_Rd_readGuarded 157 = .ok (.getfield 9, 3) := dk_U2 a_Rd_readGuarded_157 (dko_180 _) rfl
theorem d_Rd_readGuarded_160 : decode b_Rd_readGuarded 160 = .ok (.iload 5, 2) := dk_U1 a_Rd_readGuarded_160 (dko_21 _) rfl
theorem d_Rd_readGuarded_162 : decode b_Rd_readGuarded 162 = .ok (.iaload, 1) := dk_0 a_Rd_readGuarded_162 (dko_46 _)
theorem d_Rd_readGuarded_163 : decode b_Rd_readGuarded 163 = .ok (.iadd, 1) := dk_0 a_Rd_readGuarded_163 (dko_96 _)
theorem d_Rd_readGuarded_164 : decode b_Rd_readGuarded 164 = .ok (.sipush 501, 3) := dk_S2 a_Rd_readGuarded_164 (dko_17 _) (by decide +kernel)
theorem d_Rd_readGuarded_167 : decode b_Rd_readGuarded 167 = .ok (.invokestatic 94, 3) := dk_U2 a_Rd_readGuarded_167 (dko_184 _) rfl
theorem d_Rd_readGuarded_170 : decode b_Rd_readGuarded 170 = .ok (.iastore, 1) := dk_0 a_Rd_readGuarded_170 (dko_79 _)
theorem d_Rd_readGuarded_171 : decode b_Rd_readGuarded 171 = .ok (.aload_n 0, 1) := dk_0 a_Rd_readGuarded_171 (dko_42 _)
theorem d_Rd_readGuarded_172 : decode b_Rd_readGuarded 172 = .ok (.getfield 15, 3) := dk_U2 a_Rd_readGuarded_172 (dko_180 _) rfl
theorem d_Rd_readGuarded_175 : decode b_Rd_readGuarded 175 = .ok (.iload 6, 2) := dk_U1 a_Rd_readGuarded_175 (dko_21 _) rfl
theorem d_Rd_readGuarded_177 : decode b_Rd_readGuarded 177 = .ok (.aload_n 0, 1) := dk_0 a_Rd_readGuarded_177 (dko_42 _)
theorem d_Rd_readGuarded_178 : decode b_Rd_readGuarded 178 = .ok (.getfield 15, 3) := dk_U2 a_Rd_readGuarded_178 (dko_180 _) rfl
theorem d_Rd_readGuarded_181 : decode b_Rd_readGuarded 181 = .ok (.iload 4, 2) := dk_U1 a_Rd_readGuarded_181 (dko_21 _) rfl
theorem d_Rd_readGuarded_183 : decode b_Rd_readGuarded 183 = .ok (.iaload, 1) := dk_0 a_Rd_readGuarded_183 (dko_46 _)
theorem d_Rd_readGuarded_184 : decode b_Rd_readGuarded 184 = .ok (.iload 5, 2) := dk_U1 a_Rd_readGuarded_184 (dko_21 _) rfl
theorem d_Rd_readGuarded_186 : decode b_Rd_readGuarded 186 = .ok (.ifCond .ge 7, 3) := dk_S2 a_Rd_readGuarded_186 (dko_156 _) (by decide +kernel)
theorem d_Rd_readGuarded_189 : decode b_Rd_readGuarded 189 = .ok (.iconst 0, 1) := dk_0 a_Rd_readGuarded_189 (dko_3 _)
theorem d_Rd_readGuarded_190 : decode b_Rd_readGuarded 190 = .ok (.goto 10, 3) := dk_S2 a_Rd_readGuarded_190 (dko_167 _) (by decide +kernel)
theorem d_Rd_readGuarded_193 : decode b_Rd_readGuarded 193 = .ok (.aload_n 0, 1) := dk_0 a_Rd_readGuarded_193 (dko_42 _)
theorem d_Rd_readGuarded_194 : decode b_Rd_readGuarded 194 = .ok (.getfield 15, 3) := dk_U2 a_Rd_readGuarded_194 (dko_180 _) rfl
theorem d_Rd_readGuarded_197 : decode b_Rd_readGuarded 197 = .ok (.iload 5, 2) := dk_U1 a_Rd_readGuarded_197 (dko_21 _) rfl
theorem d_Rd_readGuarded_199 : decode b_Rd_readGuarded 199 = .ok (.iaload, 1) := dk_0 a_Rd_readGuarded_199 (dko_46 _)
theorem d_Rd_readGuarded_200 : decode b_Rd_readGuarded 200 = .ok (.invokestatic 99, 3) := dk_U2 a_Rd_readGuarded_200 (dko_184 _) rfl
theorem d_Rd_readGuarded_203 : decode b_Rd_readGuarded 203 = .ok (.iastore, 1) := dk_0 a_Rd_readGuarded_203 (dko_79 _)
theorem d_Rd_readGuarded_204 : decode b_Rd_readGuarded 204 = .ok (.iload 6, 2) := dk_U1 a_Rd_readGuarded_204 (dko_21 _) rfl
theorem d_Rd_readGuarded_206 : decode b_Rd_readGuarded 206 = .ok (.ireturn, 1) := dk_0 a_Rd_readGuarded_206 (dko_172 _)
set_option maxHeartbeats 4000000 in
set_option maxRecDepth 100000 in
theorem ok_Rd_readGuarded (pc : Nat) : OpS mt mi_Rd_readGuarded pc (cs_Rd_readGuarded pc) := (os_n (os_n (os_n (os_n (os_n (os_n (os_l (so_aload_n d_Rd_readGuarded_0 rfl)) (os_n (os_l (so_get (C := R_Rd) (T := F_Rd) (N := 13) (j := 1) in_Rd rfl (by decide) mw_637 d_Rd_readGuarded_1)) (os_l (so_get (C := R_Pr) (T := F_Pr) (N := 18) (j := 1) in_Pr rfl (by decide) mw_432 d_Rd_readGuarded_4)))) (os_n (os_l (so_istore_n d_Rd_readGuarded_7 rfl (by decide))) (os_n (os_l (so_iload_n d_Rd_readGuarded_8 rfl)) (os_l (so_bipush d_Rd_readGuarded_9 (by decide)))))) (os_n (os_n (os_l (so_icne d_Rd_readGuarded_11 (by decide))) (os_n (os_l (so_aload_n d_Rd_readGuarded_14 rfl)) (os_l (so_aload_n d_Rd_readGuarded_15 rfl)))) (os_n (os_n (os_l (so_iconst d_Rd_readGuarded_16 (by decide))) (os_l (so_callV (iv := mi_Rd_readLevel) rfl rfl rfl mw_943 mw_945 sl_30 mw_13 mw_946 ⟨by decide +kernel, by decide +kernel, by decide +kernel⟩ (by decide) d_Rd_readGuarded_17))) (os_n (os_l (so_iconst d_Rd_readGuarded_20 (by decide))) (os_l (so_callV (iv := mi_Rd_demand) rfl rfl rfl mw_975 mw_977 sl_34 mw_13 mw_978 ⟨by decide +kernel, by decide +kernel, by decide +kernel⟩ (by decide) d_Rd_readGuarded_21)))))) (os_n (os_n (os_n (os_l (so_goto d_Rd_readGuarded_24 (by decide))) (os_n (os_l (so_aload_n d_Rd_readGuarded_27 rfl)) (os_l (so_iconst d_Rd_readGuarded_28 (by decide))))) (os_n (os_n (os_l (so_callV (iv := mi_Rd_readLevel) rfl rfl rfl mw_943 mw_945 sl_30 mw_13 mw_946 ⟨by decide +kernel, by decide +kernel, by decide +kernel⟩ (by decide) d_Rd_readGuarded_29)) (os_l (so_pop d_Rd_readGuarded_32))) (os_n (os_l (so_aload_n d_Rd_readGuarded_33 rfl)) (os_l (so_get (C := R_Rd) (T := F_Rd) (N := 13) (j := 1) in_Rd rfl (by decide) mw_637 d_Rd_readGuarded_34))))) (os_n (os_n (os_l (so_get (C := R_Pr) (T := F_Pr) (N := 18) (j := 1) in_Pr rfl (by decide) mw_432 d_Rd_readGuarded_37)) (os_n (os_l (so_istore_n d_Rd_readGuarded_40 rfl (by decide))) (os_l (so_aload_n d_Rd_readGuarded_41 rfl)))) (os_n (os_n (os_l (so_callV (iv := mi_Rd_readBlock) rfl rfl rfl mw_927 mw_929 sl_26 mw_13 mw_930 ⟨by decide +kernel, by decide +kernel, by decide +kernel⟩ (by decide) d_Rd_readGuarded_42)) (os_l (so_istore d_Rd_readGuarded_45 (by decide)))) (os_n (os_l (so_iconst d_Rd_readGuarded_47 (by decide))) (os_l (so_istore d_Rd_readGuarded_48 (by decide)))))))) (os_n (os_n (os_n (os_n (os_l (so_iload_n d_Rd_readGuarded_50 rfl)) (os_n (os_l (so_bipush d_Rd_readGuarded_51 (by decide))) (os_l (so_iceq d_Rd_readGuarded_53 (by decide))))) (os_n (os_l (so_iload_n d_Rd_readGuarded_56 rfl)) (os_n (os_l (so_bipush d_Rd_readGuarded_57 (by decide))) (os_l (so_icne d_Rd_readGuarded_59 (by decide)))))) (os_n (os_n (os_l (so_aload_n d_Rd_readGuarded_62 rfl)) (os_n (os_l (so_get (C := R_Rd) (T := F_Rd) (N := 13) (j := 3) in_Rd rfl (by decide) mw_639 d_Rd_readGuarded_63)) (os_l (so_bipush d_Rd_readGuarded_66 (by decide))))) (os_n (os_n (os_l (so_icne d_Rd_readGuarded_68 (by decide))) (os_l (so_aload_n d_Rd_readGuarded_71 rfl))) (os_n (os_l (so_iload_n d_Rd_readGuarded_72 rfl)) (os_l (so_bipush d_Rd_readGuarded_73 (by decide))))))) (os_n (os_n (os_n (os_l (so_icne d_Rd_readGuarded_75 (by decide))) (os_n (os_l (so_bipush d_Rd_readGuarded_78 (by decide))) (os_l (so_goto d_Rd_readGuarded_80 (by decide))))) (os_n (os_n (os_l (so_bipush d_Rd_readGuarded_83 (by decide))) (os_l (so_callV (iv := mi_Rd_take) rfl rfl rfl mw_979 mw_981 sl_35 mw_13 mw_982 ⟨by decide +kernel, by decide +kernel, by decide +kernel⟩ (by decide) d_Rd_readGuarded_85))) (os_n (os_l (so_aload_n d_Rd_readGuarded_88 rfl)) (os_l (so_callV (iv := mi_Rd_readBlock) rfl rfl rfl mw_927 mw_929 sl_26 mw_13 mw_930 ⟨by decide +kernel, by decide +kernel, by decide +kernel⟩ (by decide) d_Rd_readGuarded_89))))) (os_n (os_n (os_l (so_istore d_Rd_readGuarded_92 (by decide))) (os_n (os_l (so_aload_n d_Rd_readGuarded_94 rfl)) (os_l (so_aload_n d_Rd_readGuarded_95 rfl)))) (os_n (os_n (os_l (so_iload_n d_Rd_readGuarded_96 rfl)) (os_l (so_iconst d_Rd_readGuarded_97 (by decide)))) (os_n (os_l (so_callV (iv := mi_Rd_makeNode) rfl rfl rfl mw_958 mw_960 sl_32 mw_13 mw_961 ⟨by decide +kernel, by decide +kernel, by decide +kernel⟩ (by decide) d_Rd_readGuarded_98)) (os_l (so_iload_n d_Rd_readGuarded_101 rfl)))))))) (os_n (os_n (os_n (os_n (os_n (os_l (so_iload_n d_Rd_readGuarded_102 rfl)) (os_n (os_l (so_callV (iv := mi_Rd_giveRange) rfl rfl rfl mw_983 mw_985 sl_36 mw_13 mw_986 ⟨by decide +kernel, by decide +kernel, by decide +kernel⟩ (by decide) d_Rd_readGuarded_103)) (os_l (so_istore d_Rd_readGuarded_106 (by decide))))) (os_n (os_l (so_aload_n d_Rd_readGuarded_108 rfl)) (os_n (os_l (so_get (C := R_Rd) (T := F_Rd) (N := 13) (j := 1) in_Rd rfl (by decide) mw_637 d_Rd_readGuarded_109)) (os_l (so_get (C := R_Pr) (T := F_Pr) (N := 18) (j := 7) in_Pr rfl (by decide) mw_450 d_Rd_readGuarded_112))))) (os_n (os_n (os_l (so_iload d_Rd_readGuarded_115)) (os_n (os_l (so_iload d_Rd_readGuarded_117)) (os_l (so_iastore d_Rd_readGuarded_119)))) (os_n (os_n (os_l (so_aload_n d_Rd_readGuarded_120 rfl)) (os_l (so_get (C := R_Rd) (T := F_Rd) (N := 13) (j := 1) in_Rd rfl (by decide) mw_637 d_Rd_readGuarded_121))) (os_n (os_l (so_get (C := R_Pr) (T := F_Pr) (N := 18) (j := 8) in_Pr rfl (by decide) mw_452 d_Rd_readGuarded_124)) (os_l (so_iload d_Rd_readGuarded_127)))))) (os_n (os_n (os_n (os_l (so_iload d_Rd_readGuarded_129)) (os_n (os_l (so_iastore d_Rd_readGuarded_131)) (os_l (so_aload_n d_Rd_readGuarded_132 rfl)))) (os_n (os_n (os_l (so_get (C := R_Rd) (T := F_Rd) (N := 13) (j := 10) in_Rd rfl (by decide) mw_646 d_Rd_readGuarded_133)) (os_l (so_iload d_Rd_readGuarded_136))) (os_n (os_l (so_iconst d_Rd_readGuarded_138 (by decide))) (os_l (so_aload_n d_Rd_readGuarded_139 rfl))))) (os_n (os_n (os_l (so_get (C := R_Rd) (T := F_Rd) (N := 13) (j := 10) in_Rd rfl (by decide) mw_646 d_Rd_readGuarded_140)) (os_n (os_l (so_iload d_Rd_readGuarded_143)) (os_l (so_iaload d_Rd_readGuarded_145)))) (os_n (os_n (os_l (so_iadd d_Rd_readGuarded_146)) (os_l (so_iload d_Rd_readGuarded_147))) (os_n (os_l (so_ifge d_Rd_readGuarded_149 (by decide))) (os_l (so_iconst d_Rd_readGuarded_152 (by decide)))))))) (os_n (os_n (os_n (os_n (os_l (so_goto d_Rd_readGuarded_153 (by decide))) (os_n (os_l (so_aload_n d_Rd_readGuarded_156 rfl)) (os_l (so_get (C := R_Rd) (T := F_Rd) (N := 13) (j := 10) in_Rd rfl (by decide) mw_646 d_Rd_readGuarded_157)))) (os_n (os_n (os_l (so_iload d_Rd_readGuarded_160)) (os_l (so_iaload d_Rd_readGuarded_162))) (os_n (os_l (so_iadd d_Rd_readGuarded_163)) (os_l (so_sipush d_Rd_readGuarded_164 (by decide)))))) (os_n (os_n (os_l (so_callS (iv := mi_Ma_min) rfl mw_962 mw_963 mw_21 mw_964 ⟨by decide +kernel, by decide +kernel, by decide +kernel⟩ (by decide) d_Rd_readGuarded_167)) (os_n (os_l (so_iastore d_Rd_readGuarded_170)) (os_l (so_aload_n d_Rd_readGuarded_171 rfl)))) (os_n (os_n (os_l (so_get (C := R_Rd) (T := F_Rd) (N := 13) (j := 11) in_Rd rfl (by decide) mw_647 d_Rd_readGuarded_172)) (os_l (so_iload d_Rd_readGuarded_175))) (os_n (os_l (so_aload_n d_Rd_readGuarded_177 rfl)) (os_l (so_get (C := R_Rd) (T := F_Rd) (N := 13) (j := 11) in_Rd rfl (by decide) mw_647 d_Rd_readGuarded_178)))))) (os_n (os_n (os_n (os_l (so_iload d_Rd_readGuarded_181)) (os_n (os_l (so_iaload d_Rd_readGuarded_183)) (os_l (so_iload d_Rd_readGuarded_184)))) (os_n (os_n (os_l (so_ifge d_Rd_readGuarded_186 (by decide))) (os_l (so_iconst d_Rd_readGuarded_189 (by decide)))) (os_n (os_l (so_goto d_Rd_readGuarded_190 (by decide))) (os_l (so_aload_n d_Rd_readGuarded_193 rfl))))) (os_n (os_n (os_l (so_get (C := R_Rd) (T := F_Rd) (N := 13) (j := 11) in_Rd rfl (by decide) mw_647 d_Rd_readGuarded_194)) (os_n (os_l (so_iload d_Rd_readGuarded_197)) (os_l (so_iaload d_Rd_readGuarded_199)))) (os_n (os_n (os_l (so_callS (iv := mi_Ma_max) rfl mw_972 mw_973 mw_21 mw_974 ⟨by decide +kernel, by decide +kernel, by decide +kernel⟩ (by decide) d_Rd_readGuarded_200)) (os_l (so_iastore d_Rd_readGuarded_203))) (os_n (os_l (so_iload d_Rd_readGuarded_204)) (os_l (so_ireturn rfl d_Rd_readGuarded_206)))))))))
abbrev t_Rd_readShort_159 : List UInt8 := 172 :: []
abbrev t_Rd_readShort_158 : List UInt8 := 29 :: t_Rd_readShort_159
abbrev t_Rd_readShort_157 : List UInt8 := 79 :: t_Rd_readShort_158
abbrev t_Rd_readShort_156 : List UInt8 := 46 :: t_Rd_readShort_157
abbrev t_Rd_readShort_155 : List UInt8 := 46 :: t_Rd_readShort_156
abbrev t_Rd_readShort_154 : List UInt8 := 28 :: t_Rd_readShort_155
abbrev t_Rd_readShort_151 : List UInt8 := 180 :: 0 :: 225 :: t_Rd_readShort_154
abbrev t_Rd_readShort_148 : List UInt8 := 180 :: 0 :: 44 :: t_Rd_readShort_151
abbrev t_Rd_readShort_147 : List UInt8 := 42 :: t_Rd_readShort_148
abbrev t_Rd_readShort_144 : List UInt8 := 180 :: 0 :: 15 :: t_Rd_readShort_147
abbrev t_Rd_readShort_143 : List UInt8 := 42 :: t_Rd_readShort_144
abbrev t_Rd_readShort_142 : List UInt8 := 29 :: t_Rd_readShort_143
abbrev t_Rd_readShort_139 : List UInt8 := 180 :: 0 :: 15 :: t_Rd_readShort_142
abbrev t_Rd_readShort_138 : List UInt8 := 42 :: t_Rd_readShort_139
abbrev t_Rd_readShort_137 : List UInt8 := 79 :: t_Rd_readShort_138
abbrev t_Rd_readShort_134 : List UInt8 := 184 :: 0 :: 94 :: t_Rd_readShort_137
abbrev t_Rd_readShort_131 : List UInt8 := 17 :: 1 :: 245 :: t_Rd_readShort_134
abbrev t_Rd_readShort_130 : List UInt8 := 96 :: t_Rd_readShort_131
abbrev t_Rd_readShort_129 : List UInt8 := 46 :: t_Rd_readShort_130
abbrev t_Rd_readShort_128 : List UInt8 := 46 :: t_Rd_readShort_129
abbrev t_Rd_readShort_127 : List UInt8 := 28 :: t_Rd_readShort_128
abbrev t_Rd_readShort_124 : List UInt8 := 180 :: 0 :: 225 :: t_Rd_readShort_127
abbrev t_Rd_readShort_121 : List UInt8 := 180 :: 0 :: 44 :: t_Rd_readShort_124
abbrev t_Rd_readShort_120 : List UInt8 := 42 :: t_Rd_readShort_121
abbrev t_Rd_readShort_117 : List UInt8 := 180 :: 0 :: 9 :: t_Rd_readShort_120
abbrev t_Rd_readShort_116 : List UInt8 := 42 :: t_Rd_readShort_117
abbrev t_Rd_readShort_115 : List UInt8 := 4 :: t_Rd_readShort_116
abbrev t_Rd_readShort_114 : List UInt8 := 29 :: t_Rd_readShort_115
abbrev t_Rd_readShort_111 : List UInt8 := 180 :: 0 :: 9 :: t_Rd_readShort_114
abbrev t_Rd_readShort_110 : List UInt8 := 42 :: t_Rd_readShort_111
abbrev t_Rd_readShort_107 : List UInt8 := 155 :: 0 :: 51 :: t_Rd_readShort_110
abbrev t_Rd_readShort_106 : List UInt8 := 28 :: t_Rd_readShort_107
abbrev t_Rd_readShort_103 : List UInt8 := 160 :: 0 :: 55 :: t_Rd_readShort_106
abbrev t_Rd_readShort_101 : List UInt8 := 16 :: 23 :: t_Rd_readShort_103
abbrev t_Rd_readShort_100 : List UInt8 := 27 :: t_Rd_readShort_101
abbrev t_Rd_readShort_99 : List UInt8 := 62 :: t_Rd_readShort_100
abbrev t_Rd_readShort_96 : List UInt8 := 182 :: 0 :: 79 :: t_Rd_readShort_99
abbrev t_Rd_readShort_95 : List UInt8 := 28 :: t_Rd_readShort_96
abbrev t_Rd_readShort_94 : List UInt8 := 27 :: t_Rd_readShort_95
abbrev t_Rd_readShort_93 : List UInt8 := 42 :: t_Rd_readShort_94
abbrev t_Rd_readShort_90 : List UInt8 := 182 :: 0 :: 83 :: t_Rd_readShort_93
abbrev t_Rd_readShort_88 : List UInt8 := 16 :: 59 :: t_Rd_readShort_90
abbrev t_Rd_readShort_87 : List UInt8 := 42 :: t_Rd_readShort_88
abbrev t_Rd_readShort_84 : List UInt8 := 182 :: 0 :: 83 :: t_Rd_readShort_87
abbrev t_Rd_readShort_82 : List UInt8 := 16 :: 31 :: t_Rd_readShort_84
abbrev t_Rd_readShort_81 : List UInt8 := 42 :: t_Rd_readShort_82
abbrev t_Rd_readShort_80 : List UInt8 := 61 :: t_Rd_readShort_81
abbrev t_Rd_readShort_79 : List UInt8 := 136 :: t_Rd_readShort_80
abbrev t_Rd_readShort_78 : List UInt8 := 109 :: t_Rd_readShort_79
abbrev t_Rd_readShort_75 : List UInt8 := 20 :: 0 :: 154 :: t_Rd_readShort_78
abbrev t_Rd_readShort_72 : List UInt8 := 180 :: 0 :: 147 :: t_Rd_readShort_75
abbrev t_Rd_readShort_71 : List UInt8 := 42 :: t_Rd_readShort_72
abbrev t_Rd_readShort_68 : List UInt8 := 182 :: 0 :: 108 :: t_Rd_readShort_71
abbrev t_Rd_readShort_67 : List UInt8 := 42 :: t_Rd_readShort_68
abbrev t_Rd_readShort_64 : List UInt8 := 158 :: 0 :: 7 :: t_Rd_readShort_67
abbrev t_Rd_readShort_63 : List UInt8 := 148 :: t_Rd_readShort_64
abbrev t_Rd_readShort_60 : List UInt8 := 20 :: 0 :: 223 :: t_Rd_readShort_63
abbrev t_Rd_readShort_57 : List UInt8 := 180 :: 0 :: 147 :: t_Rd_readShort_60
abbrev t_Rd_readShort_56 : List UInt8 := 42 :: t_Rd_readShort_57
abbrev t_Rd_readShort_53 : List UInt8 := 154 :: 0 :: 14 :: t_Rd_readShort_56
abbrev t_Rd_readShort_50 : List UInt8 := 180 :: 0 :: 156 :: t_Rd_readShort_53
abbrev t_Rd_readShort_49 : List UInt8 := 42 :: t_Rd_readShort_50
abbrev t_Rd_readShort_46 : List UInt8 := 160 :: 0 :: 21 :: t_Rd_readShort_49
abbrev t_Rd_readShort_44 : List UInt8 := 16 :: 31 :: t_Rd_readShort_46
abbrev t_Rd_readShort_41 : List UInt8 := 180 :: 0 :: 66 :: t_Rd_readShort_44
abbrev t_Rd_readShort_40 : List UInt8 := 42 :: t_Rd_readShort_41
abbrev t_Rd_readShort_37 : List UInt8 := 160 :: 0 :: 50 :: t_Rd_readShort_40
abbrev t_Rd_readShort_35 : List UInt8 := 16 :: 26 :: t_Rd_readShort_37
abbrev t_Rd_readShort_34 : List UInt8 := 27 :: t_Rd_readShort_35
abbrev t_Rd_readShort_31 : List UInt8 := 167 :: 0 :: 56 :: t_Rd_readShort_34
abbrev t_Rd_readShort_30 : List UInt8 := 61 :: t_Rd_readShort_31
abbrev t_Rd_readShort_27 : List UInt8 := 182 :: 0 :: 206 :: t_Rd_readShort_30
abbrev t_Rd_readShort_25 : List UInt8 := 16 :: 10 :: t_Rd_readShort_27
abbrev t_Rd_readShort_24 : List UInt8 := 42 :: t_Rd_readShort_25
abbrev t_Rd_readShort_21 : List UInt8 := 160 :: 0 :: 13 :: t_Rd_readShort_24
abbrev t_Rd_readShort_19 : List UInt8 := 16 :: 23 :: t_Rd_readShort_21
abbrev t_Rd_readShort_18 : List UInt8 := 27 :: t_Rd_readShort_19
abbrev t_Rd_readShort_15 : List UInt8 := 167 :: 0 :: 72 :: t_Rd_readShort_18
abbrev t_Rd_readShort_14 : List UInt8 := 61 :: t_Rd_readShort_15
abbrev t_Rd_readShort_11 : List UInt8 := 182 :: 0 :: 206 :: t_Rd_readShort_14
abbrev t_Rd_readShort_9 : List UInt8 := 16 :: 8 :: t_Rd_readShort_11
abbrev t_Rd_readShort_8 : List UInt8 := 42 :: t_Rd_readShort_9
abbrev t_Rd_readShort_5 : List UInt8 := 160 :: 0 :: 13 :: t_Rd_readShort_8
abbrev t_Rd_readShort_3 : List UInt8 := 16 :: 22 :: t_Rd_readShort_5
abbrev t_Rd_readShort_2 : List UInt8 := 27 :: t_Rd_readShort_3
abbrev t_Rd_readShort_1 : List UInt8 := 61 :: t_Rd_readShort_2
abbrev t_Rd_readShort_0 : List UInt8 := 3 :: t_Rd_readShort_1
theorem a_Rd_readShort_0 : dk_at b_Rd_readShort 0 t_Rd_readShort_0 := dk_start (by decide +kernel)
theorem a_Rd_readShort_1 : dk_at b_Rd_readShort 1 t_Rd_readShort_1 := dk_go 1 a_Rd_readShort_0 rfl
theorem a_Rd_readShort_2 : dk_at b_Rd_readShort 2 t_Rd_readShort_2 := dk_go 1 a_Rd_readShort_1 rfl
theorem a_Rd_readShort_3 : dk_at b_Rd_readShort 3 t_Rd_readShort_3 := dk_go 1 a_Rd_readShort_2 rfl
theorem a_Rd_readShort_5 : dk_at b_Rd_readShort 5 t_Rd_readShort_5 := dk_go 2 a_Rd_readShort_3 rfl
theorem a_Rd_readShort_8 : dk_at b_Rd_readShort 8 t_Rd_readShort_8 := dk_go 3 a_Rd_readShort_5 rfl
theorem a_Rd_readShort_9 : dk_at b_Rd_readShort 9 t_Rd_readShort_9 := dk_go 1 a_Rd_readShort_8 rfl
theorem a_Rd_readShort_11 : dk_at b_Rd_readShort 11 t_Rd_readShort_11 := dk_go 2 a_Rd_readShort_9 rfl
theorem a_Rd_readShort_14 : dk_at b_Rd_readShort 14 t_Rd_readShort_14 := dk_go 3 a_Rd_readShort_11 rfl
theorem a_Rd_readShort_15 : dk_at b_Rd_readShort 15 t_Rd_readShort_15 := dk_go 1 a_Rd_readShort_14 rfl
theorem a_Rd_readShort_18 : dk_at b_Rd_readShort 18 t_Rd_readShort_18 := dk_go 3 a_Rd_readShort_15 rfl
theorem a_Rd_readShort_19 : dk_at b_Rd_readShort 19 t_Rd_readShort_19 := dk_go 1 a_Rd_readShort_18 rfl
theorem a_Rd_readShort_21 : dk_at b_Rd_readShort 21 t_Rd_readShort_21 := dk_go 2 a_Rd_readShort_19 rfl
theorem a_Rd_readShort_24 : dk_at b_Rd_readShort 24 t_Rd_readShort_24 := dk_go 3 a_Rd_readShort_21 rfl
theorem a_Rd_readShort_25 : dk_at b_Rd_readShort 25 t_Rd_readShort_25 := dk_go 1 a_Rd_readShort_24 rfl
theorem a_Rd_readShort_27 : dk_at b_Rd_readShort 27 t_Rd_readShort_27 := dk_go 2 a_Rd_readShort_25 rfl
theorem a_Rd_readShort_30 : dk_at b_Rd_readShort 30 t_Rd_readShort_30 := dk_go 3 a_Rd_readShort_27 rfl
theorem a_Rd_readShort_31 : dk_at b_Rd_readShort 31 t_Rd_readShort_31 := dk_go 1 a_Rd_readShort_30 rfl
theorem a_Rd_readShort_34 : dk_at b_Rd_readShort 34 t_Rd_readShort_34 := dk_go 3 a_Rd_readShort_31 rfl
theorem a_Rd_readShort_35 : dk_at b_Rd_readShort 35 t_Rd_readShort_35 := dk_go 1 a_Rd_readShort_34 rfl
theorem a_Rd_readShort_37 : dk_at b_Rd_readShort 37 t_Rd_readShort_37 := dk_go 2 a_Rd_readShort_35 rfl
theorem a_Rd_readShort_40 : dk_at b_Rd_readShort 40 t_Rd_readShort_40 := dk_go 3 a_Rd_readShort_37 rfl
theorem a_Rd_readShort_41 : dk_at b_Rd_readShort 41 t_Rd_readShort_41 := dk_go 1 a_Rd_readShort_40 rfl
theorem a_Rd_readShort_44 : dk_at b_Rd_readShort 44 t_Rd_readShort_44 := dk_go 3 a_Rd_readShort_41 rfl
theorem a_Rd_readShort_46 : dk_at b_Rd_readShort 46 t_Rd_readShort_46 := dk_go 2 a_Rd_readShort_44 rfl
theorem a_Rd_readShort_49 : dk_at b_Rd_readShort 49 t_Rd_readShort_49 := dk_go 3 a_Rd_readShort_46 rfl
theorem a_Rd_readShort_50 : dk_at b_Rd_readShort 50 t_Rd_readShort_50 := dk_go 1 a_Rd_readShort_49 rfl
theorem a_Rd_readShort_53 : dk_at b_Rd_readShort 53 t_Rd_readShort_53 := dk_go 3 a_Rd_readShort_50 rfl
theorem a_Rd_readShort_56 : dk_at b_Rd_readShort 56 t_Rd_readShort_56 := dk_go 3 a_Rd_readShort_53 rfl
theorem a_Rd_readShort_57 : dk_at b_Rd_readShort 57 t_Rd_readShort_57 := dk_go 1 a_Rd_readShort_56 rfl
theorem a_Rd_readShort_60 : dk_at b_Rd_readShort 60 t_Rd_readShort_60 := dk_go 3 a_Rd_readShort_57 rfl
theorem a_Rd_readShort_63 : dk_at b_Rd_readShort 63 t_Rd_readShort_63 := dk_go 3 a_Rd_readShort_60 rfl
theorem a_Rd_readShort_64 : dk_at b_Rd_readShort 64 t_Rd_readShort_64 := dk_go 1 a_Rd_readShort_63 rfl
theorem a_Rd_readShort_67 : dk_at b_Rd_readShort 67 t_Rd_readShort_67 := dk_go 3 a_Rd_readShort_64 rfl
theorem a_Rd_readShort_68 : dk_at b_Rd_readShort 68 t_Rd_readShort_68 := dk_go 1 a_Rd_readShort_67 rfl
theorem a_Rd_readShort_71 : dk_at b_Rd_readShort 71 t_Rd_readShort_71 := dk_go 3 a_Rd_readShort_68 rfl
theorem a_Rd_readShort_72 : dk_at b_Rd_readShort 72 t_Rd_readShort_72 := dk_go 1 a_Rd_readShort_71 rfl
theorem a_Rd_readShort_75 : dk_at b_Rd_readShort 75 t_Rd_readShort_75 := dk_go 3 a_Rd_readShort_72 rfl
theorem a_Rd_readShort_78 : dk_at b_Rd_readShort 78 t_Rd_readShort_78 := dk_go 3 a_Rd_readShort_75 rfl
theorem a_Rd_readShort_79 : dk_at b_Rd_readShort 79 t_Rd_readShort_79 := dk_go 1 a_Rd_readShort_78 rfl
theorem a_Rd_readShort_80 : dk_at b_Rd_readShort 80 t_Rd_readShort_80 := dk_go 1 a_Rd_readShort_79 rfl
theorem a_Rd_readShort_81 : dk_at b_Rd_readShort 81 t_Rd_readShort_81 := dk_go 1 a_Rd_readShort_80 rfl
theorem a_Rd_readShort_82 : dk_at b_Rd_readShort 82 t_Rd_readShort_82 := dk_go 1 a_Rd_readShort_81 rfl
theorem a_Rd_readShort_84 : dk_at b_Rd_readShort 84 t_Rd_readShort_84 := dk_go 2 a_Rd_readShort_82 rfl
theorem a_Rd_readShort_87 : dk_at b_Rd_readShort 87 t_Rd_readShort_87 := dk_go 3 a_Rd_readShort_84 rfl
theorem a_Rd_readShort_88 : dk_at b_Rd_readShort 88 t_Rd_readShort_88 := dk_go 1 a_Rd_readShort_87 rfl
theorem a_Rd_readShort_90 : dk_at b_Rd_readShort 90 t_Rd_readShort_90 := dk_go 2 a_Rd_readShort_88 rfl
theorem a_Rd_readShort_93 : dk_at b_Rd_readShort 93 t_Rd_readShort_93 := dk_go 3 a_Rd_readShort_90 rfl
theorem a_Rd_readShort_94 : dk_at b_Rd_readShort 94 t_Rd_readShort_94 := dk_go 1 a_Rd_readShort_93 rfl
theorem a_Rd_readShort_95 : dk_at b_Rd_readShort 95 t_Rd_readShort_95 := dk_go 1 a_Rd_readShort_94 rfl
theorem a_Rd_readShort_96 : dk_at b_Rd_readShort 96 t_Rd_readShort_96 := dk_go 1 a_Rd_readShort_95 rfl
theorem a_Rd_readShort_99 : dk_at b_Rd_readShort 99 t_Rd_readShort_99 := dk_go 3 a_Rd_readShort_96 rfl
theorem a_Rd_readShort_100 : dk_at b_Rd_readShort 100 t_Rd_readShort_100 := dk_go 1 a_Rd_readShort_99 rfl
theorem a_Rd_readShort_101 : dk_at b_Rd_readShort 101 t_Rd_readShort_101 := dk_go 1 a_Rd_readShort_100 rfl
theorem a_Rd_readShort_103 : dk_at b_Rd_readShort 103 t_Rd_readShort_103 := dk_go 2 a_Rd_readShort_101 rfl
theorem a_Rd_readShort_106 : dk_at b_Rd_readShort 106 t_Rd_readShort_106 := dk_go 3 a_Rd_readShort_103 rfl
theorem a_Rd_readShort_107 : dk_at b_Rd_readShort 107 t_Rd_readShort_107 := dk_go 1 a_Rd_readShort_106 rfl
theorem a_Rd_readShort_110 : dk_at b_Rd_readShort 110 t_Rd_readShort_110 := dk_go 3 a_Rd_readShort_107 rfl
theorem a_Rd_readShort_111 : dk_at b_Rd_readShort 111 t_Rd_readShort_111 := dk_go 1 a_Rd_readShort_110 rfl
theorem a_Rd_readShort_114 : dk_at b_Rd_readShort 114 t_Rd_readShort_114 := dk_go 3 a_Rd_readShort_111 rfl
theorem a_Rd_readShort_115 : dk_at b_Rd_readShort 115 t_Rd_readShort_115 := dk_go 1 a_Rd_readShort_114 rfl
theorem a_Rd_readShort_116 : dk_at b_Rd_readShort 116 t_Rd_readShort_116 := dk_go 1 a_Rd_readShort_115 rfl
theorem a_Rd_readShort_117 : dk_at b_Rd_readShort 117 t_Rd_readShort_117 := dk_go 1 a_Rd_readShort_116 rfl
theorem a_Rd_readShort_120 : dk_at b_Rd_readShort 120 t_Rd_readShort_120 := dk_go 3 a_Rd_readShort_117 rfl
theorem a_Rd_readShort_121 : dk_at b_Rd_readShort 121 t_Rd_readShort_121 := dk_go 1 a_Rd_readShort_120 rfl
theorem a_Rd_readShort_124 : dk_at b_Rd_readShort 124 t_Rd_readShort_124 := dk_go 3 a_Rd_readShort_121 rfl
theorem a_Rd_readShort_127 : dk_at b_Rd_readShort 127 t_Rd_readShort_127 := dk_go 3 a_Rd_readShort_124 rfl
theorem a_Rd_readShort_128 : dk_at b_Rd_readShort 128 t_Rd_readShort_128 := dk_go 1 a_Rd_readShort_127 rfl
theorem a_Rd_readShort_129 : dk_at b_Rd_readShort 129 t_Rd_readShort_129 := dk_go 1 a_Rd_readShort_128 rfl
theorem a_Rd_readShort_130 : dk_at b_Rd_readShort 130 t_Rd_readShort_130 := dk_go 1 a_Rd_readShort_129 rfl
theorem a_Rd_readShort_131 : dk_at b_Rd_readShort 131 t_Rd_readShort_131 := dk_go 1 a_Rd_readShort_130 rfl
theorem a_Rd_readShort_134 : dk_at b_Rd_readShort 134 t_Rd_readShort_134 := dk_go 3 a_Rd_readShort_131 rfl
theorem a_Rd_readShort_137 : dk_at b_Rd_readShort 137 t_Rd_readShort_137 := dk_go 3 a_Rd_readShort_134 rfl
theorem a_Rd_readShort_138 : dk_at b_Rd_readShort 138 t_Rd_readShort_138 := dk_go 1 a_Rd_readShort_137 rfl
theorem a_Rd_readShort_139 : dk_at b_Rd_readShort 139 t_Rd_readShort_139 := dk_go 1 a_Rd_readShort_138 rfl
theorem a_Rd_readShort_142 : dk_at b_Rd_readShort 142 t_Rd_readShort_142 := dk_go 3 a_Rd_readShort_139 rfl
theorem a_Rd_readShort_143 : dk_at b_Rd_readShort 143 t_Rd_readShort_143 := dk_go 1 a_Rd_readShort_142 rfl
theorem a_Rd_readShort_144 : dk_at b_Rd_readShort 144 t_Rd_readShort_144 := dk_go 1 a_Rd_readShort_143 rfl
theorem a_Rd_readShort_147 : dk_at b_Rd_readShort 147 t_Rd_readShort_147 := dk_go 3 a_Rd_readShort_144 rfl
theorem a_Rd_readShort_148 : dk_at b_Rd_readShort 148 t_Rd_readShort_148 := dk_go 1 a_Rd_readShort_147 rfl
theorem a_Rd_readShort_151 : dk_at b_Rd_readShort 151 t_Rd_readShort_151 := dk_go 3 a_Rd_readShort_148 rfl
theorem a_Rd_readShort_154 : dk_at b_Rd_readShort 154 t_Rd_readShort_154 := dk_go 3 a_Rd_readShort_151 rfl
theorem a_Rd_readShort_155 : dk_at b_Rd_readShort 155 t_Rd_readShort_155 := dk_go 1 a_Rd_readShort_154 rfl
theorem a_Rd_readShort_156 : dk_at b_Rd_readShort 156 t_Rd_readShort_156 := dk_go 1 a_Rd_readShort_155 rfl
theorem a_Rd_readShort_157 : dk_at b_Rd_readShort 157 t_Rd_readShort_157 := dk_go 1 a_Rd_readShort_156 rfl
theorem a_Rd_readShort_158 : dk_at b_Rd_readShort 158 t_Rd_readShort_158 := dk_go 1 a_Rd_readShort_157 rfl
theorem a_Rd_readShort_159 : dk_at b_Rd_readShort 159 t_Rd_readShort_159 := dk_go 1 a_Rd_readShort_158 rfl
theorem d_Rd_readShort_0 : decode b_Rd_readShort 0 = .ok (.iconst 0, 1) := dk_0 a_Rd_readShort_0 (dko_3 _)
theorem d_Rd_readShort_1 : decode b_Rd_readShort 1 = .ok (.istore_n 2, 1) := dk_0 a_Rd_readShort_1 (dko_61 _)
theorem d_Rd_readShort_2 : decode b_Rd_readShort 2 = .ok (.iload_n 1, 1) := dk_0 a_Rd_readShort_2 (dko_27 _)
theorem d_Rd_readShort_3 : decode b_Rd_readShort 3 = .ok (.bipush 22, 2) := dk_S1 a_Rd_readShort_3 (dko_16 _) (by decide +kernel)
theorem d_Rd_readShort_5 : decode b_Rd_readShort 5 = .ok (.if_icmp .ne 13, 3) := dk_S2 a_Rd_readShort_5 (dko_160 _) (by decide +kernel)
theorem d_Rd_readShort_8 : decode b_Rd_readShort 8 = .ok (.aload_n 0, 1) := dk_0 a_Rd_readShort_8 (dko_42 _)
theorem d_Rd_readShort_9 : decode b_Rd_readShort 9 = .ok (.bipush 8, 2) := dk_S1 a_Rd_readShort_9 (dko_16 _) (by decide +kernel)
theorem d_Rd_readShort_11 : decode b_Rd_readShort 11 = .ok (.invokevirtual 206, 3) := dk_U2 a_Rd_readShort_11 (dko_182 _) rfl
theorem d_Rd_readShort_14 : decode b_Rd_readShort 14 = .ok (.istore_n 2, 1) := dk_0 a_Rd_readShort_14 (dko_61 _)
theorem d_Rd_readShort_15 : decode b_Rd_readShort 15 = .ok (.goto 72, 3) := dk_S2 a_Rd_readShort_15 (dko_167 _) (by decide +kernel)
theorem d_Rd_readShort_18 : decode b_Rd_readShort 18 = .ok (.iload_n 1, 1) := dk_0 a_Rd_readShort_18 (dko_27 _)
theorem d_Rd_readShort_19 : decode b_Rd_readShort 19 = .ok (.bipush 23, 2) := dk_S1 a_Rd_readShort_19 (dko_16 _) (by decide +kernel)
theorem d_Rd_readShort_21 : decode b_Rd_readShort 21 = .ok (.if_icmp .ne 13, 3) := dk_S2 a_Rd_readShort_21 (dko_160 _) (by decide +kernel)
theorem d_Rd_readShort_24 : decode b_Rd_readShort 24 = .ok (.aload_n 0, 1) := dk_0 a_Rd_readShort_24 (dko_42 _)
theorem d_Rd_readShort_25 : decode b_Rd_readShort 25 = .ok (.bipush 10, 2) := dk_S1 a_Rd_readShort_25 (dko_16 _) (by decide +kernel)
theorem d_Rd_readShort_27 : decode b_Rd_readShort 27 = .ok (.invokevirtual 206, 3) := dk_U2 a_Rd_readShort_27 (dko_182 _) rfl
theorem d_Rd_readShort_30 : decode b_Rd_readShort 30 = .ok (.istore_n 2, 1) := dk_0 a_Rd_readShort_30 (dko_61 _)
theorem d_Rd_readShort_31 : decode b_Rd_readShort 31 = .ok (.goto 56, 3) := dk_S2 a_Rd_readShort_31 (dko_167 _) (by decide +kernel)
theorem d_Rd_readShort_34 : decode b_Rd_readShort 34 = .ok (.iload_n 1, 1) := dk_0 a_Rd_readShort_34 (dko_27 _)
theorem d_Rd_readShort_35 : decode b_Rd_readShort 35 = .ok (.bipush 26, 2) := dk_S1 a_Rd_readShort_35 (dko_16 _) (by decide +kernel)
theorem d_Rd_readShort_37 : decode b_Rd_readShort 37 = .ok (.if_icmp .ne 50, 3) := dk_S2 a_Rd_readShort_37 (dko_160 _) (by decide +kernel)
theorem d_Rd_readShort_40 : decode b_Rd_readShort 40 = .ok (.aload_n 0, 1) := dk_0 a_Rd_readShort_40 (dko_42 _)
theorem d_Rd_readShort_41 : decode b_Rd_readShort 41 = .ok (.getfield 66, 3) := dk_U2 a_Rd_readShort_41 (dko_180 _) rfl
theorem d_Rd_readShort_44 : decode b_Rd_readShort 44 = .ok (.bipush 31, 2) := dk_S1 a_Rd_readShort_44 (dko_16 _) (by decide +kernel)
theorem d_Rd_readShort_46 : decode b_Rd_readShort 46 = .ok (.if_icmp .ne 21, 3) := dk_S2 a_Rd_readShort_46 (dko_160 _) (by decide +kernel)
theorem d_Rd_readShort_49 : decode b_Rd_readShort 49 = .ok (.aload_n 0, 1) := dk_0 a_Rd_readShort_49 (dko_42 _)
theorem d_Rd_readShort_50 : decode b_Rd_readShort 50 = .ok (.getfield 156, 3) := dk_U2 a_Rd_readShort_50 (dko_180 _) rfl
theorem d_Rd_readShort_53 : decode b_Rd_readShort 53 = .ok (.ifCond .ne 14, 3) := dk_S2 a_Rd_readShort_53 (dko_154 _) (by decide +kernel)
theorem d_Rd_readShort_56 : decode b_Rd_readShort 56 = .ok (.aload_n 0, 1) := dk_0 a_Rd_readShort_56 (dko_42 _)
theorem d_Rd_readShort_57 : decode b_Rd_readShort 57 = .ok (.getfield 147, 3) := dk_U2 a_Rd_readShort_57 (dko_180 _) rfl
theorem d_Rd_readShort_60 : decode b_Rd_readShort 60 = .ok (.ldc2_w 223, 3) := dk_U2 a_Rd_readShort_60 (dko_20 _) rfl
theorem d_Rd_readShort_63 : decode b_Rd_readShort 63 = .ok (.lcmp, 1) := dk_0 a_Rd_readShort_63 (dko_148 _)
theorem d_Rd_readShort_64 : decode b_Rd_readShort 64 = .ok (.ifCond .le 7, 3) := dk_S2 a_Rd_readShort_64 (dko_158 _) (by decide +kernel)
theorem d_Rd_readShort_67 : decode b_Rd_readShort 67 = .ok (.aload_n 0, 1) := dk_0 a_Rd_readShort_67 (dko_42 _)
theorem d_Rd_readShort_68 : decode b_Rd_readShort 68 = .ok (.invokevirtual 108, 3) := dk_U2 a_Rd_readShort_68 (dko_182 _) rfl
theorem d_Rd_readShort_71 : decode b_Rd_readShort 71 = .ok (.aload_n 0, 1) := dk_0 a_Rd_readShort_71 (dko_42 _)
theorem d_Rd_readShort_72 : decode b_Rd_readShort 72 = .ok (.getfield 147, 3) := dk_U2 a_Rd_readShort_72 (dko_180 _) rfl
theorem d_Rd_readShort_75 : decode b_Rd_readShort 75 = .ok (.ldc2_w 154, 3) := dk_U2 a_Rd_readShort_75 (dko_20 _) rfl
theorem d_Rd_readShort_78 : decode b_Rd_readShort 78 = .ok (.ldiv, 1) := dk_0 a_Rd_readShort_78 (dko_109 _)
theorem d_Rd_readShort_79 : decode b_Rd_readShort 79 = .ok (.l2i, 1) := dk_0 a_Rd_readShort_79 (dko_136 _)
theorem d_Rd_readShort_80 : decode b_Rd_readShort 80 = .ok (.istore_n 2, 1) := dk_0 a_Rd_readShort_80 (dko_61 _)
theorem d_Rd_readShort_81 : decode b_Rd_readShort 81 = .ok (.aload_n 0, 1) := dk_0 a_Rd_readShort_81 (dko_42 _)
theorem d_Rd_readShort_82 : decode b_Rd_readShort 82 = .ok (.bipush 31, 2) := dk_S1 a_Rd_readShort_82 (dko_16 _) (by decide +kernel)
theorem d_Rd_readShort_84 : decode b_Rd_readShort 84 = .ok (.invokevirtual 83, 3) := dk_U2 a_Rd_readShort_84 (dko_182 _) rfl
theorem d_Rd_readShort_87 : decode b_Rd_readShort 87 = .ok (.aload_n 0, 1) := dk_0 a_Rd_readShort_87 (dko_42 _)
theorem d_Rd_readShort_88 : decode b_Rd_readShort 88 = .ok (.bipush 59, 2) := dk_S1 a_Rd_readShort_88 (dko_16 _) (by decide +kernel)
theorem d_Rd_readShort_90 : decode b_Rd_readShort 90 = .ok (.invokevirtual 83, 3) := dk_U2 a_Rd_readShort_90 (dko_182 _) rfl
theorem d_Rd_readShort_93 : decode b_Rd_readShort 93 = .ok (.aload_n 0, 1) := dk_0 a_Rd_readShort_93 (dko_42 _)
theorem d_Rd_readShort_94 : decode b_Rd_readShort 94 = .ok (.iload_n 1, 1) := dk_0 a_Rd_readShort_94 (dko_27 _)
theorem d_Rd_readShort_95 : decode b_Rd_readShort 95 = .ok (.iload_n 2, 1) := dk_0 a_Rd_readShort_95 (dko_28 _)
theorem d_Rd_readShort_96 : decode b_Rd_readShort 96 = .ok (.invokevirtual 79, 3) := dk_U2 a_Rd_readShort_96 (dko_182 _) rfl
theorem d_Rd_readShort_99 : decode b_Rd_readShort 99 = .ok (.istore_n 3, 1) := dk_0 a_Rd_readShort_99 (dko_62 _)
theorem d_Rd_readShort_100 : decode b_Rd_readShort 100 = .ok (.iload_n 1, 1) := dk_0 a_Rd_readShort_100 (dko_27 _)
theorem d_Rd_readShort_101 : decode b_Rd_readShort 101 = .ok (.bipush 23, 2) := dk_S1 a_Rd_readShort_101 (dko_16 _) (by decide +kernel)
theorem d_Rd_readShort_103 : decode b_Rd_readShort 103 = .ok (.if_icmp .ne 55, 3) := dk_S2 a_Rd_readShort_103 (dko_160 _) (by decide +kernel)
theorem d_Rd_readShort_106 : decode b_Rd_readShort 106 = .ok (.iload_n 2, 1) := dk_0 a_Rd_readShort_106 (dko_28 _)
theorem d_Rd_readShort_107 : decode b_Rd_readShort 107 = .ok (.ifCond .lt 51, 3) := dk_S2 a_Rd_readShort_107 (dko_155 _) (by decide +kernel)
theorem d_Rd_readShort_110 : decode b_Rd_readShort 110 = .ok (.aload_n 0, 1) := dk_0 a_Rd_readShort_110 (dko_42 _)
theorem d_Rd_readShort_111 : decode b_Rd_readShort 111 = .ok (.getfield 9, 3) := dk_U2 a_Rd_readShort_111 (dko_180 _) rfl
theorem d_Rd_readShort_114 : decode b_Rd_readShort 114 = .ok (.iload_n 3, 1) := dk_0 a_Rd_readShort_114 (dko_29 _)
theorem d_Rd_readShort_115 : decode b_Rd_readShort 115 = .ok (.iconst 1, 1) := dk_0 a_Rd_readShort_115 (dko_4 _)
theorem d_Rd_readShort_116 : decode b_Rd_readShort 116 = .ok (.aload_n 0, 1) := dk_0 a_Rd_readShort_116 (dko_42 _)
theorem d_Rd_readShort_117 : decode b_Rd_readShort 117 = .ok (.getfield 9, 3) := dk_U2 a_Rd_readShort_117 (dko_180 _) rfl
theorem d_Rd_readShort_120 : decode b_Rd_readShort 120 = .ok (.aload_n 0, 1) := dk_0 a_Rd_readShort_120 (dko_42 _)
theorem d_Rd_readShort_121 : decode b_Rd_readShort 121 = .ok (.getfield 44, 3) := dk_U2 a_Rd_readShort_121 (dko_180 _) rfl
theorem d_Rd_readShort_124 : decode b_Rd_readShort 124 = .ok (.getfield 225, 3) := dk_U2 a_Rd_readShort_124 (dko_180 _) rfl
theorem d_Rd_readShort_127 : decode b_Rd_readShort 127 = .ok (.iload_n 2, 1) := dk_0 a_Rd_readShort_127 (dko_28 _)
theorem d_Rd_readShort_128 : decode b_Rd_readShort 128 = .ok (.iaload, 1) := dk_0 a_Rd_readShort_128 (dko_46 _)
theorem d_Rd_readShort_129 : decode b_Rd_readShort 129 = .ok (.iaload, 1) := dk_0 a_Rd_readShort_129 (dko_46 _)
theorem d_Rd_readShort_130 : decode b_Rd_readShort 130 = .ok (.iadd, 1) := dk_0 a_Rd_readShort_130 (dko_96 _)
theorem d_Rd_readShort_131 : decode b_Rd_readShort 131 = .ok (.sipush 501, 3) := dk_S2 a_Rd_readShort_131 (dko_17 _) (by decide +kernel)
theorem d_Rd_readShort_134 : decode b_Rd_readShort 134 = .ok (.invokestatic 94, 3) := dk_U2 a_Rd_readShort_134 (dko_184 _) rfl
theorem d_Rd_readShort_137 : decode b_Rd_readShort 137 = .ok (.iastore, 1) := dk_0 a_Rd_readShort_137 (dko_79 _)
theorem d_Rd_readShort_138 : decode b_Rd_readShort 138 = .ok (.aload_n 0, 1) := dk_0 a_Rd_readShort_138 (dko_42 _)
theorem d_Rd_readShort_139 : decode b_Rd_readShort 139 = .ok (.getfield 15, 3) := dk_U2 a_Rd_readShort_139 (dko_180 _) rfl
theorem d_Rd_readShort_142 : decode b_Rd_readShort 142 = .ok (.iload_n 3, 1) := dk_0 a_Rd_readShort_142 (dko_29 _)
theorem d_Rd_readShort_143 : decode b_Rd_readShort 143 = .ok (.aload_n 0, 1) := dk_0 a_Rd_readShort_143 (dko_42 _)
theorem d_Rd_readShort_144 : decode b_Rd_readShort 144 = .ok (.getfield 15, 3) := dk_U2 a_Rd_readShort_144 (dko_180 _) rfl
theorem d_Rd_readShort_147 : decode b_Rd_readShort 147 = .ok (.aload_n 0, 1) := dk_0 a_Rd_readShort_147 (dko_42 _)
theorem d_Rd_readShort_148 : decode b_Rd_readShort 148 = .ok (.getfield 44, 3) := dk_U2 a_Rd_readShort_148 (dko_180 _) rfl
theorem d_Rd_readShort_151 : decode b_Rd_readShort 151 = .ok (.getfield 225, 3) := dk_U2 a_Rd_readShort_151 (dko_180 _) rfl
theorem d_Rd_readShort_154 : decode b_Rd_readShort 154 = .ok (.iload_n 2, 1) := dk_0 a_Rd_readShort_154 (dko_28 _)
theorem d_Rd_readShort_155 : decode b_Rd_readShort 155 = .ok (.iaload, 1) := dk_0 a_Rd_readShort_155 (dko_46 _)
theorem d_Rd_readShort_156 : decode b_Rd_readShort 156 = .ok (.iaload, 1) := dk_0 a_Rd_readShort_156 (dko_46 _)
theorem d_Rd_readShort_157 : decode b_Rd_readShort 157 = .ok (.iastore, 1) := dk_0 a_Rd_readShort_157 (dko_79 _)
theorem d_Rd_readShort_158 : decode b_Rd_readShort 158 = .ok (.iload_n 3, 1) := dk_0 a_Rd_readShort_158 (dko_29 _)
theorem d_Rd_readShort_159 : decode b_Rd_readShort 159 = .ok (.ireturn, 1) := dk_0 a_Rd_readShort_159 (dko_172 _)
set_option maxHeartbeats 4000000 in
set_option maxRecDepth 100000 in
theorem ok_Rd_readShort (pc : Nat) : OpS mt mi_Rd_readShort pc (cs_Rd_readShort pc) := (os_n (os_n (os_n (os_n (os_n (os_n (os_l (so_iconst d_Rd_readShort_0 (by decide))) (os_l (so_istore_n d_Rd_readShort_1 rfl (by decide)))) (os_n (os_l (so_iload_n d_Rd_readShort_2 rfl)) (os_n (os_l (so_bipush d_Rd_readShort_3 (by decide))) (os_l (so_icne d_Rd_readShort_5 (by decide)))))) (os_n (os_n (os_l (so_aload_n d_Rd_readShort_8 rfl)) (os_l (so_bipush d_Rd_readShort_9 (by decide)))) (os_n (os_l (so_callV (iv := mi_Rd_takeName) rfl rfl rfl mw_939 mw_941 sl_29 mw_13 mw_942 ⟨by decide +kernel, by decide +kernel, by decide +kernel⟩ (by decide) d_Rd_readShort_11)) (os_n (os_l (so_istore_n d_Rd_readShort_14 rfl (by decide))) (os_l (so_goto d_Rd_readShort_15 (by decide))))))) (os_n (os_n (os_n (os_l (so_iload_n d_Rd_readShort_18 rfl)) (os_l (so_bipush d_Rd_readShort_19 (by decide)))) (os_n (os_l (so_icne d_Rd_readShort_21 (by decide))) (os_n (os_l (so_aload_n d_Rd_readShort_24 rfl)) (os_l (so_bipush d_Rd_readShort_25 (by decide)))))) (os_n (os_n (os_l (so_callV (iv := mi_Rd_takeName) rfl rfl rfl mw_939 mw_941 sl_29 mw_13 mw_942 ⟨by decide +kernel, by decide +kernel, by decide +kernel⟩ (by decide) d_Rd_readShort_27)) (os_n (os_l (so_istore_n d_Rd_readShort_30 rfl (by decide))) (os_l (so_goto d_Rd_readShort_31 (by decide))))) (os_n (os_l (so_iload_n d_Rd_readShort_34 rfl)) (os_n (os_l (so_bipush d_Rd_readShort_35 (by decide))) (os_l (so_icne d_Rd_readShort_37 (by decide)))))))) (os_n (os_n (os_n (os_n (os_l (so_aload_n d_Rd_readShort_40 rfl)) (os_l (so_get (C := R_Rd) (T := F_Rd) (N := 13) (j := 3) in_Rd rfl (by decide) mw_639 d_Rd_readShort_41))) (os_n (os_l (so_bipush d_Rd_readShort_44 (by decide))) (os_n (os_l (so_icne d_Rd_readShort_46 (by decide))) (os_l (so_aload_n d_Rd_readShort_49 rfl))))) (os_n (os_n (os_l (so_get (C := R_Rd) (T := F_Rd) (N := 13) (j := 7) in_Rd rfl (by decide) mw_643 d_Rd_readShort_50)) (os_n (os_l (so_ifne d_Rd_readShort_53 (by decide))) (os_l (so_aload_n d_Rd_readShort_56 rfl)))) (os_n (os_l (so_get (C := R_Rd) (T := F_Rd) (N := 13) (j := 6) in_Rd rfl (by decide) mw_642 d_Rd_readShort_57)) (os_n (os_l (so_ldc2 mw_1003 d_Rd_readShort_60)) (os_l (so_lcmp d_Rd_readShort_63)))))) (os_n (os_n (os_n (os_l (so_ifle d_Rd_readShort_64 (by decide))) (os_l (so_aload_n d_Rd_readShort_67 rfl))) (os_n (os_l (so_callV (iv := mi_Rd_fail) rfl rfl rfl mw_915 mw_917 sl_24 mw_13 mw_918 ⟨by decide +kernel, by decide +kernel, by decide +kernel⟩ (by decide) d_Rd_readShort_68)) (os_n (os_l (so_aload_n d_Rd_readShort_71 rfl)) (os_l (so_get (C := R_Rd) (T := F_Rd) (N := 13) (j := 6) in_Rd rfl (by decide) mw_642 d_Rd_readShort_72))))) (os_n (os_n (os_l (so_ldc2 mw_907 d_Rd_readShort_75)) (os_n (os_l (so_ldiv d_Rd_readShort_78)) (os_l (so_l2i d_Rd_readShort_79)))) (os_n (os_l (so_istore_n d_Rd_readShort_80 rfl (by decide))) (os_n (os_l (so_aload_n d_Rd_readShort_81 rfl)) (os_l (so_bipush d_Rd_readShort_82 (by decide))))))))) (os_n (os_n (os_n (os_n (os_n (os_l (so_callV (iv := mi_Rd_take) rfl rfl rfl mw_979 mw_981 sl_35 mw_13 mw_982 ⟨by decide +kernel, by decide +kernel, by decide +kernel⟩ (by decide) d_Rd_readShort_84)) (os_l (so_aload_n d_Rd_readShort_87 rfl))) (os_n (os_l (so_bipush d_Rd_readShort_88 (by decide))) (os_n (os_l (so_callV (iv := mi_Rd_take) rfl rfl rfl mw_979 mw_981 sl_35 mw_13 mw_982 ⟨by decide +kernel, by decide +kernel, by decide +kernel⟩ (by decide) d_Rd_readShort_90)) (os_l (so_aload_n d_Rd_readShort_93 rfl))))) (os_n (os_n (os_l (so_iload_n d_Rd_readShort_94 rfl)) (os_n (os_l (so_iload_n d_Rd_readShort_95 rfl)) (os_l (so_callV (iv := mi_Rd_makeNode) rfl rfl rfl mw_958 mw_960 sl_32 mw_13 mw_961 ⟨by decide +kernel, by decide +kernel, by decide +kernel⟩ (by decide) d_Rd_readShort_96)))) (os_n (os_l (so_istore_n d_Rd_readShort_99 rfl (by decide))) (os_n (os_l (so_iload_n d_Rd_readShort_100 rfl)) (os_l (so_bipush d_Rd_readShort_101 (by decide))))))) (os_n (os_n (os_n (os_l (so_icne d_Rd_readShort_103 (by decide))) (os_l (so_iload_n d_Rd_readShort_106 rfl))) (os_n (os_l (so_iflt d_Rd_readShort_107 (by decide))) (os_n (os_l (so_aload_n d_Rd_readShort_110 rfl)) (os_l (so_get (C := R_Rd) (T := F_Rd) (N := 13) (j := 10) in_Rd rfl (by decide) mw_646 d_Rd_readShort_111))))) (os_n (os_n (os_l (so_iload_n d_Rd_readShort_114 rfl)) (os_n (os_l (so_iconst d_Rd_readShort_115 (by decide))) (os_l (so_aload_n d_Rd_readShort_116 rfl)))) (os_n (os_l (so_get (C := R_Rd) (T := F_Rd) (N := 13) (j := 10) in_Rd rfl (by decide) mw_646 d_Rd_readShort_117)) (os_n (os_l (so_aload_n d_Rd_readShort_120 rfl)) (os_l (so_get (C := R_Rd) (T := F_Rd) (N := 13) (j := 1) in_Rd rfl (by decide) mw_637 d_Rd_readShort_121))))))) (os_n (os_n (os_n (os_n (os_l (so_get (C := R_Pr) (T := F_Pr) (N := 18) (j := 14) in_Pr rfl (by decide) mw_466 d_Rd_readShort_124)) (os_l (so_iload_n d_Rd_readShort_127 rfl))) (os_n (os_l (so_iaload d_Rd_readShort_128)) (os_n (os_l (so_iaload d_Rd_readShort_129)) (os_l (so_iadd d_Rd_readShort_130))))) (os_n (os_n (os_l (so_sipush d_Rd_readShort_131 (by decide))) (os_n (os_l (so_callS (iv := mi_Ma_min) rfl mw_962 mw_963 mw_21 mw_964 ⟨by decide +kernel, by decide +kernel, by decide +kernel⟩ (by decide) d_Rd_readShort_134)) (os_l (so_iastore d_Rd_readShort_137)))) (os_n (os_l (so_aload_n d_Rd_readShort_138 rfl)) (os_n (os_l (so_get (C := R_Rd) (T := F_Rd) (N := 13) (j := 11) in_Rd rfl (by decide) mw_647 d_Rd_readShort_139)) (os_l (so_iload_n d_Rd_readShort_142 rfl)))))) (os_n (os_n (os_n (os_l (so_aload_n d_Rd_readShort_143 rfl)) (os_l (so_get (C := R_Rd) (T := F_Rd) (N := 13) (j := 11) in_Rd rfl (by decide) mw_647 d_Rd_readShort_144))) (os_n (os_l (so_aload_n d_Rd_readShort_147 rfl)) (os_n (os_l (so_get (C := R_Rd) (T := F_Rd) (N := 13) (j := 1) in_Rd rfl (by decide) mw_637 d_Rd_readShort_148)) (os_l (so_get (C := R_Pr) (T := F_Pr) (N := 18) (j := 14) in_Pr rfl (by decide) mw_466 d_Rd_readShort_151))))) (os_n (os_n (os_l (so_iload_n d_Rd_readShort_154 rfl)) (os_n (os_l (so_iaload d_Rd_readShort_155)) (os_l (so_iaload d_Rd_readShort_156)))) (os_n (os_l (so_iastore d_Rd_readShort_157)) (os_n (os_l (so_iload_n d_Rd_readShort_158 rfl)) (os_l (so_ireturn rfl d_Rd_readShort_159)))))))))
abbrev t_Rd_readLevel_130 : List UInt8 := 172 :: []
abbrev t_Rd_readLevel_129 : List UInt8 := 29 :: t_Rd_readLevel_130
abbrev t_Rd_readLevel_126 : List UInt8 := 182 :: 0 :: 108 :: t_Rd_readLevel_129
abbrev t_Rd_readLevel_125 : List UInt8 := 42 :: t_Rd_readLevel_126
abbrev t_Rd_readLevel_122 : List UInt8 := 154 :: 0 :: 7 :: t_Rd_readLevel_125
abbrev t_Rd_readLevel_120 : List UInt8 := 21 :: 5 :: t_Rd_readLevel_122
abbrev t_Rd_readLevel_117 : List UInt8 := 154 :: 0 :: 12 :: t_Rd_readLevel_120
abbrev t_Rd_readLevel_116 : List UInt8 := 27 :: t_Rd_readLevel_117
abbrev t_Rd_readLevel_113 : List UInt8 := 167 :: 255 :: 181 :: t_Rd_readLevel_116
abbrev t_Rd_readLevel_110 : List UInt8 := 132 :: 5 :: 1 :: t_Rd_readLevel_113
abbrev t_Rd_readLevel_109 : List UInt8 := 62 :: t_Rd_readLevel_110
abbrev t_Rd_readLevel_106 : List UInt8 := 182 :: 0 :: 234 :: t_Rd_readLevel_109
abbrev t_Rd_readLevel_104 : List UInt8 := 21 :: 8 :: t_Rd_readLevel_106
abbrev t_Rd_readLevel_103 : List UInt8 := 29 :: t_Rd_readLevel_104
abbrev t_Rd_readLevel_101 : List UInt8 := 21 :: 7 :: t_Rd_readLevel_103
abbrev t_Rd_readLevel_99 : List UInt8 := 21 :: 6 :: t_Rd_readLevel_101
abbrev t_Rd_readLevel_98 : List UInt8 := 42 :: t_Rd_readLevel_99
abbrev t_Rd_readLevel_96 : List UInt8 := 54 :: 8 :: t_Rd_readLevel_98
abbrev t_Rd_readLevel_93 : List UInt8 := 182 :: 0 :: 228 :: t_Rd_readLevel_96
abbrev t_Rd_readLevel_92 : List UInt8 := 42 :: t_Rd_readLevel_93
abbrev t_Rd_readLevel_89 : List UInt8 := 167 :: 0 :: 7 :: t_Rd_readLevel_92
abbrev t_Rd_readLevel_86 : List UInt8 := 182 :: 0 :: 209 :: t_Rd_readLevel_89
abbrev t_Rd_readLevel_85 : List UInt8 := 28 :: t_Rd_readLevel_86
abbrev t_Rd_readLevel_84 : List UInt8 := 42 :: t_Rd_readLevel_85
abbrev t_Rd_readLevel_81 : List UInt8 := 162 :: 0 :: 11 :: t_Rd_readLevel_84
abbrev t_Rd_readLevel_80 : List UInt8 := 6 :: t_Rd_readLevel_81
abbrev t_Rd_readLevel_79 : List UInt8 := 28 :: t_Rd_readLevel_80
abbrev t_Rd_readLevel_76 : List UInt8 := 182 :: 0 :: 63 :: t_Rd_readLevel_79
abbrev t_Rd_readLevel_75 : List UInt8 := 42 :: t_Rd_readLevel_76
abbrev t_Rd_readLevel_73 : List UInt8 := 54 :: 7 :: t_Rd_readLevel_75
abbrev t_Rd_readLevel_70 : List UInt8 := 180 :: 0 :: 111 :: t_Rd_readLevel_73
abbrev t_Rd_readLevel_69 : List UInt8 := 42 :: t_Rd_readLevel_70
abbrev t_Rd_readLevel_67 : List UInt8 := 54 :: 6 :: t_Rd_readLevel_69
abbrev t_Rd_readLevel_64 : List UInt8 := 180 :: 0 :: 66 :: t_Rd_readLevel_67
abbrev t_Rd_readLevel_63 : List UInt8 := 42 :: t_Rd_readLevel_64
abbrev t_Rd_readLevel_60 : List UInt8 := 160 :: 0 :: 56 :: t_Rd_readLevel_63
abbrev t_Rd_readLevel_59 : List UInt8 := 27 :: t_Rd_readLevel_60
abbrev t_Rd_readLevel_56 : List UInt8 := 184 :: 0 :: 231 :: t_Rd_readLevel_59
abbrev t_Rd_readLevel_53 : List UInt8 := 180 :: 0 :: 66 :: t_Rd_readLevel_56
abbrev t_Rd_readLevel_52 : List UInt8 := 42 :: t_Rd_readLevel_53
abbrev t_Rd_readLevel_49 : List UInt8 := 156 :: 0 :: 67 :: t_Rd_readLevel_52
abbrev t_Rd_readLevel_46 : List UInt8 := 180 :: 0 :: 60 :: t_Rd_readLevel_49
abbrev t_Rd_readLevel_45 : List UInt8 := 42 :: t_Rd_readLevel_46
abbrev t_Rd_readLevel_42 : List UInt8 := 162 :: 0 :: 74 :: t_Rd_readLevel_45
abbrev t_Rd_readLevel_40 : List UInt8 := 21 :: 4 :: t_Rd_readLevel_42
abbrev t_Rd_readLevel_38 : List UInt8 := 21 :: 5 :: t_Rd_readLevel_40
abbrev t_Rd_readLevel_36 : List UInt8 := 54 :: 5 :: t_Rd_readLevel_38
abbrev t_Rd_readLevel_35 : List UInt8 := 3 :: t_Rd_readLevel_36
abbrev t_Rd_readLevel_33 : List UInt8 := 54 :: 4 :: t_Rd_readLevel_35
abbrev t_Rd_readLevel_30 : List UInt8 := 17 :: 15 :: 160 :: t_Rd_readLevel_33
abbrev t_Rd_readLevel_27 : List UInt8 := 167 :: 0 :: 6 :: t_Rd_readLevel_30
abbrev t_Rd_readLevel_26 : List UInt8 := 4 :: t_Rd_readLevel_27
abbrev t_Rd_readLevel_23 : List UInt8 := 154 :: 0 :: 7 :: t_Rd_readLevel_26
abbrev t_Rd_readLevel_22 : List UInt8 := 27 :: t_Rd_readLevel_23
abbrev t_Rd_readLevel_21 : List UInt8 := 62 :: t_Rd_readLevel_22
abbrev t_Rd_readLevel_18 : List UInt8 := 182 :: 0 :: 228 :: t_Rd_readLevel_21
abbrev t_Rd_readLevel_17 : List UInt8 := 42 :: t_Rd_readLevel_18
abbrev t_Rd_readLevel_14 : List UInt8 := 167 :: 0 :: 7 :: t_Rd_readLevel_17
abbrev t_Rd_readLevel_11 : List UInt8 := 182 :: 0 :: 209 :: t_Rd_readLevel_14
abbrev t_Rd_readLevel_10 : List UInt8 := 28 :: t_Rd_readLevel_11
abbrev t_Rd_readLevel_9 : List UInt8 := 42 :: t_Rd_readLevel_10
abbrev t_Rd_readLevel_6 : List UInt8 := 162 :: 0 :: 11 :: t_Rd_readLevel_9
abbrev t_Rd_readLevel_5 : List UInt8 := 6 :: t_Rd_readLevel_6
abbrev t_Rd_readLevel_4 : List UInt8 := 28 :: t_Rd_readLevel_5
abbrev t_Rd_readLevel_3 : List UInt8 := 61 :: t_Rd_readLevel_4
abbrev t_Rd_readLevel_2 : List UInt8 := 96 :: t_Rd_readLevel_3
abbrev t_Rd_readLevel_1 : List UInt8 := 4 :: t_Rd_readLevel_2
abbrev t_Rd_readLevel_0 : List UInt8 := 27 :: t_Rd_readLevel_1
theorem a_Rd_readLevel_0 : dk_at b_Rd_readLevel 0 t_Rd_readLevel_0 := dk_start (by decide +kernel)
theorem a_Rd_readLevel_1 : dk_at b_Rd_readLevel 1 t_Rd_readLevel_1 := dk_go 1 a_Rd_readLevel_0 rfl
theorem a_Rd_readLevel_2 : dk_at b_Rd_readLevel 2 t_Rd_readLevel_2 := dk_go 1 a_Rd_readLevel_1 rfl
theorem a_Rd_readLevel_3 : dk_at b_Rd_readLevel 3 t_Rd_readLevel_3 := dk_go 1 a_Rd_readLevel_2 rfl
theorem a_Rd_readLevel_4 : dk_at b_Rd_readLevel 4 t_Rd_readLevel_4 := dk_go 1 a_Rd_readLevel_3 rfl
theorem a_Rd_readLevel_5 : dk_at b_Rd_readLevel 5 t_Rd_readLevel_5 := dk_go 1 a_Rd_readLevel_4 rfl
theorem a_Rd_readLevel_6 : dk_at b_Rd_readLevel 6 t_Rd_readLevel_6 := dk_go 1 a_Rd_readLevel_5 rfl
theorem a_Rd_readLevel_9 : dk_at b_Rd_readLevel 9 t_Rd_readLevel_9 := dk_go 3 a_Rd_readLevel_6 rfl
theorem a_Rd_readLevel_10 : dk_at b_Rd_readLevel 10 t_Rd_readLevel_10 := dk_go 1 a_Rd_readLevel_9 rfl
theorem a_Rd_readLevel_11 : dk_at b_Rd_readLevel 11 t_Rd_readLevel_11 := dk_go 1 a_Rd_readLevel_10 rfl
theorem a_Rd_readLevel_14 : dk_at b_Rd_readLevel 14 t_Rd_readLevel_14 := dk_go 3 a_Rd_readLevel_11 rfl
theorem a_Rd_readLevel_17 : dk_at b_Rd_readLevel 17 t_Rd_readLevel_17 := dk_go 3 a_Rd_readLevel_14 rfl
theorem a_Rd_readLevel_18 : dk_at b_Rd_readLevel 18 t_Rd_readLevel_18 := dk_go 1 a_Rd_readLevel_17 rfl
theorem a_Rd_readLevel_21 : dk_at b_Rd_readLevel 21 t_Rd_readLevel_21 := dk_go 3 a_Rd_readLevel_18 rfl
theorem a_Rd_readLevel_22 : dk_at b_Rd_readLevel 22 t_Rd_readLevel_22 := dk_go 1 a_Rd_readLevel_21 rfl
theorem a_Rd_readLevel_23 : dk_at b_Rd_readLevel 23 t_Rd_readLevel_23 := dk_go 1 a_Rd_readLevel_22 rfl
theorem a_Rd_readLevel_26 : dk_at b_Rd_readLevel 26 t_Rd_readLevel_26 := dk_go 3 a_Rd_readLevel_23 rfl
theorem a_Rd_readLevel_27 : dk_at b_Rd_readLevel 27 t_Rd_readLevel_27 := dk_go 1 a_Rd_readLevel_26 rfl
theorem a_Rd_readLevel_30 : dk_at b_Rd_readLevel 30 t_Rd_readLevel_30 := dk_go 3 a_Rd_readLevel_27 rfl
theorem a_Rd_readLevel_33 : dk_at b_Rd_readLevel 33 t_Rd_readLevel_33 := dk_go 3 a_Rd_readLevel_30 rfl
theorem a_Rd_readLevel_35 : dk_at b_Rd_readLevel 35 t_Rd_readLevel_35 := dk_go 2 a_Rd_readLevel_33 rfl
theorem a_Rd_readLevel_36 : dk_at b_Rd_readLevel 36 t_Rd_readLevel_36 := dk_go 1 a_Rd_readLevel_35 rfl
theorem a_Rd_readLevel_38 : dk_at b_Rd_readLevel 38 t_Rd_readLevel_38 := dk_go 2 a_Rd_readLevel_36 rfl
theorem a_Rd_readLevel_40 : dk_at b_Rd_readLevel 40 t_Rd_readLevel_40 := dk_go 2 a_Rd_readLevel_38 rfl
theorem a_Rd_readLevel_42 : dk_at b_Rd_readLevel 42 t_Rd_readLevel_42 := dk_go 2 a_Rd_readLevel_40 rfl
theorem a_Rd_readLevel_45 : dk_at b_Rd_readLevel 45 t_Rd_readLevel_45 := dk_go 3 a_Rd_readLevel_42 rfl
theorem a_Rd_readLevel_46 : dk_at b_Rd_readLevel 46 t_Rd_readLevel_46 := dk_go 1 a_Rd_readLevel_45 rfl
theorem a_Rd_readLevel_49 : dk_at b_Rd_readLevel 49 t_Rd_readLevel_49 := dk_go 3 a_Rd_readLevel_46 rfl
theorem a_Rd_readLevel_52 : dk_at b_Rd_readLevel 52 t_Rd_readLevel_52 := dk_go 3 a_Rd_readLevel_49 rfl
theorem a_Rd_readLevel_53 : dk_at b_Rd_readLevel 53 t_Rd_readLevel_53 := dk_go 1 a_Rd_readLevel_52 rfl
theorem a_Rd_readLevel_56 : dk_at b_Rd_readLevel 56 t_Rd_readLevel_56 := dk_go 3 a_Rd_readLevel_53 rfl
theorem a_Rd_readLevel_59 : dk_at b_Rd_readLevel 59 t_Rd_readLevel_59 := dk_go 3 a_Rd_readLevel_56 rfl
theorem a_Rd_readLevel_60 : dk_at b_Rd_readLevel 60 t_Rd_readLevel_60 := dk_go 1 a_Rd_readLevel_59 rfl
theorem a_Rd_readLevel_63 : dk_at b_Rd_readLevel 63 t_Rd_readLevel_63 := dk_go 3 a_Rd_readLevel_60 rfl
theorem a_Rd_readLevel_64 : dk_at b_Rd_readLevel 64 t_Rd_readLevel_64 := dk_go 1 a_Rd_readLevel_63 rfl
theorem a_Rd_readLevel_67 : dk_at b_Rd_readLevel 67 t_Rd_readLevel_67 := dk_go 3 a_Rd_readLevel_64 rfl
theorem a_Rd_readLevel_69 : dk_at b_Rd_readLevel 69 t_Rd_readLevel_69 := dk_go 2 a_Rd_readLevel_67 rfl
theorem a_Rd_readLevel_70 : dk_at b_Rd_readLevel 70 t_Rd_readLevel_70 := dk_go 1 a_Rd_readLevel_69 rfl
theorem a_Rd_readLevel_73 : dk_at b_Rd_readLevel 73 t_Rd_readLevel_73 := dk_go 3 a_Rd_readLevel_70 rfl
theorem a_Rd_readLevel_75 : dk_at b_Rd_readLevel 75 t_Rd_readLevel_75 := dk_go 2 a_Rd_readLevel_73 rfl
theorem a_Rd_readLevel_76 : dk_at b_Rd_readLevel 76 t_Rd_readLevel_76 := dk_go 1 a_Rd_readLevel_75 rfl
theorem a_Rd_readLevel_79 : dk_at b_Rd_readLevel 79 t_Rd_readLevel_79 := dk_go 3 a_Rd_readLevel_76 rfl
theorem a_Rd_readLevel_80 : dk_at b_Rd_readLevel 80 t_Rd_readLevel_80 := dk_go 1 a_Rd_readLevel_79 rfl
theorem a_Rd_readLevel_81 : dk_at b_Rd_readLevel 81 t_Rd_readLevel_81 := dk_go 1 a_Rd_readLevel_80 rfl
theorem a_Rd_readLevel_84 : dk_at b_Rd_readLevel 84 t_Rd_readLevel_84 := dk_go 3 a_Rd_readLevel_81 rfl
theorem a_Rd_readLevel_85 : dk_at b_Rd_readLevel 85 t_Rd_readLevel_85 := dk_go 1 a_Rd_readLevel_84 rfl
theorem a_Rd_readLevel_86 : dk_at b_Rd_readLevel 86 t_Rd_readLevel_86 := dk_go 1 a_Rd_readLevel_85 rfl
theorem a_Rd_readLevel_89 : dk_at b_Rd_readLevel 89 t_Rd_readLevel_89 := dk_go 3 a_Rd_readLevel_86 rfl
theorem a_Rd_readLevel_92 : dk_at b_Rd_readLevel 92 t_Rd_readLevel_92 := dk_go 3 a_Rd_readLevel_89 rfl
theorem a_Rd_readLevel_93 : dk_at b_Rd_readLevel 93 t_Rd_readLevel_93 := dk_go 1 a_Rd_readLevel_92 rfl
theorem a_Rd_readLevel_96 : dk_at b_Rd_readLevel 96 t_Rd_readLevel_96 := dk_go 3 a_Rd_readLevel_93 rfl
theorem a_Rd_readLevel_98 : dk_at b_Rd_readLevel 98 t_Rd_readLevel_98 := dk_go 2 a_Rd_readLevel_96 rfl
theorem a_Rd_readLevel_99 : dk_at b_Rd_readLevel 99 t_Rd_readLevel_99 := dk_go 1 a_Rd_readLevel_98 rfl
theorem a_Rd_readLevel_101 : dk_at b_Rd_readLevel 101 t_Rd_readLevel_101 := dk_go 2 a_Rd_readLevel_99 rfl
theorem a_Rd_readLevel_103 : dk_at b_Rd_readLevel 103 t_Rd_readLevel_103 := dk_go 2 a_Rd_readLevel_101 rfl
theorem a_Rd_readLevel_104 : dk_at b_Rd_readLevel 104 t_Rd_readLevel_104 := dk_go 1 a_Rd_readLevel_103 rfl
theorem a_Rd_readLevel_106 : dk_at b_Rd_readLevel 106 t_Rd_readLevel_106 := dk_go 2 a_Rd_readLevel_104 rfl
theorem a_Rd_readLevel_109 : dk_at b_Rd_readLevel 109 t_Rd_readLevel_109 := dk_go 3 a_Rd_readLevel_106 rfl
theorem a_Rd_readLevel_110 : dk_at b_Rd_readLevel 110 t_Rd_readLevel_110 := dk_go 1 a_Rd_readLevel_109 rfl
theorem a_Rd_readLevel_113 : dk_at b_Rd_readLevel 113 t_Rd_readLevel_113 := dk_go 3 a_Rd_readLevel_110 rfl
theorem a_Rd_readLevel_116 : dk_at b_Rd_readLevel 116 t_Rd_readLevel_116 := dk_go 3 a_Rd_readLevel_113 rfl
theorem a_Rd_readLevel_117 : dk_at b_Rd_readLevel 117 t_Rd_readLevel_117 := dk_go 1 a_Rd_readLevel_116 rfl
theorem a_Rd_readLevel_120 : dk_at b_Rd_readLevel 120 t_Rd_readLevel_120 := dk_go 3 a_Rd_readLevel_117 rfl
theorem a_Rd_readLevel_122 : dk_at b_Rd_readLevel 122 t_Rd_readLevel_122 := dk_go 2 a_Rd_readLevel_120 rfl
theorem a_Rd_readLevel_125 : dk_at b_Rd_readLevel 125 t_Rd_readLevel_125 := dk_go 3 a_Rd_readLevel_122 rfl
theorem a_Rd_readLevel_126 : dk_at b_Rd_readLevel 126 t_Rd_readLevel_126 := dk_go 1 a_Rd_readLevel_125 rfl
theorem a_Rd_readLevel_129 : dk_at b_Rd_readLevel 129 t_Rd_readLevel_129 := dk_go 3 a_Rd_readLevel_126 rfl
theorem a_Rd_readLevel_130 : dk_at b_Rd_readLevel 130 t_Rd_readLevel_130 := dk_go 1 a_Rd_readLevel_129 rfl
theorem d_Rd_readLevel_0 : decode b_Rd_readLevel 0 = .ok (.iload_n 1, 1) := dk_0 a_Rd_readLevel_0 (dko_27 _)
theorem d_Rd_readLevel_1 : decode b_Rd_readLevel 1 = .ok (.iconst 1, 1) := dk_0 a_Rd_readLevel_1 (dko_4 _)
theorem d_Rd_readLevel_2 : decode b_Rd_readLevel 2 = .ok (.iadd, 1) := dk_0 a_Rd_readLevel_2 (dko_96 _)
theorem d_Rd_readLevel_3 : decode b_Rd_readLevel 3 = .ok (.istore_n 2, 1) := dk_0 a_Rd_readLevel_3 (dko_61 _)
theorem d_Rd_readLevel_4 : decode b_Rd_readLevel 4 = .ok (.iload_n 2, 1) := dk_0 a_Rd_readLevel_4 (dko_28 _)
theorem d_Rd_readLevel_5 : decode b_Rd_readLevel 5 = .ok (.iconst 3, 1) := dk_0 a_Rd_readLevel_5 (dko_6 _)
theorem d_Rd_readLevel_6 : decode b_Rd_readLevel 6 = .ok (.if_icmp .ge 11, 3) := dk_S2 a_Rd_readLevel_6 (dko_162 _) (by decide +kernel)
theorem d_Rd_readLevel_9 : decode b_Rd_readLevel 9 = .ok (.aload_n 0, 1) := dk_0 a_Rd_readLevel_9 (dko_42 _)
theorem d_Rd_readLevel_10 : decode b_Rd_readLevel 10 = .ok (.iload_n 2, 1) := dk_0 a_Rd_readLevel_10 (dko_28 _)
theorem d_Rd_readLevel_11 : decode b_Rd_readLevel 11 = .ok (.invokevirtual 209, 3) := dk_U2 a_Rd_readLevel_11 (dko_182 _) rfl
theorem d_Rd_readLevel_14 : decode b_Rd_readLevel 14 = .ok (.goto 7, 3) := dk_S2 a_Rd_readLevel_14 (dko_167 _) (by decide +kernel)
theorem d_Rd_readLevel_17 : decode b_Rd_readLevel 17 = .ok (.aload_n 0, 1) := dk_0 a_Rd_readLevel_17 (dko_42 _)
theorem d_Rd_readLevel_18 : decode b_Rd_readLevel 18 = .ok (.invokevirtual 228, 3) := dk_U2 a_Rd_readLevel_18 (dko_182 _) rfl
theorem d_Rd_readLevel_21 : decode b_Rd_readLevel 21 = .ok (.istore_n 3, 1) := dk_0 a_Rd_readLevel_21 (dko_62 _)
theorem d_Rd_readLevel_22 : decode b_Rd_readLevel 22 = .ok (.iload_n 1, 1) := dk_0 a_Rd_readLevel_22 (dko_27 _)
theorem d_Rd_readLevel_23 : decode b_Rd_readLevel 23 = .ok (.ifCond .ne 7, 3) := dk_S2 a_Rd_readLevel_23 (dko_154 _) (by decide +kernel)
theorem d_Rd_readLevel_26 : decode b_Rd_readLevel 26 = .ok (.iconst 1, 1) := dk_0 a_Rd_readLevel_26 (dko_4 _)
theorem d_Rd_readLevel_27 : decode b_Rd_readLevel 27 = .ok (.goto 6, 3) := dk_S2 a_Rd_readLevel_27 (dko_167 _) (by decide +kernel)
theorem d_Rd_readLevel_30 : decode b_Rd_readLevel 30 = .ok (.sipush 4000, 3) := dk_S2 a_Rd_readLevel_30 (dko_17 _) (by decide +kernel)
theorem d_Rd_readLevel_33 : decode b_Rd_readLevel 33 = .ok (.istore 4, 2) := dk_U1 a_Rd_readLevel_33 (dko_54 _) rfl
theorem d_Rd_readLevel_35 : decode b_Rd_readLevel 35 = .ok (.iconst 0, 1) := dk_0 a_Rd_readLevel_35 (dko_3 _)
theorem d_Rd_readLevel_36 : decode b_Rd_readLevel 36 = .ok (.istore 5, 2) := dk_U1 a_Rd_readLevel_36 (dko_54 _) rfl
theorem d_Rd_readLevel_38 : decode b_Rd_readLevel 38 = .ok (.iload 5, 2) := dk_U1 a_Rd_readLevel_38 (dko_21 _) rfl
theorem d_Rd_readLevel_40 : decode b_Rd_readLevel 40 = .ok (.iload 4, 2) := dk_U1 a_Rd_readLevel_40 (dko_21 _) rfl
theorem d_Rd_readLevel_42 : decode b_Rd_readLevel 42 = .ok (.if_icmp .ge 74, 3) := dk_S2 a_Rd_readLevel_42 (dko_162 _) (by decide +kernel)
theorem d_Rd_readLevel_45 : decode b_Rd_readLevel 45 = .ok (.aload_n 0, 1) := dk_0 a_Rd_readLevel_45 (dko_42 _)
theorem d_Rd_readLevel_46 : decode b_Rd_readLevel 46 = .ok (.getfield 60, 3) := dk_U2 a_Rd_readLevel_46 (dko_180 _) rfl
theorem d_Rd_readLevel_49 : decode b_Rd_readLevel 49 = .ok (.ifCond .ge 67, 3) := dk_S2 a_Rd_readLevel_49 (dko_156 _) (by decide +kernel)
theorem d_Rd_readLevel_52 : decode b_Rd_readLevel 52 = .ok (.aload_n 0, 1) := dk_0 a_Rd_readLevel_52 (dko_42 _)
theorem d_Rd_readLevel_53 : decode b_Rd_readLevel 53 = .ok (.getfield 66, 3) := dk_U2 a_Rd_readLevel_53 (dko_180 _) rfl
theorem d_Rd_readLevel_56 : decode b_Rd_readLevel 56 = .ok (.invokestatic 231, 3) := dk_U2 a_Rd_readLevel_56 (dko_184 _) rfl
theorem d_Rd_readLevel_59 : decode b_Rd_readLevel 59 = .ok (.iload_n 1, 1) := dk_0 a_Rd_readLevel_59 (dko_27 _)
theorem d_Rd_readLevel_60 : decode b_Rd_readLevel 60 = .ok (.if_icmp .ne 56, 3) := dk_S2 a_Rd_readLevel_60 (dko_160 _) (by decide +kernel)
theorem d_Rd_readLevel_63 : decode b_Rd_readLevel 63 = .ok (.aload_n 0, 1) := dk_0 a_Rd_readLevel_63 (dko_42 _)
theorem d_Rd_readLevel_64 : decode b_Rd_readLevel 64 = .ok (.getfield 66, 3) := dk_U2 a_Rd_readLevel_64 (dko_180 _) rfl
theorem d_Rd_readLevel_67 : decode b_Rd_readLevel 67 = .ok (.istore 6, 2) := dk_U1 a_Rd_readLevel_67 (dko_54 _) rfl
theorem d_Rd_readLevel_69 : decode b_Rd_readLevel 69 = .ok (.aload_n 0, 1) := dk_0 a_Rd_readLevel_69 (dko_42 _)
theorem d_Rd_readLevel_70 : decode b_Rd_readLevel 70 = .ok (.getfield 111, 3) := dk_U2 a_Rd_readLevel_70 (dko_180 _) rfl
theorem d_Rd_readLevel_73 : decode b_Rd_readLevel 73 = .ok (.istore 7, 2) := dk_U1 a_Rd_readLevel_73 (dko_54 _) rfl
theorem d_Rd_readLevel_75 : decode b_Rd_readLevel 75 = .ok (.aload_n 0, 1) := dk_0 a_Rd_readLevel_75 (dko_42 _)
theorem d_Rd_readLevel_76 : decode b_Rd_readLevel 76 = .ok (.invokevirtual 63, 3) := dk_U2 a_Rd_readLevel_76 (dko_182 _) rfl
theorem d_Rd_readLevel_79 : decode b_Rd_readLevel 79 = .ok (.iload_n 2, 1) := dk_0 a_Rd_readLevel_79 (dko_28 _)
theorem d_Rd_readLevel_80 : decode b_Rd_readLevel 80 = .ok (.iconst 3, 1) := dk_0 a_Rd_readLevel_80 (dko_6 _)
theorem d_Rd_readLevel_81 : decode b_Rd_readLevel 81 = .ok (.if_icmp .ge 11, 3) := dk_S2 a_Rd_readLevel_81 (dko_162 _) (by decide +kernel)
theorem d_Rd_readLevel_84 : decode b_Rd_readLevel 84 = .ok (.aload_n 0, 1) := dk_0 a_Rd_readLevel_84 (dko_42 _)
theorem d_Rd_readLevel_85 : decode b_Rd_readLevel 85 = .ok (.iload_n 2, 1) := dk_0 a_Rd_readLevel_85 (dko_28 _)
theorem d_Rd_readLevel_86 : decode b_Rd_readLevel 86 = .ok (.invokevirtual 209, 3) := dk_U2 a_Rd_readLevel_86 (dko_182 _) rfl
theorem d_Rd_readLevel_89 : decode b_Rd_readLevel 89 = .ok (.goto 7, 3) := dk_S2 a_Rd_readLevel_89 (dko_167 _) (by decide +kernel)
theorem d_Rd_readLevel_92 : decode b_Rd_readLevel 92 = .ok (.aload_n 0, 1) := dk_0 a_Rd_readLevel_92 (dko_42 _)
theorem d_Rd_readLevel_93 : decode b_Rd_readLevel 93 = .ok (.invokevirtual 228, 3) := dk_U2 a_Rd_readLevel_93 (dko_182 _) rfl
theorem d_Rd_readLevel_96 : decode b_Rd_readLevel 96 = .ok (.istore 8, 2) := dk_U1 a_Rd_readLevel_96 (dko_54 _) rfl
theorem d_Rd_readLevel_98 : decode b_Rd_readLevel 98 = .ok (.aload_n 0, 1) := dk_0 a_Rd_readLevel_98 (dko_42 _)
theorem d_Rd_readLevel_99 : decode b_Rd_readLevel 99 = .ok (.iload 6, 2) := dk_U1 a_Rd_readLevel_99 (dko_21 _) rfl
theorem d_Rd_readLevel_101 : decode b_Rd_readLevel 101 = .ok (.iload 7, 2) := dk_U1 a_Rd_readLevel_101 (dko_21 _) rfl
theorem d_Rd_readLevel_103 : decode b_Rd_readLevel 103 = .ok (.iload_n 3, 1) := dk_0 a_Rd_readLevel_103 (dko_29 _)
theorem d_Rd_readLevel_104 : decode b_Rd_readLevel 104 = .ok (.iload 8, 2) := dk_U1 a_Rd_readLevel_104 (dko_21 _) rfl
theorem d_Rd_readLevel_106 : decode b_Rd_readLevel 106 = .ok (.invokevirtual 234, 3) := dk_U2 a_Rd_readLevel_106 (dko_182 _) rfl
theorem d_Rd_readLevel_109 : decode b_Rd_readLevel 109 = .ok (.istore_n 3, 1) := dk_0 a_Rd_readLevel_109 (dko_62 _)
theorem d_Rd_readLevel_110 : decode b_Rd_readLevel 110 = .ok (.iinc 5 1, 3) := dk_US a_Rd_readLevel_110 (dko_132 _) (by decide +kernel)
theorem d_Rd_readLevel_113 : decode b_Rd_readLevel 113 = .ok (.goto (-75), 3) := dk_S2 a_Rd_readLevel_113 (dko_167 _) (by decide +kernel)
theorem d_Rd_readLevel_116 : decode b_Rd_readLevel 116 = .ok (.iload_n 1, 1) := dk_0 a_Rd_readLevel_116 (dko_27 _)
theorem d_Rd_readLevel_117 : decode b_Rd_readLevel 117 = .ok (.ifCond .ne 12, 3) := dk_S2 a_Rd_readLevel_117 (dko_154 _) (by decide +kernel)
theorem d_Rd_readLevel_120 : decode b_Rd_readLevel 120 = .ok (.iload 5, 2) := dk_U1 a_Rd_readLevel_120 (dko_21 _) rfl
theorem d_Rd_readLevel_122 : decode b_Rd_readLevel 122 = .ok (.ifCond .ne 7, 3) := dk_S2 a_Rd_readLevel_122 (dko_154 _) (by decide +kernel)
theorem d_Rd_readLevel_125 : decode b_Rd_readLevel 125 = .ok (.aload_n 0, 1) := dk_0 a_Rd_readLevel_125 (dko_42 _)
theorem d_Rd_readLevel_126 : decode b_Rd_readLevel 126 = .ok (.invokevirtual 108, 3) := dk_U2 a_Rd_readLevel_126 (dko_182 _) rfl
theorem d_Rd_readLevel_129 : decode b_Rd_readLevel 129 = .ok (.iload_n 3, 1) := dk_0 a_Rd_readLevel_129 (dko_29 _)
theorem d_Rd_readLevel_130 : decode b_Rd_readLevel 130 = .ok (.ireturn, 1) := dk_0 a_Rd_readLevel_130 (dko_172 _)
set_option maxHeartbeats 4000000 in
set_option maxRecDepth 100000 in
theorem ok_Rd_readLevel (pc : Nat) : OpS mt mi_Rd_readLevel pc (cs_Rd_readLevel pc) := (os_n (os_n (os_n (os_n (os_n (os_n (os_l (so_iload_n d_Rd_readLevel_0 rfl)) (os_l (so_iconst d_Rd_readLevel_1 (by decide)))) (os_n (os_l (so_iadd d_Rd_readLevel_2)) (os_l (so_istore_n d_Rd_readLevel_3 rfl (by decide))))) (os_n (os_n (os_l (so_iload_n d_Rd_readLevel_4 rfl)) (os_l (so_iconst d_Rd_readLevel_5 (by decide)))) (os_n (os_l (so_icge d_Rd_readLevel_6 (by decide))) (os_l (so_aload_n d_Rd_readLevel_9 rfl))))) (os_n (os_n (os_n (os_l (so_iload_n d_Rd_readLevel_10 rfl)) (os_l (so_callV (iv := mi_Rd_readLevel) rfl rfl rfl mw_943 mw_945 sl_30 mw_13 mw_946 ⟨by decide +kernel, by decide +kernel, by decide +kernel⟩ (by decide) d_Rd_readLevel_11))) (os_n (os_l (so_goto d_Rd_readLevel_14 (by decide))) (os_l (so_aload_n d_Rd_readLevel_17 rfl)))) (os_n (os_n (os_l (so_callV (iv := mi_Rd_readFactor) rfl rfl rfl mw_947 mw_949 sl_31 mw_13 mw_950 ⟨by decide +kernel, by decide +kernel, by decide +kernel⟩ (by decide) d_Rd_readLevel_18)) (os_l (so_istore_n d_Rd_readLevel_21 rfl (by decide)))) (os_n (os_l (so_iload_n d_Rd_readLevel_22 rfl)) (os_n (os_l (so_ifne d_Rd_readLevel_23 (by decide))) (os_l (so_iconst d_Rd_readLevel_26 (by decide)))))))) (os_n (os_n (os_n (os_n (os_l (so_goto d_Rd_readLevel_27 (by decide))) (os_l (so_sipush d_Rd_readLevel_30 (by decide)))) (os_n (os_l (so_istore d_Rd_readLevel_33 (by decide))) (os_l (so_iconst d_Rd_readLevel_35 (by decide))))) (os_n (os_n (os_l (so_istore d_Rd_readLevel_36 (by decide))) (os_l (so_iload d_Rd_readLevel_38))) (os_n (os_l (so_iload d_Rd_readLevel_40)) (os_l (so_icge d_Rd_readLevel_42 (by decide)))))) (os_n (os_n (os_n (os_l (so_aload_n d_Rd_readLevel_45 rfl)) (os_l (so_get (C := R_Rd) (T := F_Rd) (N := 13) (j := 9) in_Rd rfl (by decide) mw_645 d_Rd_readLevel_46))) (os_n (os_l (so_ifge d_Rd_readLevel_49 (by decide))) (os_l (so_aload_n d_Rd_readLevel_52 rfl)))) (os_n (os_n (os_l (so_get (C := R_Rd) (T := F_Rd) (N := 13) (j := 3) in_Rd rfl (by decide) mw_639 d_Rd_readLevel_53)) (os_l (so_callS (iv := mi_Rd_levelOf) rfl mw_965 mw_966 mw_13 mw_967 ⟨by decide +kernel, by decide +kernel, by decide +kernel⟩ (by decide) d_Rd_readLevel_56))) (os_n (os_l (so_iload_n d_Rd_readLevel_59 rfl)) (os_n (os_l (so_icne d_Rd_readLevel_60 (by decide))) (os_l (so_aload_n d_Rd_readLevel_63 rfl)))))))) (os_n (os_n (os_n (os_n (os_n (os_l (so_get (C := R_Rd) (T := F_Rd) (N := 13) (j := 3) in_Rd rfl (by decide) mw_639 d_Rd_readLevel_64)) (os_l (so_istore d_Rd_readLevel_67 (by decide)))) (os_n (os_l (so_aload_n d_Rd_readLevel_69 rfl)) (os_l (so_get (C := R_Rd) (T := F_Rd) (N := 13) (j := 4) in_Rd rfl (by decide) mw_640 d_Rd_readLevel_70)))) (os_n (os_n (os_l (so_istore d_Rd_readLevel_73 (by decide))) (os_l (so_aload_n d_Rd_readLevel_75 rfl))) (os_n (os_l (so_callV (iv := mi_Rd_nextWord) rfl rfl rfl mw_887 mw_889 sl_20 mw_13 mw_890 ⟨by decide +kernel, by decide +kernel, by decide +kernel⟩ (by decide) d_Rd_readLevel_76)) (os_l (so_iload_n d_Rd_readLevel_79 rfl))))) (os_n (os_n (os_n (os_l (so_iconst d_Rd_readLevel_80 (by decide))) (os_l (so_icge d_Rd_readLevel_81 (by decide)))) (os_n (os_l (so_aload_n d_Rd_readLevel_84 rfl)) (os_l (so_iload_n d_Rd_readLevel_85 rfl)))) (os_n (os_n (os_l (so_callV (iv := mi_Rd_readLevel) rfl rfl rfl mw_943 mw_945 sl_30 mw_13 mw_946 ⟨by decide +kernel, by decide +kernel, by decide +kernel⟩ (by decide) d_Rd_readLevel_86)) (os_l (so_goto d_Rd_readLevel_89 (by decide)))) (os_n (os_l (so_aload_n d_Rd_readLevel_92 rfl)) (os_n (os_l (so_callV (iv := mi_Rd_readFactor) rfl rfl rfl mw_947 mw_949 sl_31 mw_13 mw_950 ⟨by decide +kernel, by decide +kernel, by decide +kernel⟩ (by decide) d_Rd_readLevel_93)) (os_l (so_istore d_Rd_readLevel_96 (by decide)))))))) (os_n (os_n (os_n (os_n (os_l (so_aload_n d_Rd_readLevel_98 rfl)) (os_l (so_iload d_Rd_readLevel_99))) (os_n (os_l (so_iload d_Rd_readLevel_101)) (os_l (so_iload_n d_Rd_readLevel_103 rfl)))) (os_n (os_n (os_l (so_iload d_Rd_readLevel_104)) (os_l (so_callV (iv := mi_Rd_join) rfl rfl rfl mw_968 mw_970 sl_33 mw_13 mw_971 ⟨by decide +kernel, by decide +kernel, by decide +kernel⟩ (by decide) d_Rd_readLevel_106))) (os_n (os_l (so_istore_n d_Rd_readLevel_109 rfl (by decide))) (os_l (so_iinc d_Rd_readLevel_110 (by decide) (by decide)))))) (os_n (os_n (os_n (os_l (so_goto d_Rd_readLevel_113 (by decide))) (os_l (so_iload_n d_Rd_readLevel_116 rfl))) (os_n (os_l (so_ifne d_Rd_readLevel_117 (by decide))) (os_l (so_iload d_Rd_readLevel_120)))) (os_n (os_n (os_l (so_ifne d_Rd_readLevel_122 (by decide))) (os_l (so_aload_n d_Rd_readLevel_125 rfl))) (os_n (os_l (so_callV (iv := mi_Rd_fail) rfl rfl rfl mw_915 mw_917 sl_24 mw_13 mw_918 ⟨by decide +kernel, by decide +kernel, by decide +kernel⟩ (by decide) d_Rd_readLevel_126)) (os_n (os_l (so_iload_n d_Rd_readLevel_129 rfl)) (os_l (so_ireturn rfl d_Rd_readLevel_130)))))))))
abbrev t_Rd_levelOf_107 : List UInt8 := 172 :: []
abbrev t_Rd_levelOf_106 : List UInt8 := 6 :: t_Rd_levelOf_107
abbrev t_Rd_levelOf_105 : List UInt8 := 172 :: t_Rd_levelOf_106
abbrev t_Rd_levelOf_104 : List UInt8 := 5 :: t_Rd_levelOf_105
abbrev t_Rd_levelOf_103 : List UInt8 := 172 :: t_Rd_levelOf_104
abbrev t_Rd_levelOf_102 : List UInt8 := 4 :: t_Rd_levelOf_103
abbrev t_Rd_levelOf_101 : List UInt8 := 172 :: t_Rd_levelOf_102
abbrev t_Rd_levelOf_100 : List UInt8 := 3 :: t_Rd_levelOf_101
abbrev t_Rd_levelOf_1 : List UInt8 := 170 :: 0 :: 0 :: 0 :: 0 :: 0 :: 105 :: 0 :: 0 :: 0 :: 42 :: 0 :: 0 :: 0 :: 62 :: 0 :: 0 :: 0 :: 103 :: 0 :: 0 :: 0 :: 101 :: 0 :: 0 :: 0 :: 105 :: 0 :: 0 :: 0 :: 101 :: 0 :: 0 :: 0 :: 105 :: 0 :: 0 :: 0 :: 103 :: 0 :: 0 :: 0 :: 105 :: 0 :: 0 :: 0 :: 105 :: 0 :: 0 :: 0 :: 105 :: 0 :: 0 :: 0 :: 105 :: 0 :: 0 :: 0 :: 105 :: 0 :: 0 :: 0 :: 105 :: 0 :: 0 :: 0 :: 105 :: 0 :: 0 :: 0 :: 105 :: 0 :: 0 :: 0 :: 105 :: 0 :: 0 :: 0 :: 105 :: 0 :: 0 :: 0 :: 105 :: 0 :: 0 :: 0 :: 105 :: 0 :: 0 :: 0 :: 99 :: 0 :: 0 :: 0 :: 99 :: 0 :: 0 :: 0 :: 99 :: t_Rd_levelOf_100
abbrev t_Rd_levelOf_0 : List UInt8 := 26 :: t_Rd_levelOf_1
theorem a_Rd_levelOf_0 : dk_at b_Rd_levelOf 0 t_Rd_levelOf_0 := dk_start (by decide +kernel)
theorem a_Rd_levelOf_1 : dk_at b_Rd_levelOf 1 t_Rd_levelOf_1 := dk_go 1 a_Rd_levelOf_0 rfl
theorem a_Rd_levelOf_100 : dk_at b_Rd_levelOf 100 t_Rd_levelOf_100 := dk_go 99 a_Rd_levelOf_1 rfl
theorem a_Rd_levelOf_101 : dk_at b_Rd_levelOf 101 t_Rd_levelOf_101 := dk_go 1 a_Rd_levelOf_100 rfl
theorem a_Rd_levelOf_102 : dk_at b_Rd_levelOf 102 t_Rd_levelOf_102 := dk_go 1 a_Rd_levelOf_101 rfl
theorem a_Rd_levelOf_103 : dk_at b_Rd_levelOf 103 t_Rd_levelOf_103 := dk_go 1 a_Rd_levelOf_102 rfl
theorem a_Rd_levelOf_104 : dk_at b_Rd_levelOf 104 t_Rd_levelOf_104 := dk_go 1 a_Rd_levelOf_103 rfl
theorem a_Rd_levelOf_105 : dk_at b_Rd_levelOf 105 t_Rd_levelOf_105 := dk_go 1 a_Rd_levelOf_104 rfl
theorem a_Rd_levelOf_106 : dk_at b_Rd_levelOf 106 t_Rd_levelOf_106 := dk_go 1 a_Rd_levelOf_105 rfl
theorem a_Rd_levelOf_107 : dk_at b_Rd_levelOf 107 t_Rd_levelOf_107 := dk_go 1 a_Rd_levelOf_106 rfl
theorem d_Rd_levelOf_0 : decode b_Rd_levelOf 0 = .ok (.iload_n 0, 1) := dk_0 a_Rd_levelOf_0 (dko_26 _)
theorem d_Rd_levelOf_1 : decode b_Rd_levelOf 1 = .ok (.tableswitch 105 42 62 #[103, 101, 105, 101, 105, 103, 105, 105, 105, 105, 105, 105, 105, 105, 105, 105, 105, 105, 99, 99, 99], 99) := by decide +kernel
theorem d_Rd_levelOf_100 : decode b_Rd_levelOf 100 = .ok (.iconst 0, 1) := dk_0 a_Rd_levelOf_100 (dko_3 _)
theorem d_Rd_levelOf_101 : decode b_Rd_levelOf 101 = .ok (.ireturn, 1) := dk_0 a_Rd_levelOf_101 (dko_172 _)
theorem d_Rd_levelOf_102 : decode b_Rd_levelOf 102 = .ok (.iconst 1, 1) := dk_0 a_Rd_levelOf_102 (dko_4 _)
theorem d_Rd_levelOf_103 : decode b_Rd_levelOf 103 = .ok (.ireturn, 1) := dk_0 a_Rd_levelOf_103 (dko_172 _)
theorem d_Rd_levelOf_104 : decode b_Rd_levelOf 104 = .ok (.iconst 2, 1) := dk_0 a_Rd_levelOf_104 (dko_5 _)
theorem d_Rd_levelOf_105 : decode b_Rd_levelOf 105 = .ok (.ireturn, 1) := dk_0 a_Rd_levelOf_105 (dko_172 _)
theorem d_Rd_levelOf_106 : decode b_Rd_levelOf 106 = .ok (.iconst 3, 1) := dk_0 a_Rd_levelOf_106 (dko_6 _)
theorem d_Rd_levelOf_107 : decode b_Rd_levelOf 107 = .ok (.ireturn, 1) := dk_0 a_Rd_levelOf_107 (dko_172 _)
set_option maxHeartbeats 4000000 in
set_option maxRecDepth 100000 in
theorem ok_Rd_levelOf (pc : Nat) : OpS mt mi_Rd_levelOf pc (cs_Rd_levelOf pc) := (os_n (os_n (os_n (os_l (so_iload_n d_Rd_levelOf_0 rfl)) (os_l (so_tab d_Rd_levelOf_1 (by decide) (by decide) (by decide)))) (os_n (os_l (so_iconst d_Rd_levelOf_100 (by decide))) (os_n (os_l (so_ireturn rfl d_Rd_levelOf_101)) (os_l (so_iconst d_Rd_levelOf_102 (by decide)))))) (os_n (os_n (os_l (so_ireturn rfl d_Rd_levelOf_103)) (os_l (so_iconst d_Rd_levelOf_104 (by decide)))) (os_n (os_l (so_ireturn rfl d_Rd_levelOf_105)) (os_n (os_l (so_iconst d_Rd_levelOf_106 (by decide))) (os_l (so_ireturn rfl d_Rd_levelOf_107))))))
abbrev t_Rd_join_115 : List UInt8 := 172 :: []
abbrev t_Rd_join_113 : List UInt8 := 21 :: 6 :: t_Rd_join_115
abbrev t_Rd_join_112 : List UInt8 := 87 :: t_Rd_join_113
abbrev t_Rd_join_109 : List UInt8 := 182 :: 0 :: 79 :: t_Rd_join_112
abbrev t_Rd_join_108 : List UInt8 := 3 :: t_Rd_join_109
abbrev t_Rd_join_107 : List UInt8 := 27 :: t_Rd_join_108
abbrev t_Rd_join_106 : List UInt8 := 42 :: t_Rd_join_107
abbrev t_Rd_join_105 : List UInt8 := 172 :: t_Rd_join_106
abbrev t_Rd_join_104 : List UInt8 := 3 :: t_Rd_join_105
abbrev t_Rd_join_101 : List UInt8 := 181 :: 0 :: 60 :: t_Rd_join_104
abbrev t_Rd_join_100 : List UInt8 := 28 :: t_Rd_join_101
abbrev t_Rd_join_99 : List UInt8 := 42 :: t_Rd_join_100
abbrev t_Rd_join_96 : List UInt8 := 154 :: 0 :: 10 :: t_Rd_join_99
abbrev t_Rd_join_94 : List UInt8 := 21 :: 5 :: t_Rd_join_96
abbrev t_Rd_join_92 : List UInt8 := 54 :: 6 :: t_Rd_join_94
abbrev t_Rd_join_91 : List UInt8 := 3 :: t_Rd_join_92
abbrev t_Rd_join_88 : List UInt8 := 167 :: 0 :: 4 :: t_Rd_join_91
abbrev t_Rd_join_87 : List UInt8 := 29 :: t_Rd_join_88
abbrev t_Rd_join_84 : List UInt8 := 154 :: 0 :: 7 :: t_Rd_join_87
abbrev t_Rd_join_82 : List UInt8 := 21 :: 4 :: t_Rd_join_84
abbrev t_Rd_join_80 : List UInt8 := 54 :: 5 :: t_Rd_join_82
abbrev t_Rd_join_79 : List UInt8 := 3 :: t_Rd_join_80
abbrev t_Rd_join_76 : List UInt8 := 167 :: 0 :: 4 :: t_Rd_join_79
abbrev t_Rd_join_75 : List UInt8 := 4 :: t_Rd_join_76
abbrev t_Rd_join_72 : List UInt8 := 154 :: 0 :: 7 :: t_Rd_join_75
abbrev t_Rd_join_70 : List UInt8 := 21 :: 4 :: t_Rd_join_72
abbrev t_Rd_join_67 : List UInt8 := 159 :: 0 :: 8 :: t_Rd_join_70
abbrev t_Rd_join_65 : List UInt8 := 21 :: 4 :: t_Rd_join_67
abbrev t_Rd_join_64 : List UInt8 := 29 :: t_Rd_join_65
abbrev t_Rd_join_61 : List UInt8 := 160 :: 0 :: 33 :: t_Rd_join_64
abbrev t_Rd_join_59 : List UInt8 := 16 :: 47 :: t_Rd_join_61
abbrev t_Rd_join_58 : List UInt8 := 27 :: t_Rd_join_59
abbrev t_Rd_join_55 : List UInt8 := 167 :: 0 :: 39 :: t_Rd_join_58
abbrev t_Rd_join_53 : List UInt8 := 54 :: 6 :: t_Rd_join_55
abbrev t_Rd_join_50 : List UInt8 := 184 :: 0 :: 99 :: t_Rd_join_53
abbrev t_Rd_join_48 : List UInt8 := 21 :: 4 :: t_Rd_join_50
abbrev t_Rd_join_47 : List UInt8 := 29 :: t_Rd_join_48
abbrev t_Rd_join_45 : List UInt8 := 54 :: 5 :: t_Rd_join_47
abbrev t_Rd_join_44 : List UInt8 := 3 :: t_Rd_join_45
abbrev t_Rd_join_41 : List UInt8 := 167 :: 0 :: 4 :: t_Rd_join_44
abbrev t_Rd_join_40 : List UInt8 := 4 :: t_Rd_join_41
abbrev t_Rd_join_37 : List UInt8 := 154 :: 0 :: 7 :: t_Rd_join_40
abbrev t_Rd_join_35 : List UInt8 := 21 :: 4 :: t_Rd_join_37
abbrev t_Rd_join_32 : List UInt8 := 153 :: 0 :: 8 :: t_Rd_join_35
abbrev t_Rd_join_31 : List UInt8 := 29 :: t_Rd_join_32
abbrev t_Rd_join_28 : List UInt8 := 160 :: 0 :: 30 :: t_Rd_join_31
abbrev t_Rd_join_26 : List UInt8 := 16 :: 42 :: t_Rd_join_28
abbrev t_Rd_join_25 : List UInt8 := 27 :: t_Rd_join_26
abbrev t_Rd_join_23 : List UInt8 := 54 :: 6 :: t_Rd_join_25
abbrev t_Rd_join_22 : List UInt8 := 29 :: t_Rd_join_23
abbrev t_Rd_join_20 : List UInt8 := 54 :: 5 :: t_Rd_join_22
abbrev t_Rd_join_19 : List UInt8 := 3 :: t_Rd_join_20
abbrev t_Rd_join_16 : List UInt8 := 167 :: 0 :: 4 :: t_Rd_join_19
abbrev t_Rd_join_15 : List UInt8 := 4 :: t_Rd_join_16
abbrev t_Rd_join_12 : List UInt8 := 160 :: 0 :: 7 :: t_Rd_join_15
abbrev t_Rd_join_10 : List UInt8 := 21 :: 4 :: t_Rd_join_12
abbrev t_Rd_join_9 : List UInt8 := 29 :: t_Rd_join_10
abbrev t_Rd_join_8 : List UInt8 := 172 :: t_Rd_join_9
abbrev t_Rd_join_7 : List UInt8 := 3 :: t_Rd_join_8
abbrev t_Rd_join_4 : List UInt8 := 155 :: 0 :: 5 :: t_Rd_join_7
abbrev t_Rd_join_1 : List UInt8 := 180 :: 0 :: 60 :: t_Rd_join_4
abbrev t_Rd_join_0 : List UInt8 := 42 :: t_Rd_join_1
theorem a_Rd_join_0 : dk_at b_Rd_join 0 t_Rd_join_0 := dk_start (by decide +kernel)
theorem a_Rd_join_1 : dk_at b_Rd_join 1 t_Rd_join_1 := dk_go 1 a_Rd_join_0 rfl
theorem a_Rd_join_4 : dk_at b_Rd_join 4 t_Rd_join_4 := dk_go 3 a_Rd_join_1 rfl
theorem a_Rd_join_7 : dk_at b_Rd_join 7 t_Rd_join_7 := dk_go 3 a_Rd_join_4 rfl
theorem a_Rd_join_8 : dk_at b_Rd_join 8 t_Rd_join_8 := dk_go 1 a_Rd_join_7 rfl
theorem a_Rd_join_9 : dk_at b_Rd_join 9 t_Rd_join_9 := dk_go 1 a_Rd_join_8 rfl
theorem a_Rd_join_10 : dk_at b_Rd_join 10 t_Rd_join_10 := dk_go 1 a_Rd_join_9 rfl
theorem a_Rd_join_12 : dk_at b_Rd_join 12 t_Rd_join_12 := dk_go 2 a_Rd_join_10 rfl
theorem a_Rd_join_15 : dk_at b_Rd_join 15 t_Rd_join_15 := dk_go 3 a_Rd_join_12 rfl
theorem a_Rd_join_16 : dk_at b_Rd_join 16 t_Rd_join_16 := dk_go 1 a_Rd_join_15 rfl
theorem a_Rd_join_19 : dk_at b_Rd_join 19 t_Rd_join_19 := dk_go 3 a_Rd_join_16 rfl
theorem a_Rd_join_20 : dk_at b_Rd_join 20 t_Rd_join_20 := dk_go 1 a_Rd_join_19 rfl
theorem a_Rd_join_22 : dk_at b_Rd_join 22 t_Rd_join_22 := dk_go 2 a_Rd_join_20 rfl
theorem a_Rd_join_23 : dk_at b_Rd_join 23 t_Rd_join_23 := dk_go 1 a_Rd_join_22 rfl
theorem a_Rd_join_25 : dk_at b_Rd_join 25 t_Rd_join_25 := dk_go 2 a_Rd_join_23 rfl
theorem a_Rd_join_26 : dk_at b_Rd_join 26 t_Rd_join_26 := dk_go 1 a_Rd_join_25 rfl
theorem a_Rd_join_28 : dk_at b_Rd_join 28 t_Rd_join_28 := dk_go 2 a_Rd_join_26 rfl
theorem a_Rd_join_31 : dk_at b_Rd_join 31 t_Rd_join_31 := dk_go 3 a_Rd_join_28 rfl
theorem a_Rd_join_32 : dk_at b_Rd_join 32 t_Rd_join_32 := dk_go 1 a_Rd_join_31 rfl
theorem a_Rd_join_35 : dk_at b_Rd_join 35 t_Rd_join_35 := dk_go 3 a_Rd_join_32 rfl
theorem a_Rd_join_37 : dk_at b_Rd_join 37 t_Rd_join_37 := dk_go 2 a_Rd_join_35 rfl
theorem a_Rd_join_40 : dk_at b_Rd_join 40 t_Rd_join_40 := dk_go 3 a_Rd_join_37 rfl
theorem a_Rd_join_41 : dk_at b_Rd_join 41 t_Rd_join_41 := dk_go 1 a_Rd_join_40 rfl
theorem a_Rd_join_44 : dk_at b_Rd_join 44 t_Rd_join_44 := dk_go 3 a_Rd_join_41 rfl
theorem a_Rd_join_45 : dk_at b_Rd_join 45 t_Rd_join_45 := dk_go 1 a_Rd_join_44 rfl
theorem a_Rd_join_47 : dk_at b_Rd_join 47 t_Rd_join_47 := dk_go 2 a_Rd_join_45 rfl
theorem a_Rd_join_48 : dk_at b_Rd_join 48 t_Rd_join_48 := dk_go 1 a_Rd_join_47 rfl
theorem a_Rd_join_50 : dk_at b_Rd_join 50 t_Rd_join_50 := dk_go 2 a_Rd_join_48 rfl
theorem a_Rd_join_53 : dk_at b_Rd_join 53 t_Rd_join_53 := dk_go 3 a_Rd_join_50 rfl
theorem a_Rd_join_55 : dk_at b_Rd_join 55 t_Rd_join_55 := dk_go 2 a_Rd_join_53 rfl
theorem a_Rd_join_58 : dk_at b_Rd_join 58 t_Rd_join_58 := dk_go 3 a_Rd_join_55 rfl
theorem a_Rd_join_59 : dk_at b_Rd_join 59 t_Rd_join_59 := dk_go 1 a_Rd_join_58 rfl
theorem a_Rd_join_61 : dk_at b_Rd_join 61 t_Rd_join_61 := dk_go 2 a_Rd_join_59 rfl
theorem a_Rd_join_64 : dk_at b_Rd_join 64 t_Rd_join_64 := dk_go 3 a_Rd_join_61 rfl
theorem a_Rd_join_65 : dk_at b_Rd_join 65 t_Rd_join_65 := dk_go 1 a_Rd_join_64 rfl
theorem a_Rd_join_67 : dk_at b_Rd_join 67 t_Rd_join_67 := dk_go 2 a_Rd_join_65 rfl
theorem a_Rd_join_70 : dk_at b_Rd_join 70 t_Rd_join_70 := dk_go 3 a_Rd_join_67 rfl
theorem a_Rd_join_72 : dk_at b_Rd_join 72 t_Rd_join_72 := dk_go 2 a_Rd_join_70 rfl
theorem a_Rd_join_75 : dk_at b_Rd_join 75 t_Rd_join_75 := dk_go 3 a_Rd_join_72 rfl
theorem a_Rd_join_76 : dk_at b_Rd_join 76 t_Rd_join_76 := dk_go 1 a_Rd_join_75 rfl
theorem a_Rd_join_79 : dk_at b_Rd_join 79 t_Rd_join_79 := dk_go 3 a_Rd_join_76 rfl
theorem a_Rd_join_80 : dk_at b_Rd_join 80 t_Rd_join_80 := dk_go 1 a_Rd_join_79 rfl
theorem a_Rd_join_82 : dk_at b_Rd_join 82 t_Rd_join_82 := dk_go 2 a_Rd_join_80 rfl
theorem a_Rd_join_84 : dk_at b_Rd_join 84 t_Rd_join_84 := dk_go 2 a_Rd_join_82 rfl
theorem a_Rd_join_87 : dk_at b_Rd_join 87 t_Rd_join_87 := dk_go 3 a_Rd_join_84 rfl
theorem a_Rd_join_88 : dk_at b_Rd_join 88 t_Rd_join_88 := dk_go 1 a_Rd_join_87 rfl
theorem a_Rd_join_91 : dk_at b_Rd_join 91 t_Rd_join_91 := dk_go 3 a_Rd_join_88 rfl
theorem a_Rd_join_92 : dk_at b_Rd_join 92 t_Rd_join_92 := dk_go 1 a_Rd_join_91 rfl
theorem a_Rd_join_94 : dk_at b_Rd_join 94 t_Rd_join_94 := dk_go 2 a_Rd_join_92 rfl
theorem a_Rd_join_96 : dk_at b_Rd_join 96 t_Rd_join_96 := dk_go 2 a_Rd_join_94 rfl
theorem a_Rd_join_99 : dk_at b_Rd_join 99 t_Rd_join_99 := dk_go 3 a_Rd_join_96 rfl
theorem a_Rd_join_100 : dk_at b_Rd_join 100 t_Rd_join_100 := dk_go 1 a_Rd_join_99 rfl
theorem a_Rd_join_101 : dk_at b_Rd_join 101 t_Rd_join_101 := dk_go 1 a_Rd_join_100 rfl
theorem a_Rd_join_104 : dk_at b_Rd_join 104 t_Rd_join_104 := dk_go 3 a_Rd_join_101 rfl
theorem a_Rd_join_105 : dk_at b_Rd_join 105 t_Rd_join_105 := dk_go 1 a_Rd_join_104 rfl
theorem a_Rd_join_106 : dk_at b_Rd_join 106 t_Rd_join_106 := dk_go 1 a_Rd_join_105 rfl
theorem a_Rd_join_107 : dk_at b_Rd_join 107 t_Rd_join_107 := dk_go 1 a_Rd_join_106 rfl
theorem a_Rd_join_108 : dk_at b_Rd_join 108 t_Rd_join_108 := dk_go 1 a_Rd_join_107 rfl
theorem a_Rd_join_109 : dk_at b_Rd_join 109 t_Rd_join_109 := dk_go 1 a_Rd_join_108 rfl
theorem a_Rd_join_112 : dk_at b_Rd_join 112 t_Rd_join_112 := dk_go 3 a_Rd_join_109 rfl
theorem a_Rd_join_113 : dk_at b_Rd_join 113 t_Rd_join_113 := dk_go 1 a_Rd_join_112 rfl
theorem a_Rd_join_115 : dk_at b_Rd_join 115 t_Rd_join_115 := dk_go 2 a_Rd_join_113 rfl
theorem d_Rd_join_0 : decode b_Rd_join 0 = .ok (.aload_n 0, 1) := dk_0 a_Rd_join_0 (dko_42 _)
theorem d_Rd_join_1 : decode b_Rd_join 1 = .ok (.getfield 60, 3) := dk_U2 a_Rd_join_1 (dko_180 _) rfl
theorem d_Rd_join_4 : decode b_Rd_join 4 = .ok (.ifCond .lt 5, 3) := dk_S2 a_Rd_join_4 (dko_155 _) (by decide +kernel)
theorem d_Rd_join_7 : decode b_Rd_join 7 = .ok (.iconst 0, 1) := dk_0 a_Rd_join_7 (dko_3 _)
theorem d_Rd_join_8 : decode b_Rd_join 8 = .ok (.ireturn, 1) := dk_0 a_Rd_join_8 (dko_172 _)
theorem d_Rd_join_9 : decode b_Rd_join 9 = .ok (.iload_n 3, 1) := dk_0 a_Rd_join_9 (dko_29 _)
theorem d_Rd_join_10 : decode b_Rd_join 10 = .ok (.iload 4, 2) := dk_U1 a_Rd_join_10 (dko_21 _) rfl
theorem d_Rd_join_12 : decode b_Rd_join 12 = .ok (.if_icmp .ne 7, 3) := dk_S2 a_Rd_join_12 (dko_160 _) (by decide +kernel)
theorem d_Rd_join_15 : decode b_Rd_join 15 = .ok (.iconst 1, 1) := dk_0 a_Rd_join_15 (dko_4 _)
theorem d_Rd_join_16 : decode b_Rd_join 16 = .ok (.goto 4, 3) := dk_S2 a_Rd_join_16 (dko_167 _) (by decide +kernel)
theorem d_Rd_join_19 : decode b_Rd_join 19 = .ok (.iconst 0, 1) := dk_0 a_Rd_join_19 (dko_3 _)
theorem d_Rd_join_20 : decode b_Rd_join 20 = .ok (.istore 5, 2) := dk_U1 a_Rd_join_20 (dko_54 _) rfl
theorem d_Rd_join_22 : decode b_Rd_join 22 = .ok (.iload_n 3, 1) := dk_0 a_Rd_join_22 (dko_29 _)
theorem d_Rd_join_23 : decode b_Rd_join 23 = .ok (.istore 6, 2) := dk_U1 a_Rd_join_23 (dko_54 _) rfl
theorem d_Rd_join_25 : decode b_Rd_join 25 = .ok (.iload_n 1, 1) := dk_0 a_Rd_join_25 (dko_27 _)
theorem d_Rd_join_26 : decode b_Rd_join 26 = .ok (.bipush 42, 2) := dk_S1 a_Rd_join_26 (dko_16 _) (by decide +kernel)
theorem d_Rd_join_28 : decode b_Rd_join 28 = .ok (.if_icmp .ne 30, 3) := dk_S2 a_Rd_join_28 (dko_160 _) (by decide +kernel)
theorem d_Rd_join_31 : decode b_Rd_join 31 = .ok (.iload_n 3, 1) := dk_0 a_Rd_join_31 (dko_29 _)
theorem d_Rd_join_32 : decode b_Rd_join 32 = .ok (.ifCond .eq 8, 3) := dk_S2 a_Rd_join_32 (dko_153 _) (by decide +kernel)
theorem d_Rd_join_35 : decode b_Rd_join 35 = .ok (.iload 4, 2) := dk_U1 a_Rd_join_35 (dko_21 _) rfl
theorem d_Rd_join_37 : decode b_Rd_join 37 = .ok (.ifCond .ne 7, 3) := dk_S2 a_Rd_join_37 (dko_154 _) (by decide +kernel)
theorem d_Rd_join_40 : decode b_Rd_join 40 = .ok (.iconst 1, 1) := dk_0 a_Rd_join_40 (dko_4 _)
theorem d_Rd_join_41 : decode b_Rd_join 41 = .ok (.goto 4, 3) := dk_S2 a_Rd_join_41 (dko_167 _) (by decide +kernel)
theorem d_Rd_join_44 : decode b_Rd_join 44 = .ok (.iconst 0, 1) := dk_0 a_Rd_join_44 (dko_3 _)
theorem d_Rd_join_45 : decode b_Rd_join 45 = .ok (.istore 5, 2) := dk_U1 a_Rd_join_45 (dko_54 _) rfl
theorem d_Rd_join_47 : decode b_Rd_join 47 = .ok (.iload_n 3, 1) := dk_0 a_Rd_join_47 (dko_29 _)
theorem d_Rd_join_48 : decode b_Rd_join 48 = .ok (.iload 4, 2) := dk_U1 a_Rd_join_48 (dko_21 _) rfl
theorem d_Rd_join_50 : decode b_Rd_join 50 = .ok (.invokestatic 99, 3) := dk_U2 a_Rd_join_50 (dko_184 _) rfl
theorem d_Rd_join_53 : decode b_Rd_join 53 = .ok (.istore 6, 2) := dk_U1 a_Rd_join_53 (dko_54 _) rfl
theorem d_Rd_join_55 : decode b_Rd_join 55 = .ok (.goto 39, 3) := dk_S2 a_Rd_join_55 (dko_167 _) (by decide +kernel)
theorem d_Rd_join_58 : decode b_Rd_join 58 = .ok (.iload_n 1, 1) := dk_0 a_Rd_join_58 (dko_27 _)
theorem d_Rd_join_59 : decode b_Rd_join 59 = .ok (.bipush 47, 2) := dk_S1 a_Rd_join_59 (dko_16 _) (by decide +kernel)
theorem d_Rd_join_61 : decode b_Rd_join 61 = .ok (.if_icmp .ne 33, 3) := dk_S2 a_Rd_join_61 (dko_160 _) (by decide +kernel)
theorem d_Rd_join_64 : decode b_Rd_join 64 = .ok (.iload_n 3, 1) := dk_0 a_Rd_join_64 (dko_29 _)
theorem d_Rd_join_65 : decode b_Rd_join 65 = .ok (.iload 4, 2) := dk_U1 a_Rd_join_65 (dko_21 _) rfl
theorem d_Rd_join_67 : decode b_Rd_join 67 = .ok (.if_icmp .eq 8, 3) := dk_S2 a_Rd_join_67 (dko_159 _) (by decide +kernel)
theorem d_Rd_join_70 : decode b_Rd_join 70 = .ok (.iload 4, 2) := dk_U1 a_Rd_join_70 (dko_21 _) rfl
theorem d_Rd_join_72 : decode b_Rd_join 72 = .ok (.ifCond .ne 7, 3) := dk_S2 a_Rd_join_72 (dko_154 _) (by decide +kernel)
theorem d_Rd_join_75 : decode b_Rd_join 75 = .ok (.iconst 1, 1) := dk_0 a_Rd_join_75 (dko_4 _)
theorem d_Rd_join_76 : decode b_Rd_join 76 = .ok (.goto 4, 3) := dk_S2 a_Rd_join_76 (dko_167 _) (by decide +kernel)
theorem d_Rd_join_79 : decode b_Rd_join 79 = .ok (.iconst 0, 1) := dk_0 a_Rd_join_79 (dko_3 _)
theorem d_Rd_join_80 : decode b_Rd_join 80 = .ok (.istore 5, 2) := dk_U1 a_Rd_join_80 (dko_54 _) rfl
theorem d_Rd_join_82 : decode b_Rd_join 82 = .ok (.iload 4, 2) := dk_U1 a_Rd_join_82 (dko_21 _) rfl
theorem d_Rd_join_84 : decode b_Rd_join 84 = .ok (.ifCond .ne 7, 3) := dk_S2 a_Rd_join_84 (dko_154 _) (by decide +kernel)
theorem d_Rd_join_87 : decode b_Rd_join 87 = .ok (.iload_n 3, 1) := dk_0 a_Rd_join_87 (dko_29 _)
theorem d_Rd_join_88 : decode b_Rd_join 88 = .ok (.goto 4, 3) := dk_S2 a_Rd_join_88 (dko_167 _) (by decide +kernel)
theorem d_Rd_join_91 : decode b_Rd_join 91 = .ok (.iconst 0, 1) := dk_0 a_Rd_join_91 (dko_3 _)
theorem d_Rd_join_92 : decode b_Rd_join 92 = .ok (.istore 6, 2) := dk_U1 a_Rd_join_92 (dko_54 _) rfl
theorem d_Rd_join_94 : decode b_Rd_join 94 = .ok (.iload 5, 2) := dk_U1 a_Rd_join_94 (dko_21 _) rfl
theorem d_Rd_join_96 : decode b_Rd_join 96 = .ok (.ifCond .ne 10, 3) := dk_S2 a_Rd_join_96 (dko_154 _) (by decide +kernel)
theorem d_Rd_join_99 : decode b_Rd_join 99 = .ok (.aload_n 0, 1) := dk_0 a_Rd_join_99 (dko_42 _)
theorem d_Rd_join_100 : decode b_Rd_join 100 = .ok (.iload_n 2, 1) := dk_0 a_Rd_join_100 (dko_28 _)
theorem d_Rd_join_101 : decode b_Rd_join 101 = .ok (.putfield 60, 3) := dk_U2 a_Rd_join_101 (dko_181 _) rfl
theorem d_Rd_join_104 : decode b_Rd_join 104 = .ok (.iconst 0, 1) := dk_0 a_Rd_join_104 (dko_3 _)
theorem d_Rd_join_105 : decode b_Rd_join 105 = .ok (.ireturn, 1) := dk_0 a_Rd_join_105 (dko_172 _)
theorem d_Rd_join_106 : decode b_Rd_join 106 = .ok (.aload_n 0, 1) := dk_0 a_Rd_join_106 (dko_42 _)
theorem d_Rd_join_107 : decode b_Rd_join 107 = .ok (.iload_n 1, 1) := dk_0 a_Rd_join_107 (dko_27 _)
theorem d_Rd_join_108 : decode b_Rd_join 108 = .ok (.iconst 0, 1) := dk_0 a_Rd_join_108 (dko_3 _)
theorem d_Rd_join_109 : decode b_Rd_join 109 = .ok (.invokevirtual 79, 3) := dk_U2 a_Rd_join_109 (dko_182 _) rfl
theorem d_Rd_join_112 : decode b_Rd_join 112 = .ok (.pop, 1) := dk_0 a_Rd_join_112 (dko_87 _)
theorem d_Rd_join_113 : decode b_Rd_join 113 = .ok (.iload 6, 2) := dk_U1 a_Rd_join_113 (dko_21 _) rfl
theorem d_Rd_join_115 : decode b_Rd_join 115 = .ok (.ireturn, 1) := dk_0 a_Rd_join_115 (dko_172 _)
set_option maxHeartbeats 4000000 in
set_option maxRecDepth 100000 in
theorem ok_Rd_join (pc : Nat) : OpS mt mi_Rd_join pc (cs_Rd_join pc) := (os_n (os_n (os_n (os_n (os_n (os_l (so_aload_n d_Rd_join_0 rfl)) (os_n (os_l (so_get (C := R_Rd) (T := F_Rd) (N := 13) (j := 9) in_Rd rfl (by decide) mw_645 d_Rd_join_1)) (os_l (so_iflt d_Rd_join_4 (by decide))))) (os_n (os_n (os_l (so_iconst d_Rd_join_7 (by decide))) (os_l (so_ireturn rfl d_Rd_join_8))) (os_n (os_l (so_iload_n d_Rd_join_9 rfl)) (os_l (so_iload d_Rd_join_10))))) (os_n (os_n (os_n (os_l (so_icne d_Rd_join_12 (by decide))) (os_l (so_iconst d_Rd_join_15 (by decide)))) (os_n (os_l (so_goto d_Rd_join_16 (by decide))) (os_l (so_iconst d_Rd_join_19 (by decide))))) (os_n (os_n (os_l (so_istore d_Rd_join_20 (by decide))) (os_l (so_iload_n d_Rd_join_22 rfl))) (os_n (os_l (so_istore d_Rd_join_23 (by decide))) (os_l (so_iload_n d_Rd_join_25 rfl)))))) (os_n (os_n (os_n (os_n (os_l (so_bipush d_Rd_join_26 (by decide))) (os_l (so_icne d_Rd_join_28 (by decide)))) (os_n (os_l (so_iload_n d_Rd_join_31 rfl)) (os_l (so_ifeq d_Rd_join_32 (by decide))))) (os_n (os_n (os_l (so_iload d_Rd_join_35)) (os_l (so_ifne d_Rd_join_37 (by decide)))) (os_n (os_l (so_iconst d_Rd_join_40 (by decide))) (os_l (so_goto d_Rd_join_41 (by decide)))))) (os_n (os_n (os_n (os_l (so_iconst d_Rd_join_44 (by decide))) (os_l (so_istore d_Rd_join_45 (by decide)))) (os_n (os_l (so_iload_n d_Rd_join_47 rfl)) (os_l (so_iload d_Rd_join_48)))) (os_n (os_n (os_l (so_callS (iv := mi_Ma_max) rfl mw_972 mw_973 mw_21 mw_974 ⟨by decide +kernel, by decide +kernel, by decide +kernel⟩ (by decide) d_Rd_join_50)) (os_l (so_istore d_Rd_join_53 (by decide)))) (os_n (os_l (so_goto d_Rd_join_55 (by decide))) (os_l (so_iload_n d_Rd_join_58 rfl))))))) (os_n (os_n (os_n (os_n (os_l (so_bipush d_Rd_join_59 (by decide))) (os_n (os_l (so_icne d_Rd_join_61 (by decide))) (os_l (so_iload_n d_Rd_join_64 rfl)))) (os_n (os_n (os_l (so_iload d_Rd_join_65)) (os_l (so_iceq d_Rd_join_67 (by decide)))) (os_n (os_l (so_iload d_Rd_join_70)) (os_l (so_ifne d_Rd_join_72 (by decide)))))) (os_n (os_n (os_n (os_l (so_iconst d_Rd_join_75 (by decide))) (os_l (so_goto d_Rd_join_76 (by decide)))) (os_n (os_l (so_iconst d_Rd_join_79 (by decide))) (os_l (so_istore d_Rd_join_80 (by decide))))) (os_n (os_n (os_l (so_iload d_Rd_join_82)) (os_l (so_ifne d_Rd_join_84 (by decide)))) (os_n (os_l (so_iload_n d_Rd_join_87 rfl)) (os_l (so_goto d_Rd_join_88 (by decide))))))) (os_n (os_n (os_n (os_n (os_l (so_iconst d_Rd_join_91 (by decide))) (os_l (so_istore d_Rd_join_92 (by decide)))) (os_n (os_l (so_iload d_Rd_join_94)) (os_l (so_ifne d_Rd_join_96 (by decide))))) (os_n (os_n (os_l (so_aload_n d_Rd_join_99 rfl)) (os_l (so_iload_n d_Rd_join_100 rfl))) (os_n (os_l (so_putI (C := R_Rd) (T := F_Rd) (N := 13) (j := 9) in_Rd t_Rd_ok n_Rd rfl (by decide) mw_645 rfl (by decide +kernel) d_Rd_join_101)) (os_l (so_iconst d_Rd_join_104 (by decide)))))) (os_n (os_n (os_n (os_l (so_ireturn rfl d_Rd_join_105)) (os_l (so_aload_n d_Rd_join_106 rfl))) (os_n (os_l (so_iload_n d_Rd_join_107 rfl)) (os_l (so_iconst d_Rd_join_108 (by decide))))) (os_n (os_n (os_l (so_callV (iv := mi_Rd_makeNode) rfl rfl rfl mw_958 mw_960 sl_32 mw_13 mw_961 ⟨by decide +kernel, by decide +kernel, by decide +kernel⟩ (by decide) d_Rd_join_109)) (os_l (so_pop d_Rd_join_112))) (os_n (os_l (so_iload d_Rd_join_113)) (os_l (so_ireturn rfl d_Rd_join_115))))))))
abbrev t_Rd_readFactor_335 : List UInt8 := 172 :: []
abbrev t_Rd_readFactor_333 : List UInt8 := 21 :: 6 :: t_Rd_readFactor_335
abbrev t_Rd_readFactor_330 : List UInt8 := 181 :: 0 :: 57 :: t_Rd_readFactor_333
abbrev t_Rd_readFactor_329 : List UInt8 := 100 :: t_Rd_readFactor_330
abbrev t_Rd_readFactor_328 : List UInt8 := 4 :: t_Rd_readFactor_329
abbrev t_Rd_readFactor_325 : List UInt8 := 180 :: 0 :: 57 :: t_Rd_readFactor_328
abbrev t_Rd_readFactor_324 : List UInt8 := 89 :: t_Rd_readFactor_325
abbrev t_Rd_readFactor_323 : List UInt8 := 42 :: t_Rd_readFactor_324
abbrev t_Rd_readFactor_320 : List UInt8 := 182 :: 0 :: 108 :: t_Rd_readFactor_323
abbrev t_Rd_readFactor_319 : List UInt8 := 42 :: t_Rd_readFactor_320
abbrev t_Rd_readFactor_316 : List UInt8 := 167 :: 0 :: 7 :: t_Rd_readFactor_319
abbrev t_Rd_readFactor_313 : List UInt8 := 182 :: 0 :: 63 :: t_Rd_readFactor_316
abbrev t_Rd_readFactor_312 : List UInt8 := 42 :: t_Rd_readFactor_313
abbrev t_Rd_readFactor_309 : List UInt8 := 160 :: 0 :: 10 :: t_Rd_readFactor_312
abbrev t_Rd_readFactor_307 : List UInt8 := 16 :: 41 :: t_Rd_readFactor_309
abbrev t_Rd_readFactor_304 : List UInt8 := 180 :: 0 :: 66 :: t_Rd_readFactor_307
abbrev t_Rd_readFactor_303 : List UInt8 := 42 :: t_Rd_readFactor_304
abbrev t_Rd_readFactor_300 : List UInt8 := 167 :: 0 :: 23 :: t_Rd_readFactor_303
abbrev t_Rd_readFactor_299 : List UInt8 := 87 :: t_Rd_readFactor_300
abbrev t_Rd_readFactor_296 : List UInt8 := 182 :: 0 :: 79 :: t_Rd_readFactor_299
abbrev t_Rd_readFactor_295 : List UInt8 := 3 :: t_Rd_readFactor_296
abbrev t_Rd_readFactor_293 : List UInt8 := 16 :: 34 :: t_Rd_readFactor_295
abbrev t_Rd_readFactor_292 : List UInt8 := 42 :: t_Rd_readFactor_293
abbrev t_Rd_readFactor_289 : List UInt8 := 160 :: 0 :: 14 :: t_Rd_readFactor_292
abbrev t_Rd_readFactor_287 : List UInt8 := 16 :: 45 :: t_Rd_readFactor_289
abbrev t_Rd_readFactor_286 : List UInt8 := 27 :: t_Rd_readFactor_287
abbrev t_Rd_readFactor_284 : List UInt8 := 54 :: 6 :: t_Rd_readFactor_286
abbrev t_Rd_readFactor_281 : List UInt8 := 182 :: 0 :: 209 :: t_Rd_readFactor_284
abbrev t_Rd_readFactor_280 : List UInt8 := 4 :: t_Rd_readFactor_281
abbrev t_Rd_readFactor_279 : List UInt8 := 42 :: t_Rd_readFactor_280
abbrev t_Rd_readFactor_276 : List UInt8 := 167 :: 0 :: 8 :: t_Rd_readFactor_279
abbrev t_Rd_readFactor_273 : List UInt8 := 182 :: 0 :: 228 :: t_Rd_readFactor_276
abbrev t_Rd_readFactor_272 : List UInt8 := 42 :: t_Rd_readFactor_273
abbrev t_Rd_readFactor_269 : List UInt8 := 160 :: 0 :: 10 :: t_Rd_readFactor_272
abbrev t_Rd_readFactor_267 : List UInt8 := 16 :: 45 :: t_Rd_readFactor_269
abbrev t_Rd_readFactor_266 : List UInt8 := 27 :: t_Rd_readFactor_267
abbrev t_Rd_readFactor_263 : List UInt8 := 181 :: 0 :: 57 :: t_Rd_readFactor_266
abbrev t_Rd_readFactor_262 : List UInt8 := 96 :: t_Rd_readFactor_263
abbrev t_Rd_readFactor_261 : List UInt8 := 4 :: t_Rd_readFactor_262
abbrev t_Rd_readFactor_258 : List UInt8 := 180 :: 0 :: 57 :: t_Rd_readFactor_261
abbrev t_Rd_readFactor_257 : List UInt8 := 89 :: t_Rd_readFactor_258
abbrev t_Rd_readFactor_256 : List UInt8 := 42 :: t_Rd_readFactor_257
abbrev t_Rd_readFactor_255 : List UInt8 := 172 :: t_Rd_readFactor_256
abbrev t_Rd_readFactor_254 : List UInt8 := 46 :: t_Rd_readFactor_255
abbrev t_Rd_readFactor_253 : List UInt8 := 28 :: t_Rd_readFactor_254
abbrev t_Rd_readFactor_250 : List UInt8 := 180 :: 0 :: 212 :: t_Rd_readFactor_253
abbrev t_Rd_readFactor_247 : List UInt8 := 180 :: 0 :: 44 :: t_Rd_readFactor_250
abbrev t_Rd_readFactor_246 : List UInt8 := 42 :: t_Rd_readFactor_247
abbrev t_Rd_readFactor_245 : List UInt8 := 87 :: t_Rd_readFactor_246
abbrev t_Rd_readFactor_242 : List UInt8 := 182 :: 0 :: 79 :: t_Rd_readFactor_245
abbrev t_Rd_readFactor_241 : List UInt8 := 28 :: t_Rd_readFactor_242
abbrev t_Rd_readFactor_239 : List UInt8 := 16 :: 30 :: t_Rd_readFactor_241
abbrev t_Rd_readFactor_238 : List UInt8 := 42 :: t_Rd_readFactor_239
abbrev t_Rd_readFactor_235 : List UInt8 := 160 :: 0 :: 21 :: t_Rd_readFactor_238
abbrev t_Rd_readFactor_233 : List UInt8 := 16 :: 30 :: t_Rd_readFactor_235
abbrev t_Rd_readFactor_232 : List UInt8 := 27 :: t_Rd_readFactor_233
abbrev t_Rd_readFactor_231 : List UInt8 := 172 :: t_Rd_readFactor_232
abbrev t_Rd_readFactor_229 : List UInt8 := 21 :: 6 :: t_Rd_readFactor_231
abbrev t_Rd_readFactor_228 : List UInt8 := 80 :: t_Rd_readFactor_229
abbrev t_Rd_readFactor_226 : List UInt8 := 22 :: 4 :: t_Rd_readFactor_228
abbrev t_Rd_readFactor_223 : List UInt8 := 182 :: 0 :: 79 :: t_Rd_readFactor_226
abbrev t_Rd_readFactor_222 : List UInt8 := 3 :: t_Rd_readFactor_223
abbrev t_Rd_readFactor_220 : List UInt8 := 16 :: 31 :: t_Rd_readFactor_222
abbrev t_Rd_readFactor_219 : List UInt8 := 42 :: t_Rd_readFactor_220
abbrev t_Rd_readFactor_216 : List UInt8 := 180 :: 0 :: 247 :: t_Rd_readFactor_219
abbrev t_Rd_readFactor_213 : List UInt8 := 180 :: 0 :: 44 :: t_Rd_readFactor_216
abbrev t_Rd_readFactor_212 : List UInt8 := 42 :: t_Rd_readFactor_213
abbrev t_Rd_readFactor_209 : List UInt8 := 182 :: 0 :: 63 :: t_Rd_readFactor_212
abbrev t_Rd_readFactor_208 : List UInt8 := 42 :: t_Rd_readFactor_209
abbrev t_Rd_readFactor_205 : List UInt8 := 158 :: 0 :: 7 :: t_Rd_readFactor_208
abbrev t_Rd_readFactor_203 : List UInt8 := 21 :: 6 :: t_Rd_readFactor_205
abbrev t_Rd_readFactor_201 : List UInt8 := 54 :: 6 :: t_Rd_readFactor_203
abbrev t_Rd_readFactor_200 : List UInt8 := 3 :: t_Rd_readFactor_201
abbrev t_Rd_readFactor_197 : List UInt8 := 167 :: 0 :: 4 :: t_Rd_readFactor_200
abbrev t_Rd_readFactor_194 : List UInt8 := 180 :: 0 :: 66 :: t_Rd_readFactor_197
abbrev t_Rd_readFactor_193 : List UInt8 := 42 :: t_Rd_readFactor_194
abbrev t_Rd_readFactor_190 : List UInt8 := 163 :: 0 :: 10 :: t_Rd_readFactor_193
abbrev t_Rd_readFactor_189 : List UInt8 := 8 :: t_Rd_readFactor_190
abbrev t_Rd_readFactor_186 : List UInt8 := 180 :: 0 :: 66 :: t_Rd_readFactor_189
abbrev t_Rd_readFactor_185 : List UInt8 := 42 :: t_Rd_readFactor_186
abbrev t_Rd_readFactor_182 : List UInt8 := 161 :: 0 :: 18 :: t_Rd_readFactor_185
abbrev t_Rd_readFactor_181 : List UInt8 := 4 :: t_Rd_readFactor_182
abbrev t_Rd_readFactor_178 : List UInt8 := 180 :: 0 :: 66 :: t_Rd_readFactor_181
abbrev t_Rd_readFactor_177 : List UInt8 := 42 :: t_Rd_readFactor_178
abbrev t_Rd_readFactor_174 : List UInt8 := 167 :: 0 :: 27 :: t_Rd_readFactor_177
abbrev t_Rd_readFactor_173 : List UInt8 := 6 :: t_Rd_readFactor_174
abbrev t_Rd_readFactor_170 : List UInt8 := 160 :: 0 :: 7 :: t_Rd_readFactor_173
abbrev t_Rd_readFactor_168 : List UInt8 := 16 :: 7 :: t_Rd_readFactor_170
abbrev t_Rd_readFactor_165 : List UInt8 := 180 :: 0 :: 66 :: t_Rd_readFactor_168
abbrev t_Rd_readFactor_164 : List UInt8 := 42 :: t_Rd_readFactor_165
abbrev t_Rd_readFactor_161 : List UInt8 := 159 :: 0 :: 12 :: t_Rd_readFactor_164
abbrev t_Rd_readFactor_159 : List UInt8 := 16 :: 6 :: t_Rd_readFactor_161
abbrev t_Rd_readFactor_156 : List UInt8 := 180 :: 0 :: 66 :: t_Rd_readFactor_159
abbrev t_Rd_readFactor_155 : List UInt8 := 42 :: t_Rd_readFactor_156
abbrev t_Rd_readFactor_154 : List UInt8 := 172 :: t_Rd_readFactor_155
abbrev t_Rd_readFactor_153 : List UInt8 := 3 :: t_Rd_readFactor_154
abbrev t_Rd_readFactor_150 : List UInt8 := 182 :: 0 :: 108 :: t_Rd_readFactor_153
abbrev t_Rd_readFactor_149 : List UInt8 := 42 :: t_Rd_readFactor_150
abbrev t_Rd_readFactor_146 : List UInt8 := 158 :: 0 :: 9 :: t_Rd_readFactor_149
abbrev t_Rd_readFactor_145 : List UInt8 := 148 :: t_Rd_readFactor_146
abbrev t_Rd_readFactor_142 : List UInt8 := 20 :: 0 :: 245 :: t_Rd_readFactor_145
abbrev t_Rd_readFactor_140 : List UInt8 := 22 :: 4 :: t_Rd_readFactor_142
abbrev t_Rd_readFactor_138 : List UInt8 := 55 :: 4 :: t_Rd_readFactor_140
abbrev t_Rd_readFactor_137 : List UInt8 := 105 :: t_Rd_readFactor_138
abbrev t_Rd_readFactor_136 : List UInt8 := 10 :: t_Rd_readFactor_137
abbrev t_Rd_readFactor_133 : List UInt8 := 167 :: 0 :: 4 :: t_Rd_readFactor_136
abbrev t_Rd_readFactor_130 : List UInt8 := 20 :: 0 :: 243 :: t_Rd_readFactor_133
abbrev t_Rd_readFactor_127 : List UInt8 := 160 :: 0 :: 9 :: t_Rd_readFactor_130
abbrev t_Rd_readFactor_125 : List UInt8 := 16 :: 7 :: t_Rd_readFactor_127
abbrev t_Rd_readFactor_122 : List UInt8 := 180 :: 0 :: 66 :: t_Rd_readFactor_125
abbrev t_Rd_readFactor_121 : List UInt8 := 42 :: t_Rd_readFactor_122
abbrev t_Rd_readFactor_118 : List UInt8 := 167 :: 0 :: 19 :: t_Rd_readFactor_121
abbrev t_Rd_readFactor_115 : List UInt8 := 20 :: 0 :: 241 :: t_Rd_readFactor_118
abbrev t_Rd_readFactor_112 : List UInt8 := 160 :: 0 :: 9 :: t_Rd_readFactor_115
abbrev t_Rd_readFactor_110 : List UInt8 := 16 :: 6 :: t_Rd_readFactor_112
abbrev t_Rd_readFactor_107 : List UInt8 := 180 :: 0 :: 66 :: t_Rd_readFactor_110
abbrev t_Rd_readFactor_106 : List UInt8 := 42 :: t_Rd_readFactor_107
abbrev t_Rd_readFactor_104 : List UInt8 := 22 :: 4 :: t_Rd_readFactor_106
abbrev t_Rd_readFactor_101 : List UInt8 := 160 :: 0 :: 131 :: t_Rd_readFactor_104
abbrev t_Rd_readFactor_99 : List UInt8 := 16 :: 31 :: t_Rd_readFactor_101
abbrev t_Rd_readFactor_98 : List UInt8 := 27 :: t_Rd_readFactor_99
abbrev t_Rd_readFactor_95 : List UInt8 := 182 :: 0 :: 63 :: t_Rd_readFactor_98
abbrev t_Rd_readFactor_94 : List UInt8 := 42 :: t_Rd_readFactor_95
abbrev t_Rd_readFactor_92 : List UInt8 := 55 :: 4 :: t_Rd_readFactor_94
abbrev t_Rd_readFactor_89 : List UInt8 := 180 :: 0 :: 147 :: t_Rd_readFactor_92
abbrev t_Rd_readFactor_88 : List UInt8 := 42 :: t_Rd_readFactor_89
abbrev t_Rd_readFactor_87 : List UInt8 := 172 :: t_Rd_readFactor_88
abbrev t_Rd_readFactor_86 : List UInt8 := 3 :: t_Rd_readFactor_87
abbrev t_Rd_readFactor_83 : List UInt8 := 182 :: 0 :: 108 :: t_Rd_readFactor_86
abbrev t_Rd_readFactor_82 : List UInt8 := 42 :: t_Rd_readFactor_83
abbrev t_Rd_readFactor_79 : List UInt8 := 154 :: 0 :: 9 :: t_Rd_readFactor_82
abbrev t_Rd_readFactor_76 : List UInt8 := 182 :: 0 :: 238 :: t_Rd_readFactor_79
abbrev t_Rd_readFactor_75 : List UInt8 := 28 :: t_Rd_readFactor_76
abbrev t_Rd_readFactor_72 : List UInt8 := 180 :: 0 :: 44 :: t_Rd_readFactor_75
abbrev t_Rd_readFactor_71 : List UInt8 := 42 :: t_Rd_readFactor_72
abbrev t_Rd_readFactor_68 : List UInt8 := 154 :: 0 :: 20 :: t_Rd_readFactor_71
abbrev t_Rd_readFactor_67 : List UInt8 := 29 :: t_Rd_readFactor_68
abbrev t_Rd_readFactor_64 : List UInt8 := 159 :: 0 :: 24 :: t_Rd_readFactor_67
abbrev t_Rd_readFactor_62 : List UInt8 := 16 :: 31 :: t_Rd_readFactor_64
abbrev t_Rd_readFactor_61 : List UInt8 := 27 :: t_Rd_readFactor_62
abbrev t_Rd_readFactor_58 : List UInt8 := 156 :: 0 :: 24 :: t_Rd_readFactor_61
abbrev t_Rd_readFactor_55 : List UInt8 := 180 :: 0 :: 60 :: t_Rd_readFactor_58
abbrev t_Rd_readFactor_54 : List UInt8 := 42 :: t_Rd_readFactor_55
abbrev t_Rd_readFactor_53 : List UInt8 := 62 :: t_Rd_readFactor_54
abbrev t_Rd_readFactor_52 : List UInt8 := 3 :: t_Rd_readFactor_53
abbrev t_Rd_readFactor_49 : List UInt8 := 167 :: 0 :: 4 :: t_Rd_readFactor_52
abbrev t_Rd_readFactor_48 : List UInt8 := 4 :: t_Rd_readFactor_49
abbrev t_Rd_readFactor_45 : List UInt8 := 162 :: 0 :: 7 :: t_Rd_readFactor_48
abbrev t_Rd_readFactor_43 : List UInt8 := 16 :: 20 :: t_Rd_readFactor_45
abbrev t_Rd_readFactor_40 : List UInt8 := 180 :: 0 :: 57 :: t_Rd_readFactor_43
abbrev t_Rd_readFactor_39 : List UInt8 := 42 :: t_Rd_readFactor_40
abbrev t_Rd_readFactor_36 : List UInt8 := 160 :: 0 :: 16 :: t_Rd_readFactor_39
abbrev t_Rd_readFactor_34 : List UInt8 := 16 :: 45 :: t_Rd_readFactor_36
abbrev t_Rd_readFactor_33 : List UInt8 := 27 :: t_Rd_readFactor_34
abbrev t_Rd_readFactor_30 : List UInt8 := 159 :: 0 :: 9 :: t_Rd_readFactor_33
abbrev t_Rd_readFactor_28 : List UInt8 := 16 :: 40 :: t_Rd_readFactor_30
abbrev t_Rd_readFactor_27 : List UInt8 := 27 :: t_Rd_readFactor_28
abbrev t_Rd_readFactor_26 : List UInt8 := 61 :: t_Rd_readFactor_27
abbrev t_Rd_readFactor_25 : List UInt8 := 2 :: t_Rd_readFactor_26
abbrev t_Rd_readFactor_22 : List UInt8 := 167 :: 0 :: 4 :: t_Rd_readFactor_25
abbrev t_Rd_readFactor_19 : List UInt8 := 182 :: 0 :: 178 :: t_Rd_readFactor_22
abbrev t_Rd_readFactor_16 : List UInt8 := 180 :: 0 :: 143 :: t_Rd_readFactor_19
abbrev t_Rd_readFactor_15 : List UInt8 := 42 :: t_Rd_readFactor_16
abbrev t_Rd_readFactor_12 : List UInt8 := 180 :: 0 :: 44 :: t_Rd_readFactor_15
abbrev t_Rd_readFactor_11 : List UInt8 := 42 :: t_Rd_readFactor_12
abbrev t_Rd_readFactor_8 : List UInt8 := 160 :: 0 :: 17 :: t_Rd_readFactor_11
abbrev t_Rd_readFactor_6 : List UInt8 := 16 :: 30 :: t_Rd_readFactor_8
abbrev t_Rd_readFactor_5 : List UInt8 := 27 :: t_Rd_readFactor_6
abbrev t_Rd_readFactor_4 : List UInt8 := 60 :: t_Rd_readFactor_5
abbrev t_Rd_readFactor_1 : List UInt8 := 180 :: 0 :: 66 :: t_Rd_readFactor_4
abbrev t_Rd_readFactor_0 : List UInt8 := 42 :: t_Rd_readFactor_1
theorem a_Rd_readFactor_0 : dk_at b_Rd_readFactor 0 t_Rd_readFactor_0 := dk_start (by decide +kernel)
theorem a_Rd_readFactor_1 : dk_at b_Rd_readFactor 1 t_Rd_readFactor_1 := dk_go 1 a_Rd_readFactor_0 rfl
theorem a_Rd_readFactor_4 : dk_at b_Rd_readFactor 4 t_Rd_readFactor_4 := dk_go 3 a_Rd_readFactor_1 rfl
theorem a_Rd_readFactor_5 : dk_at b_Rd_readFactor 5 t_Rd_readFactor_5 := dk_go 1 a_Rd_readFactor_4 rfl
theorem a_Rd_readFactor_6 : dk_at b_Rd_readFactor 6 t_Rd_readFactor_6 := dk_go 1 a_Rd_readFactor_5 rfl
theorem a_Rd_readFactor_8 : dk_at b_Rd_readFactor 8 t_Rd_readFactor_8 := dk_go 2 a_Rd_readFactor_6 rfl
theorem a_Rd_readFactor_11 : dk_at b_Rd_readFactor 11 t_Rd_readFactor_11 := dk_go 3 a_Rd_readFactor_8 rfl
theorem a_Rd_readFactor_12 : dk_at b_Rd_readFactor 12 t_Rd_readFactor_12 := dk_go 1 a_Rd_readFactor_11 rfl
theorem a_Rd_readFactor_15 : dk_at b_Rd_readFactor 15 t_Rd_readFactor_15 := dk_go 3 a_Rd_readFactor_12 rfl
theorem a_Rd_readFactor_16 : dk_at b_Rd_readFactor 16 t_Rd_readFactor_16 := dk_go 1 a_Rd_readFactor_15 rfl
theorem a_Rd_readFactor_19 : dk_at b_Rd_readFactor 19 t_Rd_readFactor_19 := dk_go 3 a_Rd_readFactor_16 rfl
theorem a_Rd_readFactor_22 : dk_at b_Rd_readFactor 22 t_Rd_readFactor_22 := dk_go 3 a_Rd_readFactor_19 rfl
theorem a_Rd_readFactor_25 : dk_at b_Rd_readFactor 25 t_Rd_readFactor_25 := dk_go 3 a_Rd_readFactor_22 rfl
theorem a_Rd_readFactor_26 : dk_at b_Rd_readFactor 26 t_Rd_readFactor_26 := dk_go 1 a_Rd_readFactor_25 rfl
theorem a_Rd_readFactor_27 : dk_at b_Rd_readFactor 27 t_Rd_readFactor_27 := dk_go 1 a_Rd_readFactor_26 rfl
theorem a_Rd_readFactor_28 : dk_at b_Rd_readFactor 28 t_Rd_readFactor_28 := dk_go 1 a_Rd_readFactor_27 rfl
theorem a_Rd_readFactor_30 : dk_at b_Rd_readFactor 30 t_Rd_readFactor_30 := dk_go 2 a_Rd_readFactor_28 rfl
theorem a_Rd_readFactor_33 : dk_at b_Rd_readFactor 33 t_Rd_readFactor_33 := dk_go 3 a_Rd_readFactor_30 rfl
theorem a_Rd_readFactor_34 : dk_at b_Rd_readFactor 34 t_Rd_readFactor_34 := dk_go 1 a_Rd_readFactor_33 rfl
theorem a_Rd_readFactor_36 : dk_at b_Rd_readFactor 36 t_Rd_readFactor_36 := dk_go 2 a_Rd_readFactor_34 rfl
theorem a_Rd_readFactor_39 : dk_at b_Rd_readFactor 39 t_Rd_readFactor_39 := dk_go 3 a_Rd_readFactor_36 rfl
theorem a_Rd_readFactor_40 : dk_at b_Rd_readFactor 40 t_Rd_readFactor_40 := dk_go 1 a_Rd_readFactor_39 rfl
theorem a_Rd_readFactor_43 : dk_at b_Rd_readFactor 43 t_Rd_readFactor_43 := dk_go 3 a_Rd_readFactor_40 rfl
theorem a_Rd_readFactor_45 : dk_at b_Rd_readFactor 45 t_Rd_readFactor_45 := dk_go 2 a_Rd_readFactor_43 rfl
theorem a_Rd_readFactor_48 : dk_at b_Rd_readFactor 48 t_Rd_readFactor_48 := dk_go 3 a_Rd_readFactor_45 rfl
theorem a_Rd_readFactor_49 : dk_at b_Rd_readFactor 49 t_Rd_readFactor_49 := dk_go 1 a_Rd_readFactor_48 rfl
theorem a_Rd_readFactor_52 : dk_at b_Rd_readFactor 52 t_Rd_readFactor_52 := dk_go 3 a_Rd_readFactor_49 rfl
theorem a_Rd_readFactor_53 : dk_at b_Rd_readFactor 53 t_Rd_readFactor_53 := dk_go 1 a_Rd_readFactor_52 rfl
theorem a_Rd_readFactor_54 : dk_at b_Rd_readFactor 54 t_Rd_readFactor_54 := dk_go 1 a_Rd_readFactor_53 rfl
theorem a_Rd_readFactor_55 : dk_at b_Rd_readFactor 55 t_Rd_readFactor_55 := dk_go 1 a_Rd_readFactor_54 rfl
theorem a_Rd_readFactor_58 : dk_at b_Rd_readFactor 58 t_Rd_readFactor_58 := dk_go 3 a_Rd_readFactor_55 rfl
theorem a_Rd_readFactor_61 : dk_at b_Rd_readFactor 61 t_Rd_readFactor_61 := dk_go 3 a_Rd_readFactor_58 rfl
theorem a_Rd_readFactor_62 : dk_at b_Rd_readFactor 62 t_Rd_readFactor_62 := dk_go 1 a_Rd_readFactor_61 rfl
theorem a_Rd_readFactor_64 : dk_at b_Rd_readFactor 64 t_Rd_readFactor_64 := dk_go 2 a_Rd_readFactor_62 rfl
theorem a_Rd_readFactor_67 : dk_at b_Rd_readFactor 67 t_Rd_readFactor_67 := dk_go 3 a_Rd_readFactor_64 rfl
theorem a_Rd_readFactor_68 : dk_at b_Rd_readFactor 68 t_Rd_readFactor_68 := dk_go 1 a_Rd_readFactor_67 rfl
theorem a_Rd_readFactor_71 : dk_at b_Rd_readFactor 71 t_Rd_readFactor_71 := dk_go 3 a_Rd_readFactor_68 rfl
theorem a_Rd_readFactor_72 : dk_at b_Rd_readFactor 72 t_Rd_readFactor_72 := dk_go 1 a_Rd_readFactor_71 rfl
theorem a_Rd_readFactor_75 : dk_at b_Rd_readFactor 75 t_Rd_readFactor_75 := dk_go 3 a_Rd_readFactor_72 rfl
theorem a_Rd_readFactor_76 : dk_at b_Rd_readFactor 76 t_Rd_readFactor_76 := dk_go 1 a_Rd_readFactor_75 rfl
theorem a_Rd_readFactor_79 : dk_at b_Rd_readFactor 79 t_Rd_readFactor_79 := dk_go 3 a_Rd_readFactor_76 rfl
theorem a_Rd_readFactor_82 : dk_at b_Rd_readFactor 82 t_Rd_readFactor_82 := dk_go 3 a_Rd_readFactor_79 rfl
theorem a_Rd_readFactor_83 : dk_at b_Rd_readFactor 83 t_Rd_readFactor_83 := dk_go 1 a_Rd_readFactor_82 rfl
theorem a_Rd_readFactor_86 : dk_at b_Rd_readFactor 86 t_Rd_readFactor_86 := dk_go 3 a_Rd_readFactor_83 rfl
theorem a_Rd_readFactor_87 : dk_at b_Rd_readFactor 87 t_Rd_readFactor_87 := dk_go 1 a_Rd_readFactor_86 rfl
theorem a_Rd_readFactor_88 : dk_at b_Rd_readFactor 88 t_Rd_readFactor_88 := dk_go 1 a_Rd_readFactor_87 rfl
theorem a_Rd_readFactor_89 : dk_at b_Rd_readFactor 89 t_Rd_readFactor_89 := dk_go 1 a_Rd_readFactor_88 rfl
theorem a_Rd_readFactor_92 : dk_at b_Rd_readFactor 92 t_Rd_readFactor_92 := dk_go 3 a_Rd_readFactor_89 rfl
theorem a_Rd_readFactor_94 : dk_at b_Rd_readFactor 94 t_Rd_readFactor_94 := dk_go 2 a_Rd_readFactor_92 rfl
theorem a_Rd_readFactor_95 : dk_at b_Rd_readFactor 95 t_Rd_readFactor_95 := dk_go 1 a_Rd_readFactor_94 rfl
theorem a_Rd_readFactor_98 : dk_at b_Rd_readFactor 98 t_Rd_readFactor_98 := dk_go 3 a_Rd_readFactor_95 rfl
theorem a_Rd_readFactor_99 : dk_at b_Rd_readFactor 99 t_Rd_readFactor_99 := dk_go 1 a_Rd_readFactor_98 rfl
theorem a_Rd_readFactor_101 : dk_at b_Rd_readFactor 101 t_Rd_readFactor_101 := dk_go 2 a_Rd_readFactor_99 rfl
theorem a_Rd_readFactor_104 : dk_at b_Rd_readFactor 104 t_Rd_readFactor_104 := dk_go 3 a_Rd_readFactor_101 rfl
theorem a_Rd_readFactor_106 : dk_at b_Rd_readFactor 106 t_Rd_readFactor_106 := dk_go 2 a_Rd_readFactor_104 rfl
theorem a_Rd_readFactor_107 : dk_at b_Rd_readFactor 107 t_Rd_readFactor_107 := dk_go 1 a_Rd_readFactor_106 rfl
theorem a_Rd_readFactor_110 : dk_at b_Rd_readFactor 110 t_Rd_readFactor_110 := dk_go 3 a_Rd_readFactor_107 rfl
theorem a_Rd_readFactor_112 : dk_at b_Rd_readFactor 112 t_Rd_readFactor_112 := dk_go 2 a_Rd_readFactor_110 rfl
theorem a_Rd_readFactor_115 : dk_at b_Rd_readFactor 115 t_Rd_readFactor_115 := dk_go 3 a_Rd_readFactor_112 rfl
theorem a_Rd_readFactor_118 : dk_at b_Rd_readFactor 118 t_Rd_readFactor_118 := dk_go 3 a_Rd_readFactor_115 rfl
theorem a_Rd_readFactor_121 : dk_at b_Rd_readFactor 121 t_Rd_readFactor_121 := dk_go 3 a_Rd_readFactor_118 rfl
theorem a_Rd_readFactor_122 : dk_at b_Rd_readFactor 122 t_Rd_readFactor_122 := dk_go 1 a_Rd_readFactor_121 rfl
theorem a_Rd_readFactor_125 : dk_at b_Rd_readFactor 125 t_Rd_readFactor_125 := dk_go 3 a_Rd_readFactor_122 rfl
theorem a_Rd_readFactor_127 : dk_at b_Rd_readFactor 127 t_Rd_readFactor_127 := dk_go 2 a_Rd_readFactor_125 rfl
theorem a_Rd_readFactor_130 : dk_at b_Rd_readFactor 130 t_Rd_readFactor_130 := dk_go 3 a_Rd_readFactor_127 rfl
theorem a_Rd_readFactor_133 : dk_at b_Rd_readFactor 133 t_Rd_readFactor_133 := dk_go 3 a_Rd_readFactor_130 rfl
theorem a_Rd_readFactor_136 : dk_at b_Rd_readFactor 136 t_Rd_readFactor_136 := dk_go 3 a_Rd_readFactor_133 rfl
theorem a_Rd_readFactor_137 : dk_at b_Rd_readFactor 137 t_Rd_readFactor_137 := dk_go 1 a_Rd_readFactor_136 rfl
theorem a_Rd_readFactor_138 : dk_at b_Rd_readFactor 138 t_Rd_readFactor_138 := dk_go 1 a_Rd_readFactor_137 rfl
theorem a_Rd_readFactor_140 : dk_at b_Rd_readFactor 140 t_Rd_readFactor_140 := dk_go 2 a_Rd_readFactor_138 rfl
theorem a_Rd_readFactor_142 : dk_at b_Rd_readFactor 142 t_Rd_readFactor_142 := dk_go 2 a_Rd_readFactor_140 rfl
theorem a_Rd_readFactor_145 : dk_at b_Rd_readFactor 145 t_Rd_readFactor_145 := dk_go 3 a_Rd_readFactor_142 rfl
theorem a_Rd_readFactor_146 : dk_at b_Rd_readFactor 146 t_Rd_readFactor_146 := dk_go 1 a_Rd_readFactor_145 rfl
theorem a_Rd_readFactor_149 : dk_at b_Rd_readFactor 149 t_Rd_readFactor_149 := dk_go 3 a_Rd_readFactor_146 rfl
theorem a_Rd_readFactor_150 : dk_at b_Rd_readFactor 150 t_Rd_readFactor_150 := dk_go 1 a_Rd_readFactor_149 rfl
theorem a_Rd_readFactor_153 : dk_at b_Rd_readFactor 153 t_Rd_readFactor_153 := dk_go 3 a_Rd_readFactor_150 rfl
theorem a_Rd_readFactor_154 : dk_at b_Rd_readFactor 154 t_Rd_readFactor_154 := dk_go 1 a_Rd_readFactor_153 rfl
theorem a_Rd_readFactor_155 : dk_at b_Rd_readFactor 155 t_Rd_readFactor_155 := dk_go 1 a_Rd_readFactor_154 rfl
theorem a_Rd_readFactor_156 : dk_at b_Rd_readFactor 156 t_Rd_readFactor_156 := dk_go 1 a_Rd_readFactor_155 rfl
theorem a_Rd_readFactor_159 : dk_at b_Rd_readFactor 159 t_Rd_readFactor_159 := dk_go 3 a_Rd_readFactor_156 rfl
theorem a_Rd_readFactor_161 : dk_at b_Rd_readFactor 161 t_Rd_readFactor_161 := dk_go 2 a_Rd_readFactor_159 rfl
theorem a_Rd_readFactor_164 : dk_at b_Rd_readFactor 164 t_Rd_readFactor_164 := dk_go 3 a_Rd_readFactor_161 rfl
theorem a_Rd_readFactor_165 : dk_at b_Rd_readFactor 165 t_Rd_readFactor_165 := dk_go 1 a_Rd_readFactor_164 rfl
theorem a_Rd_readFactor_168 : dk_at b_Rd_readFactor 168 t_Rd_readFactor_168 := dk_go 3 a_Rd_readFactor_165 rfl
theorem a_Rd_readFactor_170 : dk_at b_Rd_readFactor 170 t_Rd_readFactor_170 := dk_go 2 a_Rd_readFactor_168 rfl
theorem a_Rd_readFactor_173 : dk_at b_Rd_readFactor 173 t_Rd_readFactor_173 := dk_go 3 a_Rd_readFactor_170 rfl
theorem a_Rd_readFactor_174 : dk_at b_Rd_readFactor 174 t_Rd_readFactor_174 := dk_go 1 a_Rd_readFactor_173 rfl
theorem a_Rd_readFactor_177 : dk_at b_Rd_readFactor 177 t_Rd_readFactor_177 := dk_go 3 a_Rd_readFactor_174 rfl
theorem a_Rd_readFactor_178 : dk_at b_Rd_readFactor 178 t_Rd_readFactor_178 := dk_go 1 a_Rd_readFactor_177 rfl
theorem a_Rd_readFactor_181 : dk_at b_Rd_readFactor 181 t_Rd_readFactor_181 := dk_go 3 a_Rd_readFactor_178 rfl
theorem a_Rd_readFactor_182 : dk_at b_Rd_readFactor 182 t_Rd_readFactor_182 := dk_go 1 a_Rd_readFactor_181 rfl
theorem a_Rd_readFactor_185 : dk_at b_Rd_readFactor 185 t_Rd_readFactor_185 := dk_go 3 a_Rd_readFactor_182 rfl
theorem a_Rd_readFactor_186 : dk_at b_Rd_readFactor 186 t_Rd_readFactor_186 := dk_go 1 a_Rd_readFactor_185 rfl
theorem a_Rd_readFactor_189 : dk_at b_Rd_readFactor 189 t_Rd_readFactor_189 := dk_go 3 a_Rd_readFactor_186 rfl
theorem a_Rd_readFactor_190 : dk_at b_Rd_readFactor 190 t_Rd_readFactor_190 := dk_go 1 a_Rd_readFactor_189 rfl
theorem a_Rd_readFactor_193 : dk_at b_Rd_readFactor 193 t_Rd_readFactor_193 := dk_go 3 a_Rd_readFactor_190 rfl
theorem a_Rd_readFactor_194 : dk_at b_Rd_readFactor 194 t_Rd_readFactor_194 := dk_go 1 a_Rd_readFactor_193 rfl
theorem a_Rd_readFactor_197 : dk_at b_Rd_readFactor 197 t_Rd_readFactor_197 := dk_go 3 a_Rd_readFactor_194 rfl
theorem a_Rd_readFactor_200 : dk_at b_Rd_readFactor 200 t_Rd_readFactor_200 := dk_go 3 a_Rd_readFactor_197 rfl
theorem a_Rd_readFactor_201 : dk_at b_Rd_readFactor 201 t_Rd_readFactor_201 := dk_go 1 a_Rd_readFactor_200 rfl
theorem a_Rd_readFactor_203 : dk_at b_Rd_readFactor 203 t_Rd_readFactor_203 := dk_go 2 a_Rd_readFactor_201 rfl
theorem a_Rd_readFactor_205 : dk_at b_Rd_readFactor 205 t_Rd_readFactor_205 := dk_go 2 a_Rd_readFactor_203 rfl
theorem a_Rd_readFactor_208 : dk_at b_Rd_readFactor 208 t_Rd_readFactor_208 := dk_go 3 a_Rd_readFactor_205 rfl
theorem a_Rd_readFactor_209 : dk_at b_Rd_readFactor 209 t_Rd_readFactor_209 := dk_go 1 a_Rd_readFactor_208 rfl
theorem a_Rd_readFactor_212 : dk_at b_Rd_readFactor 212 t_Rd_readFactor_212 := dk_go 3 a_Rd_readFactor_209 rfl
theorem a_Rd_readFactor_213 : dk_at b_Rd_readFactor 213 t_Rd_readFactor_213 := dk_go 1 a_Rd_readFactor_212 rfl
theorem a_Rd_readFactor_216 : dk_at b_Rd_readFactor 216 t_Rd_readFactor_216 := dk_go 3 a_Rd_readFactor_213 rfl
theorem a_Rd_readFactor_219 : dk_at b_Rd_readFactor 219 t_Rd_readFactor_219 := dk_go 3 a_Rd_readFactor_216 rfl
theorem a_Rd_readFactor_220 : dk_at b_Rd_readFactor 220 t_Rd_readFactor_220 := dk_go 1 a_Rd_readFactor_219 rfl
theorem a_Rd_readFactor_222 : dk_at b_Rd_readFactor 222 t_Rd_readFactor_222 := dk_go 2 a_Rd_readFactor_220 rfl
theorem a_Rd_readFactor_223 : dk_at b_Rd_readFactor 223 t_Rd_readFactor_223 := dk_go 1 a_Rd_readFactor_222 rfl
theorem a_Rd_readFactor_226 : dk_at b_Rd_readFactor 226 t_Rd_readFactor_226 := dk_go 3 a_Rd_readFactor_223 rfl
theorem a_Rd_readFactor_228 : dk_at b_Rd_readFactor 228 t_Rd_readFactor_228 := dk_go 2 a_Rd_readFactor_226 rfl
theorem a_Rd_readFactor_229 : dk_at b_Rd_readFactor 229 t_Rd_readFactor_229 := dk_go 1 a_Rd_readFactor_228 rfl
theorem a_Rd_readFactor_231 : dk_at b_Rd_readFactor 231 t_Rd_readFactor_231 := dk_go 2 a_Rd_readFactor_229 rfl
theorem a_Rd_readFactor_232 : dk_at b_Rd_readFactor 232 t_Rd_readFactor_232 := dk_go 1 a_Rd_readFactor_231 rfl
theorem a_Rd_readFactor_233 : dk_at b_Rd_readFactor 233 t_Rd_readFactor_233 := dk_go 1 a_Rd_readFactor_232 rfl
theorem a_Rd_readFactor_235 : dk_at b_Rd_readFactor 235 t_Rd_readFactor_235 := dk_go 2 a_Rd_readFactor_233 rfl
theorem a_Rd_readFactor_238 : dk_at b_Rd_readFactor 238 t_Rd_readFactor_238 := dk_go 3 a_Rd_readFactor_235 rfl
theorem a_Rd_readFactor_239 : dk_at b_Rd_readFactor 239 t_Rd_readFactor_239 := dk_go 1 a_Rd_readFactor_238 rfl
theorem a_Rd_readFactor_241 : dk_at b_Rd_readFactor 241 t_Rd_readFactor_241 := dk_go 2 a_Rd_readFactor_239 rfl
theorem a_Rd_readFactor_242 : dk_at b_Rd_readFactor 242 t_Rd_readFactor_242 := dk_go 1 a_Rd_readFactor_241 rfl
theorem a_Rd_readFactor_245 : dk_at b_Rd_readFactor 245 t_Rd_readFactor_245 := dk_go 3 a_Rd_readFactor_242 rfl
theorem a_Rd_readFactor_246 : dk_at b_Rd_readFactor 246 t_Rd_readFactor_246 := dk_go 1 a_Rd_readFactor_245 rfl
theorem a_Rd_readFactor_247 : dk_at b_Rd_readFactor 247 t_Rd_readFactor_247 := dk_go 1 a_Rd_readFactor_246 rfl
theorem a_Rd_readFactor_250 : dk_at b_Rd_readFactor 250 t_Rd_readFactor_250 := dk_go 3 a_Rd_readFactor_247 rfl
theorem a_Rd_readFactor_253 : dk_at b_Rd_readFactor 253 t_Rd_readFactor_253 := dk_go 3 a_Rd_readFactor_250 rfl
theorem a_Rd_readFactor_254 : dk_at b_Rd_readFactor 254 t_Rd_readFactor_254 := dk_go 1 a_Rd_readFactor_253 rfl
theorem a_Rd_readFactor_255 : dk_at b_Rd_readFactor 255 t_Rd_readFactor_255 := dk_go 1 a_Rd_readFactor_254 rfl
theorem a_Rd_readFactor_256 : dk_at b_Rd_readFactor 256 t_Rd_readFactor_256 := dk_go 1 a_Rd_readFactor_255 rfl
theorem a_Rd_readFactor_257 : dk_at b_Rd_readFactor 257 t_Rd_readFactor_257 := dk_go 1 a_Rd_readFactor_256 rfl
theorem a_Rd_readFactor_258 : dk_at b_Rd_readFactor 258 t_Rd_readFactor_258 := dk_go 1 a_Rd_readFactor_257 rfl
theorem a_Rd_readFactor_261 : dk_at b_Rd_readFactor 261 t_Rd_readFactor_261 := dk_go 3 a_Rd_readFactor_258 rfl
theorem a_Rd_readFactor_262 : dk_at b_Rd_readFactor 262 t_Rd_readFactor_262 := dk_go 1 a_Rd_readFactor_261 rfl
theorem a_Rd_readFactor_263 : dk_at b_Rd_readFactor 263 t_Rd_readFactor_263 := dk_go 1 a_Rd_readFactor_262 rfl
theorem a_Rd_readFactor_266 : dk_at b_Rd_readFactor 266 t_Rd_readFactor_266 := dk_go 3 a_Rd_readFactor_263 rfl
theorem a_Rd_readFactor_267 : dk_at b_Rd_readFactor 267 t_Rd_readFactor_267 := dk_go 1 a_Rd_readFactor_266 rfl
theorem a_Rd_readFactor_269 : dk_at b_Rd_readFactor 269 t_Rd_readFactor_269 := dk_go 2 a_Rd_readFactor_267 rfl
theorem a_Rd_readFactor_272 : dk_at b_Rd_readFactor 272 t_Rd_readFactor_272 := dk_go 3 a_Rd_readFactor_269 rfl
theorem a_Rd_readFactor_273 : dk_at b_Rd_readFactor 273 t_Rd_readFactor_273 := dk_go 1 a_Rd_readFactor_272 rfl
theorem a_Rd_readFactor_276 : dk_at b_Rd_readFactor 276 t_Rd_readFactor_276 := dk_go 3 a_Rd_readFactor_273 rfl
theorem a_Rd_readFactor_279 : dk_at b_Rd_readFactor 279 t_Rd_readFactor_279 := dk_go 3 a_Rd_readFactor_276 rfl
theorem a_Rd_readFactor_280 : dk_at b_Rd_readFactor 280 t_Rd_readFactor_280 := dk_go 1 a_Rd_readFactor_279 rfl
theorem a_Rd_readFactor_281 : dk_at b_Rd_readFactor 281 t_Rd_readFactor_281 := dk_go 1 a_Rd_readFactor_280 rfl
theorem a_Rd_readFactor_284 : dk_at b_Rd_readFactor 284 t_Rd_readFactor_284 := dk_go 3 a_Rd_readFactor_281 rfl
theorem a_Rd_readFactor_286 : dk_at b_Rd_readFactor 286 t_Rd_readFactor_286 := dk_go 2 a_Rd_readFactor_284 rfl
theorem a_Rd_readFactor_287 : dk_at b_Rd_readFactor 287 t_Rd_readFactor_287 := dk_go 1 a_Rd_readFactor_286 rfl
theorem a_Rd_readFactor_289 : dk_at b_Rd_readFactor 289 t_Rd_readFactor_289 := dk_go 2 a_Rd_readFactor_287 rfl
theorem a_Rd_readFactor_292 : dk_at b_Rd_readFactor 292 t_Rd_readFactor_292 := dk_go 3 a_Rd_readFactor_289 rfl
theorem a_Rd_readFactor_293 : dk_at b_Rd_readFactor 293 t_Rd_readFactor_293 := dk_go 1 a_Rd_readFactor_292 rfl
theorem a_Rd_readFactor_295 : dk_at b_Rd_readFactor 295 t_Rd_readFactor_295 := dk_go 2 a_Rd_readFactor_293 rfl
theorem a_Rd_readFactor_296 : dk_at b_Rd_readFactor 296 t_Rd_readFactor_296 := dk_go 1 a_Rd_readFactor_295 rfl
theorem a_Rd_readFactor_299 : dk_at b_Rd_readFactor 299 t_Rd_readFactor_299 := dk_go 3 a_Rd_readFactor_296 rfl
theorem a_Rd_readFactor_300 : dk_at b_Rd_readFactor 300 t_Rd_readFactor_300 := dk_go 1 a_Rd_readFactor_299 rfl
theorem a_Rd_readFactor_303 : dk_at b_Rd_readFactor 303 t_Rd_readFactor_303 := dk_go 3 a_Rd_readFactor_300 rfl
theorem a_Rd_readFactor_304 : dk_at b_Rd_readFactor 304 t_Rd_readFactor_304 := dk_go 1 a_Rd_readFactor_303 rfl
theorem a_Rd_readFactor_307 : dk_at b_Rd_readFactor 307 t_Rd_readFactor_307 := dk_go 3 a_Rd_readFactor_304 rfl
theorem a_Rd_readFactor_309 : dk_at b_Rd_readFactor 309 t_Rd_readFactor_309 := dk_go 2 a_Rd_readFactor_307 rfl
theorem a_Rd_readFactor_312 : dk_at b_Rd_readFactor 312 t_Rd_readFactor_312 := dk_go 3 a_Rd_readFactor_309 rfl
theorem a_Rd_readFactor_313 : dk_at b_Rd_readFactor 313 t_Rd_readFactor_313 := dk_go 1 a_Rd_readFactor_312 rfl
theorem a_Rd_readFactor_316 : dk_at b_Rd_readFactor 316 t_Rd_readFactor_316 := dk_go 3 a_Rd_readFactor_313 rfl
theorem a_Rd_readFactor_319 : dk_at b_Rd_readFactor 319 t_Rd_readFactor_319 := dk_go 3 a_Rd_readFactor_316 rfl
theorem a_Rd_readFactor_320 : dk_at b_Rd_readFactor 320 t_Rd_readFactor_320 := dk_go 1 a_Rd_readFactor_319 rfl
theorem a_Rd_readFactor_323 : dk_at b_Rd_readFactor 323 t_Rd_readFactor_323 := dk_go 3 a_Rd_readFactor_320 rfl
theorem a_Rd_readFactor_324 : dk_at b_Rd_readFactor 324 t_Rd_readFactor_324 := dk_go 1 a_Rd_readFactor_323 rfl
theorem a_Rd_readFactor_325 : dk_at b_Rd_readFactor 325 t_Rd_readFactor_325 := dk_go 1 a_Rd_readFactor_324 rfl
theorem a_Rd_readFactor_328 : dk_at b_Rd_readFactor 328 t_Rd_readFactor_328 := dk_go 3 a_Rd_readFactor_325 rfl
theorem a_Rd_readFactor_329 : dk_at b_Rd_readFactor 329 t_Rd_readFactor_329 := dk_go 1 a_Rd_readFactor_328 rfl
theorem a_Rd_readFactor_330 : dk_at b_Rd_readFactor 330 t_Rd_readFactor_330 := dk_go 1 a_Rd_readFactor_329 rfl
theorem a_Rd_readFactor_333 : dk_at b_Rd_readFactor 333 t_Rd_readFactor_333 := dk_go 3 a_Rd_readFactor_330 rfl
theorem a_Rd_readFactor_335 : dk_at b_Rd_readFactor 335 t_Rd_readFactor_335 := dk_go 2 a_Rd_readFactor_333 rfl
theorem d_Rd_readFactor_0 : decode b_Rd_readFactor 0 = .ok (.aload_n 0, 1) := dk_0 a_Rd_readFactor_0 (dko_42 _)
theorem d_Rd_readFactor_1 : decode b_Rd_readFactor 1 = .ok (.getfield 66, 3) := dk_U2 a_Rd_readFactor_1 (dko_180 _) rfl
theorem d_Rd_readFactor_4 : decode b_Rd_readFactor 4 = .ok (.istore_n 1, 1) := dk_0 a_Rd_readFactor_4 (dko_60 _)
theorem d_Rd_readFactor_5 : decode b_Rd_readFactor 5 = .ok (.iload_n 1, 1) := dk_0 a_Rd_readFactor_5 (dko_27 _)
theorem d_Rd_readFactor_6 : decode b_Rd_readFactor 6 = .ok (.bipush 30, 2) := dk_S1 a_Rd_readFactor_6 (dko_16 _) (by decide +kernel)
theorem d_Rd_readFactor_8 : decode b_Rd_readFactor 8 = .ok (.if_icmp .ne 17, 3) := dk_S2 a_Rd_readFactor_8 (dko_160 _) (by decide +kernel)
theorem d_Rd_readFactor_11 : decode b_Rd_readFactor 11 = .ok (.aload_n 0, 1) := dk_0 a_Rd_readFactor_11 (dko_42 _)
theorem d_Rd_readFactor_12 : decode b_Rd_readFactor 12 = .ok (.getfield 44, 3) := dk_U2 a_Rd_readFactor_12 (dko_180 _) rfl
theorem d_Rd_readFactor_15 : decode b_Rd_readFactor 15 = .ok (.aload_n 0, 1) := dk_0 a_Rd_readFactor_15 (dko_42 _)
theorem d_Rd_readFactor_16 : decode b_Rd_readFactor 16 = .ok (.getfield 143, 3) := dk_U2 a_Rd_readFactor_16 (dko_180 _) rfl
theorem d_Rd_readFactor_19 : decode b_Rd_readFactor 19 = .ok (.invokevirtual 178, 3) := dk_U2 a_Rd_readFactor_19 (dko_182 _) rfl
theorem d_Rd_readFactor_22 : decode b_Rd_readFactor 22 = .ok (.goto 4, 3) := dk_S2 a_Rd_readFactor_22 (dko_167 _) (by decide +kernel)
theorem d_Rd_readFactor_25 : decode b_Rd_readFactor 25 = .ok (.iconst (-1), 1) := dk_0 a_Rd_readFactor_25 (dko_2 _)
theorem d_Rd_readFactor_26 : decode b_Rd_readFactor 26 = .ok (.istore_n 2, 1) := dk_0 a_Rd_readFactor_26 (dko_61 _)
theorem d_Rd_readFactor_27 : decode b_Rd_readFactor 27 = .ok (.iload_n 1, 1) := dk_0 a_Rd_readFactor_27 (dko_27 _)
theorem d_Rd_readFactor_28 : decode b_Rd_readFactor 28 = .ok (.bipush 40, 2) := dk_S1 a_Rd_readFactor_28 (dko_16 _) (by decide +kernel)
theorem d_Rd_readFactor_30 : decode b_Rd_readFactor 30 = .ok (.if_icmp .eq 9, 3) := dk_S2 a_Rd_readFactor_30 (dko_159 _) (by decide +kernel)
theorem d_Rd_readFactor_33 : decode b_Rd_readFactor 33 = .ok (.iload_n 1, 1) := dk_0 a_Rd_readFactor_33 (dko_27 _)
theorem d_Rd_readFactor_34 : decode b_Rd_readFactor 34 = .ok (.bipush 45, 2) := dk_S1 a_Rd_readFactor_34 (dko_16 _) (by decide +kernel)
theorem d_Rd_readFactor_36 : decode b_Rd_readFactor 36 = .ok (.if_icmp .ne 16, 3) := dk_S2 a_Rd_readFactor_36 (dko_160 _) (by decide +kernel)
theorem d_Rd_readFactor_39 : decode b_Rd_readFactor 39 = .ok (.aload_n 0, 1) := dk_0 a_Rd_readFactor_39 (dko_42 _)
theorem d_Rd_readFactor_40 : decode b_Rd_readFactor 40 = .ok (.getfield 57, 3) := dk_U2 a_Rd_readFactor_40 (dko_180 _) rfl
theorem d_Rd_readFactor_43 : decode b_Rd_readFactor 43 = .ok (.bipush 20, 2) := dk_S1 a_Rd_readFactor_43 (dko_16 _) (by decide +kernel)
theorem d_Rd_readFactor_45 : decode b_Rd_readFactor 45 = .ok (.if_icmp .ge 7, 3) := dk_S2 a_Rd_readFactor_45 (dko_162 _) (by decide +kernel)
theorem d_Rd_readFactor_48 : decode b_Rd_readFactor 48 = .ok (.iconst 1, 1) := dk_0 a_Rd_readFactor_48 (dko_4 _)
theorem d_Rd_readFactor_49 : decode b_Rd_readFactor 49 = .ok (.goto 4, 3) := dk_S2 a_Rd_readFactor_49 (dko_167 _) (by decide +kernel)
theorem d_Rd_readFactor_52 : decode b_Rd_readFactor 52 = .ok (.iconst 0, 1) := dk_0 a_Rd_readFactor_52 (dko_3 _)
theorem d_Rd_readFactor_53 : decode b_Rd_readFactor 53 = .ok (.istore_n 3, 1) := dk_0 a_Rd_readFactor_53 (dko_62 _)
theorem d_Rd_readFactor_54 : decode b_Rd_readFactor 54 = .ok (.aload_n 0, 1) := dk_0 a_Rd_readFactor_54 (dko_42 _)
theorem d_Rd_readFactor_55 : decode b_Rd_readFactor 55 = .ok (.getfield 60, 3) := dk_U2 a_Rd_readFactor_55 (dko_180 _) rfl
theorem d_Rd_readFactor_58 : decode b_Rd_readFactor 58 = .ok (.ifCond .ge 24, 3) := dk_S2 a_Rd_readFactor_58 (dko_156 _) (by decide +kernel)
theorem d_Rd_readFactor_61 : decode b_Rd_readFactor 61 = .ok (.iload_n 1, 1) := dk_0 a_Rd_readFactor_61 (dko_27 _)
theorem d_Rd_readFactor_62 : decode b_Rd_readFactor 62 = .ok (.bipush 31, 2) := dk_S1 a_Rd_readFactor_62 (dko_16 _) (by decide +kernel)
theorem d_Rd_readFactor_64 : decode b_Rd_readFactor 64 = .ok (.if_icmp .eq 24, 3) := dk_S2 a_Rd_readFactor_64 (dko_159 _) (by decide +kernel)
theorem d_Rd_readFactor_67 : decode b_Rd_readFactor 67 = .ok (.iload_n 3, 1) := dk_0 a_Rd_readFactor_67 (dko_29 _)
theorem d_Rd_readFactor_68 : decode b_Rd_readFactor 68 = .ok (.ifCond .ne 20, 3) := dk_S2 a_Rd_readFactor_68 (dko_154 _) (by decide +kernel)
theorem d_Rd_readFactor_71 : decode b_Rd_readFactor 71 = .ok (.aload_n 0, 1) := dk_0 a_Rd_readFactor_71 (dko_42 _)
theorem d_Rd_readFactor_72 : decode b_Rd_readFactor 72 = .ok (.getfield 44, 3) := dk_U2 a_Rd_readFactor_72 (dko_180 _) rfl
theorem d_Rd_readFactor_75 : decode b_Rd_readFactor 75 = .ok (.iload_n 2, 1) := dk_0 a_Rd_readFactor_75 (dko_28 _)
theorem d_Rd_readFactor_76 : decode b_Rd_readFactor 76 = .ok (.invokevirtual 238, 3) := dk_U2 a_Rd_readFactor_76 (dko_182 _) rfl
theorem d_Rd_readFactor_79 : decode b_Rd_readFactor 79 = .ok (.ifCond .ne 9, 3) := dk_S2 a_Rd_readFactor_79 (dko_154 _) (by decide +kernel)
theorem d_Rd_readFactor_82 : decode b_Rd_readFactor 82 = .ok (.aload_n 0, 1) := dk_0 a_Rd_readFactor_82 (dko_42 _)
theorem d_Rd_readFactor_83 : decode b_Rd_readFactor 83 = .ok (.invokevirtual 108, 3) := dk_U2 a_Rd_readFactor_83 (dko_182 _) rfl
theorem d_Rd_readFactor_86 : decode b_Rd_readFactor 86 = .ok (.iconst 0, 1) := dk_0 a_Rd_readFactor_86 (dko_3 _)
theorem d_Rd_readFactor_87 : decode b_Rd_readFactor 87 = .ok (.ireturn, 1) := dk_0 a_Rd_readFactor_87 (dko_172 _)
theorem d_Rd_readFactor_88 : decode b_Rd_readFactor 88 = .ok (.aload_n 0, 1) := dk_0 a_Rd_readFactor_88 (dko_42 _)
theorem d_Rd_readFactor_89 : decode b_Rd_readFactor 89 = .ok (.getfield 147, 3) := dk_U2 a_Rd_readFactor_89 (dko_180 _) rfl
theorem d_Rd_readFactor_92 : decode b_Rd_readFactor 92 = .ok (.lstore 4, 2) := dk_U1 a_Rd_readFactor_92 (dko_55 _) rfl
theorem d_Rd_readFactor_94 : decode b_Rd_readFactor 94 = .ok (.aload_n 0, 1) := dk_0 a_Rd_readFactor_94 (dko_42 _)
theorem d_Rd_readFactor_95 : decode b_Rd_readFactor 95 = .ok (.invokevirtual 63, 3) := dk_U2 a_Rd_readFactor_95 (dko_182 _) rfl
theorem d_Rd_readFactor_98 : decode b_Rd_readFactor 98 = .ok (.iload_n 1, 1) := dk_0 a_Rd_readFactor_98 (dko_27 _)
theorem d_Rd_readFactor_99 : decode b_Rd_readFactor 99 = .ok (.bipush 31, 2) := dk_S1 a_Rd_readFactor_99 (dko_16 _) (by decide +kernel)
theorem d_Rd_readFactor_101 : decode b_Rd_readFactor 101 = .ok (.if_icmp .ne 131, 3) := dk_S2 a_Rd_readFactor_101 (dko_160 _) (by decide +kernel)
theorem d_Rd_readFactor_104 : decode b_Rd_readFactor 104 = .ok (.lload 4, 2) := dk_U1 a_Rd_readFactor_104 (dko_22 _) rfl
theorem d_Rd_readFactor_106 : decode b_Rd_readFactor 106 = .ok (.aload_n 0, 1) := dk_0 a_Rd_readFactor_106 (dko_42 _)
theorem d_Rd_readFactor_107 : decode b_Rd_readFactor 107 = .ok (.getfield 66, 3) := dk_U2 a_Rd_readFactor_107 (dko_180 _) rfl
theorem d_Rd_readFactor_110 : decode b_Rd_readFactor 110 = .ok (.bipush 6, 2) := dk_S1 a_Rd_readFactor_110 (dko_16 _) (by decide +kernel)
theorem d_Rd_readFactor_112 : decode b_Rd_readFactor 112 = .ok (.if_icmp .ne 9, 3) := dk_S2 a_Rd_readFactor_112 (dko_160 _) (by decide +kernel)
theorem d_Rd_readFactor_115 : decode b_Rd_readFactor 115 = .ok (.ldc2_w 241, 3) := dk_U2 a_Rd_readFactor_115 (dko_20 _) rfl
theorem d_Rd_readFactor_118 : decode b_Rd_readFactor 118 = .ok (.goto 19, 3) := dk_S2 a_Rd_readFactor_118 (dko_167 _) (by decide +kernel)
theorem d_Rd_readFactor_121 : decode b_Rd_readFactor 121 = .ok (.aload_n 0, 1) := dk_0 a_Rd_readFactor_121 (dko_42 _)
theorem d_Rd_readFactor_122 : decode b_Rd_readFactor 122 = .ok (.getfield 66, 3) := dk_U2 a_Rd_readFactor_122 (dko_180 _) rfl
theorem d_Rd_readFactor_125 : decode b_Rd_readFactor 125 = .ok (.bipush 7, 2) := dk_S1 a_Rd_readFactor_125 (dko_16 _) (by decide +kernel)
theorem d_Rd_readFactor_127 : decode b_Rd_readFactor 127 = .ok (.if_icmp .ne 9, 3) := dk_S2 a_Rd_readFactor_127 (dko_160 _) (by decide +kernel)
theorem d_Rd_readFactor_130 : decode b_Rd_readFactor 130 = .ok (.ldc2_w 243, 3) := dk_U2 a_Rd_readFactor_130 (dko_20 _) rfl
theorem d_Rd_readFactor_133 : decode b_Rd_readFactor 133 = .ok (.goto 4, 3) := dk_S2 a_Rd_readFactor_133 (dko_167 _) (by decide +kernel)
theorem d_Rd_readFactor_136 : decode b_Rd_readFactor 136 = .ok (.lconst 1, 1) := dk_0 a_Rd_readFactor_136 (dko_10 _)
theorem d_Rd_readFactor_137 : decode b_Rd_readFactor 137 = .ok (.lmul, 1) := dk_0 a_Rd_readFactor_137 (dko_105 _)
theorem d_Rd_readFactor_138 : decode b_Rd_readFactor 138 = .ok (.lstore 4, 2) := dk_U1 a_Rd_readFactor_138 (dko_55 _) rfl
theorem d_Rd_readFactor_140 : decode b_Rd_readFactor 140 = .ok (.lload 4, 2) := dk_U1 a_Rd_readFactor_140 (dko_22 _) rfl
theorem d_Rd_readFactor_142 : decode b_Rd_readFactor 142 = .ok (.ldc2_w 245, 3) := dk_U2 a_Rd_readFactor_142 (dko_20 _) rfl
theorem d_Rd_readFactor_145 : decode b_Rd_readFactor 145 = .ok (.lcmp, 1) := dk_0 a_Rd_readFactor_145 (dko_148 _)
theorem d_Rd_readFactor_146 : decode b_Rd_readFactor 146 = .ok (.ifCond .le 9, 3) := dk_S2 a_Rd_readFactor_146 (dko_158 _) (by decide +kernel)
theorem d_Rd_readFactor_149 : decode b_Rd_readFactor 149 = .ok (.aload_n 0, 1) := dk_0 a_Rd_readFactor_149 (dko_42 _)
theorem d_Rd_readFactor_150 : decode b_Rd_readFactor 150 = .ok (.invokevirtual 108, 3) := dk_U2 a_Rd_readFactor_150 (dko_182 _) rfl
theorem d_Rd_readFactor_153 : decode b_Rd_readFactor 153 = .ok (.iconst 0, 1) := dk_0 a_Rd_readFactor_153 (dko_3 _)
theorem d_Rd_readFactor_154 : decode b_Rd_readFactor 154 = .ok (.ireturn, 1) := dk_0 a_Rd_readFactor_154 (dko_172 _)
theorem d_Rd_readFactor_155 : decode b_Rd_readFactor 155 = .ok (.aload_n 0, 1) := dk_0 a_Rd_readFactor_155 (dko_42 _)
theorem d_Rd_readFactor_156 : decode b_Rd_readFactor 156 = .ok (.getfield 66, 3) := dk_U2 a_Rd_readFactor_156 (dko_180 _) rfl
theorem d_Rd_readFactor_159 : decode b_Rd_readFactor 159 = .ok (.bipush 6, 2) := dk_S1 a_Rd_readFactor_159 (dko_16 _) (by decide +kernel)
theorem d_Rd_readFactor_161 : decode b_Rd_readFactor 161 = .ok (.if_icmp .eq 12, 3) := dk_S2 a_Rd_readFactor_161 (dko_159 _) (by decide +kernel)
theorem d_Rd_readFactor_164 : decode b_Rd_readFactor 164 = .ok (.aload_n 0, 1) := dk_0 a_Rd_readFactor_164 (dko_42 _)
theorem d_Rd_readFactor_165 : decode b_Rd_readFactor 165 = .ok (.getfield 66, 3) := dk_U2 a_Rd_readFactor_165 (dko_180 _) rfl
theorem d_Rd_readFactor_168 : decode b_Rd_readFactor 168 = .ok (.bipush 7, 2) := dk_S1 a_Rd_readFactor_168 (dko_16 _) (by decide +kernel)
theorem d_Rd_readFactor_170 : decode b_Rd_readFactor 170 = .ok (.if_icmp .ne 7, 3) := dk_S2 a_Rd_readFactor_170 (dko_160 _) (by decide +kernel)
theorem d_Rd_readFactor_173 : decode b_Rd_readFactor 173 = .ok (.iconst 3, 1) := dk_0 a_Rd_readFactor_173 (dko_6 _)
theorem d_Rd_readFactor_174 : decode b_Rd_readFactor 174 = .ok (.goto 27, 3) := dk_S2 a_Rd_readFactor_174 (dko_167 _) (by decide +kernel)
theorem d_Rd_readFactor_177 : decode b_Rd_readFactor 177 = .ok (.aload_n 0, 1) := dk_0 a_Rd_readFactor_177 (dko_42 _)
theorem d_Rd_readFactor_178 : decode b_Rd_readFactor 178 = .ok (.getfield 66, 3) := dk_U2 a_Rd_readFactor_178 (dko_180 _) rfl
theorem d_Rd_readFactor_181 : decode b_Rd_readFactor 181 = .ok (.iconst 1, 1) := dk_0 a_Rd_readFactor_181 (dko_4 _)
theorem d_Rd_readFactor_182 : decode b_Rd_readFactor 182 = .ok (.if_icmp .lt 18, 3) := dk_S2 a_Rd_readFactor_182 (dko_161 _) (by decide +kernel)
theorem d_Rd_readFactor_185 : decode b_Rd_readFactor 185 = .ok (.aload_n 0, 1) := dk_0 a_Rd_readFactor_185 (dko_42 _)
theorem d_Rd_readFactor_186 : decode b_Rd_readFactor 186 = .ok (.getfield 66, 3) := dk_U2 a_Rd_readFactor_186 (dko_180 _) rfl
theorem d_Rd_readFactor_189 : decode b_Rd_readFactor 189 = .ok (.iconst 5, 1) := dk_0 a_Rd_readFactor_189 (dko_8 _)
theorem d_Rd_readFactor_190 : decode b_Rd_readFactor 190 = .ok (.if_icmp .gt 10, 3) := dk_S2 a_Rd_readFactor_190 (dko_163 _) (by decide +kernel)
theorem d_Rd_readFactor_193 : decode b_Rd_readFactor 193 = .ok (.aload_n 0, 1) := dk_0 a_Rd_readFactor_193 (dko_42 _)
theorem d_Rd_readFactor_194 : decode b_Rd_readFactor 194 = .ok (.getfield 66, 3) := dk_U2 a_Rd_readFactor_194 (dko_180 _) rfl
theorem d_Rd_readFactor_197 : decode b_Rd_readFactor 197 = .ok (.goto 4, 3) := dk_S2 a_Rd_readFactor_197 (dko_167 _) (by decide +kernel)
theorem d_Rd_readFactor_200 : decode b_Rd_readFactor 200 = .ok (.iconst 0, 1) := dk_0 a_Rd_readFactor_200 (dko_3 _)
theorem d_Rd_readFactor_201 : decode b_Rd_readFactor 201 = .ok (.istore 6, 2) := dk_U1 a_Rd_readFactor_201 (dko_54 _) rfl
theorem d_Rd_readFactor_203 : decode b_Rd_readFactor 203 = .ok (.iload 6, 2) := dk_U1 a_Rd_readFactor_203 (dko_21 _) rfl
theorem d_Rd_readFactor_205 : decode b_Rd_readFactor 205 = .ok (.ifCond .le 7, 3) := dk_S2 a_Rd_readFactor_205 (dko_158 _) (by decide +kernel)
theorem d_Rd_readFactor_208 : decode b_Rd_readFactor 208 = .ok (.aload_n 0, 1) := dk_0 a_Rd_readFactor_208 (dko_42 _)
theorem d_Rd_readFactor_209 : decode b_Rd_readFactor 209 = .ok (.invokevirtual 63, 3) := dk_U2 a_Rd_readFactor_209 (dko_182 _) rfl
theorem d_Rd_readFactor_212 : decode b_Rd_readFactor 212 = .ok (.aload_n 0, 1) := dk_0 a_Rd_readFactor_212 (dko_42 _)
theorem d_Rd_readFactor_213 : decode b_Rd_readFactor 213 = .ok (.getfield 44, 3) := dk_U2 a_Rd_readFactor_213 (dko_180 _) rfl
theorem d_Rd_readFactor_216 : decode b_Rd_readFactor 216 = .ok (.getfield 247, 3) := dk_U2 a_Rd_readFactor_216 (dko_180 _) rfl
theorem d_Rd_readFactor_219 : decode b_Rd_readFactor 219 = .ok (.aload_n 0, 1) := dk_0 a_Rd_readFactor_219 (dko_42 _)
theorem d_Rd_readFactor_220 : decode b_Rd_readFactor 220 = .ok (.bipush 31, 2) := dk_S1 a_Rd_readFactor_220 (dko_16 _) (by decide +kernel)
theorem d_Rd_readFactor_222 : decode b_Rd_readFactor 222 = .ok (.iconst 0, 1) := dk_0 a_Rd_readFactor_222 (dko_3 _)
theorem d_Rd_readFactor_223 : decode b_Rd_readFactor 223 = .ok (.invokevirtual 79, 3) := dk_U2 a_Rd_readFactor_223 (dko_182 _) rfl
theorem d_Rd_readFactor_226 : decode b_Rd_readFactor 226 = .ok (.lload 4, 2) := dk_U1 a_Rd_readFactor_226 (dko_22 _) rfl
theorem d_Rd_readFactor_228 : decode b_Rd_readFactor 228 = .ok (.lastore, 1) := dk_0 a_Rd_readFactor_228 (dko_80 _)
theorem d_Rd_readFactor_229 : decode b_Rd_readFactor 229 = .ok (.iload 6, 2) := dk_U1 a_Rd_readFactor_229 (dko_21 _) rfl
theorem d_Rd_readFactor_231 : decode b_Rd_readFactor 231 = .ok (.ireturn, 1) := dk_0 a_Rd_readFactor_231 (dko_172 _)
theorem d_Rd_readFactor_232 : decode b_Rd_readFactor 232 = .ok (.iload_n 1, 1) := dk_0 a_Rd_readFactor_232 (dko_27 _)
theorem d_Rd_readFactor_233 : decode b_Rd_readFactor 233 = .ok (.bipush 30, 2) := dk_S1 a_Rd_readFactor_233 (dko_16 _) (by decide +kernel)
theorem d_Rd_readFactor_235 : decode b_Rd_readFactor 235 = .ok (.if_icmp .ne 21, 3) := dk_S2 a_Rd_readFactor_235 (dko_160 _) (by decide +kernel)
theorem d_Rd_readFactor_238 : decode b_Rd_readFactor 238 = .ok (.aload_n 0, 1) := dk_0 a_Rd_readFactor_238 (dko_42 _)
theorem d_Rd_readFactor_239 : decode b_Rd_readFactor 239 = .ok (.bipush 30, 2) := dk_S1 a_Rd_readFactor_239 (dko_16 _) (by decide +kernel)
theorem d_Rd_readFactor_241 : decode b_Rd_readFactor 241 = .ok (.iload_n 2, 1) := dk_0 a_Rd_readFactor_241 (dko_28 _)
theorem d_Rd_readFactor_242 : decode b_Rd_readFactor 242 = .ok (.invokevirtual 79, 3) := dk_U2 a_Rd_readFactor_242 (dko_182 _) rfl
theorem d_Rd_readFactor_245 : decode b_Rd_readFactor 245 = .ok (.pop, 1) := dk_0 a_Rd_readFactor_245 (dko_87 _)
theorem d_Rd_readFactor_246 : decode b_Rd_readFactor 246 = .ok (.aload_n 0, 1) := dk_0 a_Rd_readFactor_246 (dko_42 _)
theorem d_Rd_readFactor_247 : decode b_Rd_readFactor 247 = .ok (.getfield 44, 3) := dk_U2 a_Rd_readFactor_247 (dko_180 _) rfl
theorem d_Rd_readFactor_250 : decode b_Rd_readFactor 250 = .ok (.getfield 212, 3) := dk_U2 a_Rd_readFactor_250 (dko_180 _) rfl
theorem d_Rd_readFactor_253 : decode b_Rd_readFactor 253 = .ok (.iload_n 2, 1) := dk_0 a_Rd_readFactor_253 (dko_28 _)
theorem d_Rd_readFactor_254 : decode b_Rd_readFactor 254 = .ok (.iaload, 1) := dk_0 a_Rd_readFactor_254 (dko_46 _)
theorem d_Rd_readFactor_255 : decode b_Rd_readFactor 255 = .ok (.ireturn, 1) := dk_0 a_Rd_readFactor_255 (dko_172 _)
theorem d_Rd_readFactor_256 : decode b_Rd_readFactor 256 = .ok (.aload_n 0, 1) := dk_0 a_Rd_readFactor_256 (dko_42 _)
theorem d_Rd_readFactor_257 : decode b_Rd_readFactor 257 = .ok (.dup, 1) := dk_0 a_Rd_readFactor_257 (dko_89 _)
theorem d_Rd_readFactor_258 : decode b_Rd_readFactor 258 = .ok (.getfield 57, 3) := dk_U2 a_Rd_readFactor_258 (dko_180 _) rfl
theorem d_Rd_readFactor_261 : decode b_Rd_readFactor 261 = .ok (.iconst 1, 1) := dk_0 a_Rd_readFactor_261 (dko_4 _)
theorem d_Rd_readFactor_262 : decode b_Rd_readFactor 262 = .ok (.iadd, 1) := dk_0 a_Rd_readFactor_262 (dko_96 _)
theorem d_Rd_readFactor_263 : decode b_Rd_readFactor 263 = .ok (.putfield 57, 3) := dk_U2 a_Rd_readFactor_263 (dko_181 _) rfl
theorem d_Rd_readFactor_266 : decode b_Rd_readFactor 266 = .ok (.iload_n 1, 1) := dk_0 a_Rd_readFactor_266 (dko_27 _)
theorem d_Rd_readFactor_267 : decode b_Rd_readFactor 267 = .ok (.bipush 45, 2) := dk_S1 a_Rd_readFactor_267 (dko_16 _) (by decide +kernel)
theorem d_Rd_readFactor_269 : decode b_Rd_readFactor 269 = .ok (.if_icmp .ne 10, 3) := dk_S2 a_Rd_readFactor_269 (dko_160 _) (by decide +kernel)
theorem d_Rd_readFactor_272 : decode b_Rd_readFactor 272 = .ok (.aload_n 0, 1) := dk_0 a_Rd_readFactor_272 (dko_42 _)
theorem d_Rd_readFactor_273 : decode b_Rd_readFactor 273 = .ok (.invokevirtual 228, 3) := dk_U2 a_Rd_readFactor_273 (dko_182 _) rfl
theorem d_Rd_readFactor_276 : decode b_Rd_readFactor 276 = .ok (.goto 8, 3) := dk_S2 a_Rd_readFactor_276 (dko_167 _) (by decide +kernel)
theorem d_Rd_readFactor_279 : decode b_Rd_readFactor 279 = .ok (.aload_n 0, 1) := dk_0 a_Rd_readFactor_279 (dko_42 _)
theorem d_Rd_readFactor_280 : decode b_Rd_readFactor 280 = .ok (.iconst 1, 1) := dk_0 a_Rd_readFactor_280 (dko_4 _)
theorem d_Rd_readFactor_281 : decode b_Rd_readFactor 281 = .ok (.invokevirtual 209, 3) := dk_U2 a_Rd_readFactor_281 (dko_182 _) rfl
theorem d_Rd_readFactor_284 : decode b_Rd_readFactor 284 = .ok (.istore 6, 2) := dk_U1 a_Rd_readFactor_284 (dko_54 _) rfl
theorem d_Rd_readFactor_286 : decode b_Rd_readFactor 286 = .ok (.iload_n 1, 1) := dk_0 a_Rd_readFactor_286 (dko_27 _)
theorem d_Rd_readFactor_287 : decode b_Rd_readFactor 287 = .ok (.bipush 45, 2) := dk_S1 a_Rd_readFactor_287 (dko_16 _) (by decide +kernel)
theorem d_Rd_readFactor_289 : decode b_Rd_readFactor 289 = .ok (.if_icmp .ne 14, 3) := dk_S2 a_Rd_readFactor_289 (dko_160 _) (by decide +kernel)
theorem d_Rd_readFactor_292 : decode b_Rd_readFactor 292 = .ok (.aload_n 0, 1) := dk_0 a_Rd_readFactor_292 (dko_42 _)
theorem d_Rd_readFactor_293 : decode b_Rd_readFactor 293 = .ok (.bipush 34, 2) := dk_S1 a_Rd_readFactor_293 (dko_16 _) (by decide +kernel)
theorem d_Rd_readFactor_295 : decode b_Rd_readFactor 295 = .ok (.iconst 0, 1) := dk_0 a_Rd_readFactor_295 (dko_3 _)
theorem d_Rd_readFactor_296 : decode b_Rd_readFactor 296 = .ok (.invokevirtual 79, 3) := dk_U2 a_Rd_readFactor_296 (dko_182 _) rfl
theorem d_Rd_readFactor_299 : decode b_Rd_readFactor 299 = .ok (.pop, 1) := dk_0 a_Rd_readFactor_299 (dko_87 _)
theorem d_Rd_readFactor_300 : decode b_Rd_readFactor 300 = .ok (.goto 23, 3) := dk_S2 a_Rd_readFactor_300 (dko_167 _) (by decide +kernel)
theorem d_Rd_readFactor_303 : decode b_Rd_readFactor 303 = .ok (.aload_n 0, 1) := dk_0 a_Rd_readFactor_303 (dko_42 _)
theorem d_Rd_readFactor_304 : decode b_Rd_readFactor 304 = .ok (.getfield 66, 3) := dk_U2 a_Rd_readFactor_304 (dko_180 _) rfl
theorem d_Rd_readFactor_307 : decode b_Rd_readFactor 307 = .ok (.bipush 41, 2) := dk_S1 a_Rd_readFactor_307 (dko_16 _) (by decide +kernel)
theorem d_Rd_readFactor_309 : decode b_Rd_readFactor 309 = .ok (.if_icmp .ne 10, 3) := dk_S2 a_Rd_readFactor_309 (dko_160 _) (by decide +kernel)
theorem d_Rd_readFactor_312 : decode b_Rd_readFactor 312 = .ok (.aload_n 0, 1) := dk_0 a_Rd_readFactor_312 (dko_42 _)
theorem d_Rd_readFactor_313 : decode b_Rd_readFactor 313 = .ok (.invokevirtual 63, 3) := dk_U2 a_Rd_readFactor_313 (dko_182 _) rfl
theorem d_Rd_readFactor_316 : decode b_Rd_readFactor 316 = .ok (.goto 7, 3) := dk_S2 a_Rd_readFactor_316 (dko_167 _) (by decide +kernel)
theorem d_Rd_readFactor_319 : decode b_Rd_readFactor 319 = .ok (.aload_n 0, 1) := dk_0 a_Rd_readFactor_319 (dko_42 _)
theorem d_Rd_readFactor_320 : decode b_Rd_readFactor 320 = .ok (.invokevirtual 108, 3) := dk_U2 a_Rd_readFactor_320 (dko_182 _) rfl
theorem d_Rd_readFactor_323 : decode b_Rd_readFactor 323 = .ok (.aload_n 0, 1) := dk_0 a_Rd_readFactor_323 (dko_42 _)
theorem d_Rd_readFactor_324 : decode b_Rd_readFactor 324 = .ok (.dup, 1) := dk_0 a_Rd_readFactor_324 (dko_89 _)
theorem d_Rd_readFactor_325 : decode b_Rd_readFactor 325 = .ok (.getfield 57, 3) := dk_U2 a_Rd_readFactor_325 (dko_180 _) rfl
theorem d_Rd_readFactor_328 : decode b_Rd_readFactor 328 = .ok (.iconst 1, 1) := dk_0 a_Rd_readFactor_328 (dko_4 _)
theorem d_Rd_readFactor_329 : decode b_Rd_readFactor 329 = .ok (.isub, 1) := dk_0 a_Rd_readFactor_329 (dko_100 _)
theorem d_Rd_readFactor_330 : decode b_Rd_readFactor 330 = .ok (.putfield 57, 3) := dk_U2 a_Rd_readFactor_330 (dko_181 _) rfl
theorem d_Rd_readFactor_333 : decode b_Rd_readFactor 333 = .ok (.iload 6, 2) := dk_U1 a_Rd_readFactor_333 (dko_21 _) rfl
theorem d_Rd_readFactor_335 : decode b_Rd_readFactor 335 = .ok (.ireturn, 1) := dk_0 a_Rd_readFactor_335 (dko_172 _)
set_option maxHeartbeats 4000000 in
set_option maxRecDepth 100000 in
theorem ok_Rd_readFactor (pc : Nat) : OpS mt mi_Rd_readFactor pc (cs_Rd_readFactor pc) := (os_n (os_n (os_n (os_n (os_n (os_n (os_n (os_l (so_aload_n d_Rd_readFactor_0 rfl)) (os_l (so_get (C := R_Rd) (T := F_Rd) (N := 13) (j := 3) in_Rd rfl (by decide) mw_639 d_Rd_readFactor_1))) (os_n (os_l (so_istore_n d_Rd_readFactor_4 rfl (by decide))) (os_n (os_l (so_iload_n d_Rd_readFactor_5 rfl)) (os_l (so_bipush d_Rd_readFactor_6 (by decide)))))) (os_n (os_n (os_l (so_icne d_Rd_readFactor_8 (by decide))) (os_l (so_aload_n d_Rd_readFactor_11 rfl))) (os_n (os_l (so_get (C := R_Rd) (T := F_Rd) (N := 13) (j := 1) in_Rd rfl (by decide) mw_637 d_Rd_readFactor_12)) (os_n (os_l (so_aload_n d_Rd_readFactor_15 rfl)) (os_l (so_get (C := R_Rd) (T := F_Rd) (N := 13) (j := 5) in_Rd rfl (by decide) mw_641 d_Rd_readFactor_16)))))) (os_n (os_n (os_n (os_l (so_callV (iv := mi_Pr_find) rfl rfl rfl mw_923 mw_924 mw_925 mw_12 mw_926 ⟨by decide +kernel, by decide +kernel, by decide +kernel⟩ (by decide) d_Rd_readFactor_19)) (os_l (so_goto d_Rd_readFactor_22 (by decide)))) (os_n (os_l (so_iconst d_Rd_readFactor_25 (by decide))) (os_n (os_l (so_istore_n d_Rd_readFactor_26 rfl (by decide))) (os_l (so_iload_n d_Rd_readFactor_27 rfl))))) (os_n (os_n (os_l (so_bipush d_Rd_readFactor_28 (by decide))) (os_n (os_l (so_iceq d_Rd_readFactor_30 (by decide))) (os_l (so_iload_n d_Rd_readFactor_33 rfl)))) (os_n (os_l (so_bipush d_Rd_readFactor_34 (by decide))) (os_n (os_l (so_icne d_Rd_readFactor_36 (by decide))) (os_l (so_aload_n d_Rd_readFactor_39 rfl))))))) (os_n (os_n (os_n (os_n (os_l (so_get (C := R_Rd) (T := F_Rd) (N := 13) (j := 8) in_Rd rfl (by decide) mw_644 d_Rd_readFactor_40)) (os_l (so_bipush d_Rd_readFactor_43 (by decide)))) (os_n (os_l (so_icge d_Rd_readFactor_45 (by decide))) (os_n (os_l (so_iconst d_Rd_readFactor_48 (by decide))) (os_l (so_goto d_Rd_readFactor_49 (by decide)))))) (os_n (os_n (os_l (so_iconst d_Rd_readFactor_52 (by decide))) (os_l (so_istore_n d_Rd_readFactor_53 rfl (by decide)))) (os_n (os_l (so_aload_n d_Rd_readFactor_54 rfl)) (os_n (os_l (so_get (C := R_Rd) (T := F_Rd) (N := 13) (j := 9) in_Rd rfl (by decide) mw_645 d_Rd_readFactor_55)) (os_l (so_ifge d_Rd_readFactor_58 (by decide))))))) (os_n (os_n (os_n (os_l (so_iload_n d_Rd_readFactor_61 rfl)) (os_l (so_bipush d_Rd_readFactor_62 (by decide)))) (os_n (os_l (so_iceq d_Rd_readFactor_64 (by decide))) (os_n (os_l (so_iload_n d_Rd_readFactor_67 rfl)) (os_l (so_ifne d_Rd_readFactor_68 (by decide)))))) (os_n (os_n (os_l (so_aload_n d_Rd_readFactor_71 rfl)) (os_n (os_l (so_get (C := R_Rd) (T := F_Rd) (N := 13) (j := 1) in_Rd rfl (by decide) mw_637 d_Rd_readFactor_72)) (os_l (so_iload_n d_Rd_readFactor_75 rfl)))) (os_n (os_l (so_callV (iv := mi_Pr_hasValue) rfl rfl rfl mw_951 mw_952 mw_953 mw_12 mw_954 ⟨by decide +kernel, by decide +kernel, by decide +kernel⟩ (by decide) d_Rd_readFactor_76)) (os_n (os_l (so_ifne d_Rd_readFactor_79 (by decide))) (os_l (so_aload_n d_Rd_readFactor_82 rfl)))))))) (os_n (os_n (os_n (os_n (os_n (os_l (so_callV (iv := mi_Rd_fail) rfl rfl rfl mw_915 mw_917 sl_24 mw_13 mw_918 ⟨by decide +kernel, by decide +kernel, by decide +kernel⟩ (by decide) d_Rd_readFactor_83)) (os_l (so_iconst d_Rd_readFactor_86 (by decide)))) (os_n (os_l (so_ireturn rfl d_Rd_readFactor_87)) (os_n (os_l (so_aload_n d_Rd_readFactor_88 rfl)) (os_l (so_get (C := R_Rd) (T := F_Rd) (N := 13) (j := 6) in_Rd rfl (by decide) mw_642 d_Rd_readFactor_89))))) (os_n (os_n (os_l (so_lstore d_Rd_readFactor_92 (by decide))) (os_l (so_aload_n d_Rd_readFactor_94 rfl))) (os_n (os_l (so_callV (iv := mi_Rd_nextWord) rfl rfl rfl mw_887 mw_889 sl_20 mw_13 mw_890 ⟨by decide +kernel, by decide +kernel, by decide +kernel⟩ (by decide) d_Rd_readFactor_95)) (os_n (os_l (so_iload_n d_Rd_readFactor_98 rfl)) (os_l (so_bipush d_Rd_readFactor_99 (by decide))))))) (os_n (os_n (os_n (os_l (so_icne d_Rd_readFactor_101 (by decide))) (os_l (so_lload d_Rd_readFactor_104))) (os_n (os_l (so_aload_n d_Rd_readFactor_106 rfl)) (os_n (os_l (so_get (C := R_Rd) (T := F_Rd) (N := 13) (j := 3) in_Rd rfl (by decide) mw_639 d_Rd_readFactor_107)) (os_l (so_bipush d_Rd_readFactor_110 (by decide)))))) (os_n (os_n (os_l (so_icne d_Rd_readFactor_112 (by decide))) (os_n (os_l (so_ldc2 mw_955 d_Rd_readFactor_115)) (os_l (so_goto d_Rd_readFactor_118 (by decide))))) (os_n (os_l (so_aload_n d_Rd_readFactor_121 rfl)) (os_n (os_l (so_get (C := R_Rd) (T := F_Rd) (N := 13) (j := 3) in_Rd rfl (by decide) mw_639 d_Rd_readFactor_122)) (os_l (so_bipush d_Rd_readFactor_125 (by decide)))))))) (os_n (os_n (os_n (os_n (os_l (so_icne d_Rd_readFactor_127 (by decide))) (os_l (so_ldc2 mw_956 d_Rd_readFactor_130))) (os_n (os_l (so_goto d_Rd_readFactor_133 (by decide))) (os_n (os_l (so_lconst d_Rd_readFactor_136 (by decide))) (os_l (so_lmul d_Rd_readFactor_137))))) (os_n (os_n (os_l (so_lstore d_Rd_readFactor_138 (by decide))) (os_n (os_l (so_lload d_Rd_readFactor_140)) (os_l (so_ldc2 mw_957 d_Rd_readFactor_142)))) (os_n (os_l (so_lcmp d_Rd_readFactor_145)) (os_n (os_l (so_ifle d_Rd_readFactor_146 (by decide))) (os_l (so_aload_n d_Rd_readFactor_149 rfl)))))) (os_n (os_n (os_n (os_l (so_callV (iv := mi_Rd_fail) rfl rfl rfl mw_915 mw_917 sl_24 mw_13 mw_918 ⟨by decide +kernel, by decide +kernel, by decide +kernel⟩ (by decide) d_Rd_readFactor_150)) (os_l (so_iconst d_Rd_readFactor_153 (by decide)))) (os_n (os_l (so_ireturn rfl d_Rd_readFactor_154)) (os_n (os_l (so_aload_n d_Rd_readFactor_155 rfl)) (os_l (so_get (C := R_Rd) (T := F_Rd) (N := 13) (j := 3) in_Rd rfl (by decide) mw_639 d_Rd_readFactor_156))))) (os_n (os_n (os_l (so_bipush d_Rd_readFactor_159 (by decide))) (os_n (os_l (so_iceq d_Rd_readFactor_161 (by decide))) (os_l (so_aload_n d_Rd_readFactor_164 rfl)))) (os_n (os_l (so_get (C := R_Rd) (T := F_Rd) (N := 13) (j := 3) in_Rd rfl (by decide) mw_639 d_Rd_readFactor_165)) (os_n (os_l (so_bipush d_Rd_readFactor_168 (by decide))) (os_l (so_icne d_Rd_readFactor_170 (by decide)))))))))) (os_n (os_n (os_n (os_n (os_n (os_n (os_l (so_iconst d_Rd_readFactor_173 (by decide))) (os_l (so_goto d_Rd_readFactor_174 (by decide)))) (os_n (os_l (so_aload_n d_Rd_readFactor_177 rfl)) (os_n (os_l (so_get (C := R_Rd) (T := F_Rd) (N := 13) (j := 3) in_Rd rfl (by decide) mw_639 d_Rd_readFactor_178)) (os_l (so_iconst d_Rd_readFactor_181 (by decide)))))) (os_n (os_n (os_l (so_iclt d_Rd_readFactor_182 (by decide))) (os_l (so_aload_n d_Rd_readFactor_185 rfl))) (os_n (os_l (so_get (C := R_Rd) (T := F_Rd) (N := 13) (j := 3) in_Rd rfl (by decide) mw_639 d_Rd_readFactor_186)) (os_n (os_l (so_iconst d_Rd_readFactor_189 (by decide))) (os_l (so_icgt d_Rd_readFactor_190 (by decide))))))) (os_n (os_n (os_n (os_l (so_aload_n d_Rd_readFactor_193 rfl)) (os_l (so_get (C := R_Rd) (T := F_Rd) (N := 13) (j := 3) in_Rd rfl (by decide) mw_639 d_Rd_readFactor_194))) (os_n (os_l (so_goto d_Rd_readFactor_197 (by decide))) (os_n (os_l (so_iconst d_Rd_readFactor_200 (by decide))) (os_l (so_istore d_Rd_readFactor_201 (by decide)))))) (os_n (os_n (os_l (so_iload d_Rd_readFactor_203)) (os_n (os_l (so_ifle d_Rd_readFactor_205 (by decide))) (os_l (so_aload_n d_Rd_readFactor_208 rfl)))) (os_n (os_l (so_callV (iv := mi_Rd_nextWord) rfl rfl rfl mw_887 mw_889 sl_20 mw_13 mw_890 ⟨by decide +kernel, by decide +kernel, by decide +kernel⟩ (by decide) d_Rd_readFactor_209)) (os_n (os_l (so_aload_n d_Rd_readFactor_212 rfl)) (os_l (so_get (C := R_Rd) (T := F_Rd) (N := 13) (j := 1) in_Rd rfl (by decide) mw_637 d_Rd_readFactor_213))))))) (os_n (os_n (os_n (os_n (os_l (so_get (C := R_Pr) (T := F_Pr) (N := 18) (j := 9) in_Pr rfl (by decide) mw_456 d_Rd_readFactor_216)) (os_l (so_aload_n d_Rd_readFactor_219 rfl))) (os_n (os_l (so_bipush d_Rd_readFactor_220 (by decide))) (os_n (os_l (so_iconst d_Rd_readFactor_222 (by decide))) (os_l (so_callV (iv := mi_Rd_makeNode) rfl rfl rfl mw_958 mw_960 sl_32 mw_13 mw_961 ⟨by decide +kernel, by decide +kernel, by decide +kernel⟩ (by decide) d_Rd_readFactor_223))))) (os_n (os_n (os_l (so_lload d_Rd_readFactor_226)) (os_n (os_l (so_lastore d_Rd_readFactor_228)) (os_l (so_iload d_Rd_readFactor_229)))) (os_n (os_l (so_ireturn rfl d_Rd_readFactor_231)) (os_n (os_l (so_iload_n d_Rd_readFactor_232 rfl)) (os_l (so_bipush d_Rd_readFactor_233 (by decide))))))) (os_n (os_n (os_n (os_l (so_icne d_Rd_readFactor_235 (by decide))) (os_l (so_aload_n d_Rd_readFactor_238 rfl))) (os_n (os_l (so_bipush d_Rd_readFactor_239 (by decide))) (os_n (os_l (so_iload_n d_Rd_readFactor_241 rfl)) (os_l (so_callV (iv := mi_Rd_makeNode) rfl rfl rfl mw_958 mw_960 sl_32 mw_13 mw_961 ⟨by decide +kernel, by decide +kernel, by decide +kernel⟩ (by decide) d_Rd_readFactor_242))))) (os_n (os_n (os_l (so_pop d_Rd_readFactor_245)) (os_n (os_l (so_aload_n d_Rd_readFactor_246 rfl)) (os_l (so_get (C := R_Rd) (T := F_Rd) (N := 13) (j := 1) in_Rd rfl (by decide) mw_637 d_Rd_readFactor_247)))) (os_n (os_l (so_get (C := R_Pr) (T := F_Pr) (N := 18) (j := 13) in_Pr rfl (by decide) mw_464 d_Rd_readFactor_250)) (os_n (os_l (so_iload_n d_Rd_readFactor_253 rfl)) (os_l (so_iaload d_Rd_readFactor_254)))))))) (os_n (os_n (os_n (os_n (os_n (os_l (so_ireturn rfl d_Rd_readFactor_255)) (os_l (so_aload_n d_Rd_readFactor_256 rfl))) (os_n (os_l (so_dup d_Rd_readFactor_257)) (os_n (os_l (so_get (C := R_Rd) (T := F_Rd) (N := 13) (j := 8) in_Rd rfl (by decide) mw_644 d_Rd_readFactor_258)) (os_l (so_iconst d_Rd_readFactor_261 (by decide)))))) (os_n (os_n (os_l (so_iadd d_Rd_readFactor_262)) (os_l (so_putI (C := R_Rd) (T := F_Rd) (N := 13) (j := 8) in_Rd t_Rd_ok n_Rd rfl (by decide) mw_644 rfl (by decide +kernel) d_Rd_readFactor_263))) (os_n (os_l (so_iload_n d_Rd_readFactor_266 rfl)) (os_n (os_l (so_bipush d_Rd_readFactor_267 (by decide))) (os_l (so_icne d_Rd_readFactor_269 (by decide))))))) (os_n (os_n (os_n (os_l (so_aload_n d_Rd_readFactor_272 rfl)) (os_l (so_callV (iv := mi_Rd_readFactor) rfl rfl rfl mw_947 mw_949 sl_31 mw_13 mw_950 ⟨by decide +kernel, by decide +kernel, by decide +kernel⟩ (by decide) d_Rd_readFactor_273))) (os_n (os_l (so_goto d_Rd_readFactor_276 (by decide))) (os_n (os_l (so_aload_n d_Rd_readFactor_279 rfl)) (os_l (so_iconst d_Rd_readFactor_280 (by decide)))))) (os_n (os_n (os_l (so_callV (iv := mi_Rd_readLevel) rfl rfl rfl mw_943 mw_945 sl_30 mw_13 mw_946 ⟨by decide +kernel, by decide +kernel, by decide +kernel⟩ (by decide) d_Rd_readFactor_281)) (os_n (os_l (so_istore d_Rd_readFactor_284 (by decide))) (os_l (so_iload_n d_Rd_readFactor_286 rfl)))) (os_n (os_l (so_bipush d_Rd_readFactor_287 (by decide))) (os_n (os_l (so_icne d_Rd_readFactor_289 (by decide))) (os_l (so_aload_n d_Rd_readFactor_292 rfl))))))) (os_n (os_n (os_n (os_n (os_l (so_bipush d_Rd_readFactor_293 (by decide))) (os_l (so_iconst d_Rd_readFactor_295 (by decide)))) (os_n (os_l (so_callV (iv := mi_Rd_makeNode) rfl rfl rfl mw_958 mw_960 sl_32 mw_13 mw_961 ⟨by decide +kernel, by decide +kernel, by decide +kernel⟩ (by decide) d_Rd_readFactor_296)) (os_n (os_l (so_pop d_Rd_readFactor_299)) (os_l (so_goto d_Rd_readFactor_300 (by decide)))))) (os_n (os_n (os_l (so_aload_n d_Rd_readFactor_303 rfl)) (os_n (os_l (so_get (C := R_Rd) (T := F_Rd) (N := 13) (j := 3) in_Rd rfl (by decide) mw_639 d_Rd_readFactor_304)) (os_l (so_bipush d_Rd_readFactor_307 (by decide))))) (os_n (os_l (so_icne d_Rd_readFactor_309 (by decide))) (os_n (os_l (so_aload_n d_Rd_readFactor_312 rfl)) (os_l (so_callV (iv := mi_Rd_nextWord) rfl rfl rfl mw_887 mw_889 sl_20 mw_13 mw_890 ⟨by decide +kernel, by decide +kernel, by decide +kernel⟩ (by decide) d_Rd_readFactor_313)))))) (os_n (os_n (os_n (os_l (so_goto d_Rd_readFactor_316 (by decide))) (os_l (so_aload_n d_Rd_readFactor_319 rfl))) (os_n (os_l (so_callV (iv := mi_Rd_fail) rfl rfl rfl mw_915 mw_917 sl_24 mw_13 mw_918 ⟨by decide +kernel, by decide +kernel, by decide +kernel⟩ (by decide) d_Rd_readFactor_320)) (os_n (os_l (so_aload_n d_Rd_readFactor_323 rfl)) (os_l (so_dup d_Rd_readFactor_324))))) (os_n (os_n (os_l (so_get (C := R_Rd) (T := F_Rd) (N := 13) (j := 8) in_Rd rfl (by decide) mw_644 d_Rd_readFactor_325)) (os_n (os_l (so_iconst d_Rd_readFactor_328 (by decide))) (os_l (so_isub d_Rd_readFactor_329)))) (os_n (os_l (so_putI (C := R_Rd) (T := F_Rd) (N := 13) (j := 8) in_Rd t_Rd_ok n_Rd rfl (by decide) mw_644 rfl (by decide +kernel) d_Rd_readFactor_330)) (os_n (os_l (so_iload d_Rd_readFactor_333)) (os_l (so_ireturn rfl d_Rd_readFactor_335))))))))))
abbrev t_Ro_has_18 : List UInt8 := 172 :: []
abbrev t_Ro_has_17 : List UInt8 := 3 :: t_Ro_has_18
abbrev t_Ro_has_14 : List UInt8 := 167 :: 0 :: 4 :: t_Ro_has_17
abbrev t_Ro_has_13 : List UInt8 := 4 :: t_Ro_has_14
abbrev t_Ro_has_10 : List UInt8 := 163 :: 0 :: 7 :: t_Ro_has_13
abbrev t_Ro_has_7 : List UInt8 := 180 :: 0 :: 37 :: t_Ro_has_10
abbrev t_Ro_has_6 : List UInt8 := 42 :: t_Ro_has_7
abbrev t_Ro_has_5 : List UInt8 := 27 :: t_Ro_has_6
abbrev t_Ro_has_2 : List UInt8 := 161 :: 0 :: 15 :: t_Ro_has_5
abbrev t_Ro_has_1 : List UInt8 := 4 :: t_Ro_has_2
abbrev t_Ro_has_0 : List UInt8 := 27 :: t_Ro_has_1
theorem a_Ro_has_0 : dk_at b_Ro_has 0 t_Ro_has_0 := dk_start (by decide +kernel)
theorem a_Ro_has_1 : dk_at b_Ro_has 1 t_Ro_has_1 := dk_go 1 a_Ro_has_0 rfl
theorem a_Ro_has_2 : dk_at b_Ro_has 2 t_Ro_has_2 := dk_go 1 a_Ro_has_1 rfl
theorem a_Ro_has_5 : dk_at b_Ro_has 5 t_Ro_has_5 := dk_go 3 a_Ro_has_2 rfl
theorem a_Ro_has_6 : dk_at b_Ro_has 6 t_Ro_has_6 := dk_go 1 a_Ro_has_5 rfl
theorem a_Ro_has_7 : dk_at b_Ro_has 7 t_Ro_has_7 := dk_go 1 a_Ro_has_6 rfl
theorem a_Ro_has_10 : dk_at b_Ro_has 10 t_Ro_has_10 := dk_go 3 a_Ro_has_7 rfl
theorem a_Ro_has_13 : dk_at b_Ro_has 13 t_Ro_has_13 := dk_go 3 a_Ro_has_10 rfl
theorem a_Ro_has_14 : dk_at b_Ro_has 14 t_Ro_has_14 := dk_go 1 a_Ro_has_13 rfl
theorem a_Ro_has_17 : dk_at b_Ro_has 17 t_Ro_has_17 := dk_go 3 a_Ro_has_14 rfl
theorem a_Ro_has_18 : dk_at b_Ro_has 18 t_Ro_has_18 := dk_go 1 a_Ro_has_17 rfl
theorem d_Ro_has_0 : decode b_Ro_has 0 = .ok (.iload_n 1, 1) := dk_0 a_Ro_has_0 (dko_27 _)
theorem d_Ro_has_1 : decode b_Ro_has 1 = .ok (.iconst 1, 1) := dk_0 a_Ro_has_1 (dko_4 _)
theorem d_Ro_has_2 : decode b_Ro_has 2 = .ok (.if_icmp .lt 15, 3) := dk_S2 a_Ro_has_2 (dko_161 _) (by decide +kernel)
theorem d_Ro_has_5 : decode b_Ro_has 5 = .ok (.iload_n 1, 1) := dk_0 a_Ro_has_5 (dko_27 _)
theorem d_Ro_has_6 : decode b_Ro_has 6 = .ok (.aload_n 0, 1) := dk_0 a_Ro_has_6 (dko_42 _)
theorem d_Ro_has_7 : decode b_Ro_has 7 = .ok (.getfield 37, 3) := dk_U2 a_Ro_has_7 (dko_180 _) rfl
theorem d_Ro_has_10 : decode b_Ro_has 10 = .ok (.if_icmp .gt 7, 3) := dk_S2 a_Ro_has_10 (dko_163 _) (by decide +kernel)
theorem d_Ro_has_13 : decode b_Ro_has 13 = .ok (.iconst 1, 1) := dk_0 a_Ro_has_13 (dko_4 _)
theorem d_Ro_has_14 : decode b_Ro_has 14 = .ok (.goto 4, 3) := dk_S2 a_Ro_has_14 (dko_167 _) (by decide +kernel)
theorem d_Ro_has_17 : decode b_Ro_has 17 = .ok (.iconst 0, 1) := dk_0 a_Ro_has_17 (dko_3 _)
theorem d_Ro_has_18 : decode b_Ro_has 18 = .ok (.ireturn, 1) := dk_0 a_Ro_has_18 (dko_172 _)
set_option maxHeartbeats 4000000 in
set_option maxRecDepth 100000 in
theorem ok_Ro_has (pc : Nat) : OpS mt mi_Ro_has pc (cs_Ro_has pc) := (os_n (os_n (os_n (os_l (so_iload_n d_Ro_has_0 rfl)) (os_l (so_iconst d_Ro_has_1 (by decide)))) (os_n (os_l (so_iclt d_Ro_has_2 (by decide))) (os_n (os_l (so_iload_n d_Ro_has_5 rfl)) (os_l (so_aload_n d_Ro_has_6 rfl))))) (os_n (os_n (os_l (so_get (C := R_Ro) (T := F_Ro) (N := 18) (j := 0) in_Ro rfl (by decide) mw_329 d_Ro_has_7)) (os_n (os_l (so_icgt d_Ro_has_10 (by decide))) (os_l (so_iconst d_Ro_has_13 (by decide))))) (os_n (os_l (so_goto d_Ro_has_14 (by decide))) (os_n (os_l (so_iconst d_Ro_has_17 (by decide))) (os_l (so_zreturn rfl d_Ro_has_18))))))
abbrev t_Ro_isOn_134 : List UInt8 := 172 :: []
abbrev t_Ro_isOn_133 : List UInt8 := 3 :: t_Ro_isOn_134
abbrev t_Ro_isOn_130 : List UInt8 := 167 :: 0 :: 4 :: t_Ro_isOn_133
abbrev t_Ro_isOn_129 : List UInt8 := 4 :: t_Ro_isOn_130
abbrev t_Ro_isOn_126 : List UInt8 := 153 :: 0 :: 7 :: t_Ro_isOn_129
abbrev t_Ro_isOn_125 : List UInt8 := 148 :: t_Ro_isOn_126
abbrev t_Ro_isOn_124 : List UInt8 := 9 :: t_Ro_isOn_125
abbrev t_Ro_isOn_123 : List UInt8 := 127 :: t_Ro_isOn_124
abbrev t_Ro_isOn_122 : List UInt8 := 10 :: t_Ro_isOn_123
abbrev t_Ro_isOn_121 : List UInt8 := 32 :: t_Ro_isOn_122
abbrev t_Ro_isOn_118 : List UInt8 := 167 :: 255 :: 148 :: t_Ro_isOn_121
abbrev t_Ro_isOn_115 : List UInt8 := 132 :: 4 :: 1 :: t_Ro_isOn_118
abbrev t_Ro_isOn_114 : List UInt8 := 65 :: t_Ro_isOn_115
abbrev t_Ro_isOn_113 : List UInt8 := 129 :: t_Ro_isOn_114
abbrev t_Ro_isOn_111 : List UInt8 := 22 :: 5 :: t_Ro_isOn_113
abbrev t_Ro_isOn_110 : List UInt8 := 125 :: t_Ro_isOn_111
abbrev t_Ro_isOn_109 : List UInt8 := 4 :: t_Ro_isOn_110
abbrev t_Ro_isOn_108 : List UInt8 := 32 :: t_Ro_isOn_109
abbrev t_Ro_isOn_105 : List UInt8 := 167 :: 0 :: 10 :: t_Ro_isOn_108
abbrev t_Ro_isOn_104 : List UInt8 := 65 :: t_Ro_isOn_105
abbrev t_Ro_isOn_103 : List UInt8 := 127 :: t_Ro_isOn_104
abbrev t_Ro_isOn_102 : List UInt8 := 129 :: t_Ro_isOn_103
abbrev t_Ro_isOn_100 : List UInt8 := 22 :: 5 :: t_Ro_isOn_102
abbrev t_Ro_isOn_97 : List UInt8 := 20 :: 0 :: 44 :: t_Ro_isOn_100
abbrev t_Ro_isOn_96 : List UInt8 := 125 :: t_Ro_isOn_97
abbrev t_Ro_isOn_95 : List UInt8 := 4 :: t_Ro_isOn_96
abbrev t_Ro_isOn_94 : List UInt8 := 32 :: t_Ro_isOn_95
abbrev t_Ro_isOn_91 : List UInt8 := 160 :: 0 :: 17 :: t_Ro_isOn_94
abbrev t_Ro_isOn_89 : List UInt8 := 16 :: 17 :: t_Ro_isOn_91
abbrev t_Ro_isOn_88 : List UInt8 := 46 :: t_Ro_isOn_89
abbrev t_Ro_isOn_86 : List UInt8 := 21 :: 4 :: t_Ro_isOn_88
abbrev t_Ro_isOn_83 : List UInt8 := 180 :: 0 :: 34 :: t_Ro_isOn_86
abbrev t_Ro_isOn_82 : List UInt8 := 42 :: t_Ro_isOn_83
abbrev t_Ro_isOn_79 : List UInt8 := 167 :: 0 :: 36 :: t_Ro_isOn_82
abbrev t_Ro_isOn_78 : List UInt8 := 65 :: t_Ro_isOn_79
abbrev t_Ro_isOn_77 : List UInt8 := 131 :: t_Ro_isOn_78
abbrev t_Ro_isOn_76 : List UInt8 := 10 :: t_Ro_isOn_77
abbrev t_Ro_isOn_75 : List UInt8 := 32 :: t_Ro_isOn_76
abbrev t_Ro_isOn_72 : List UInt8 := 160 :: 0 :: 10 :: t_Ro_isOn_75
abbrev t_Ro_isOn_70 : List UInt8 := 16 :: 16 :: t_Ro_isOn_72
abbrev t_Ro_isOn_69 : List UInt8 := 46 :: t_Ro_isOn_70
abbrev t_Ro_isOn_67 : List UInt8 := 21 :: 4 :: t_Ro_isOn_69
abbrev t_Ro_isOn_64 : List UInt8 := 180 :: 0 :: 34 :: t_Ro_isOn_67
abbrev t_Ro_isOn_63 : List UInt8 := 42 :: t_Ro_isOn_64
abbrev t_Ro_isOn_60 : List UInt8 := 167 :: 0 :: 55 :: t_Ro_isOn_63
abbrev t_Ro_isOn_59 : List UInt8 := 65 :: t_Ro_isOn_60
abbrev t_Ro_isOn_58 : List UInt8 := 129 :: t_Ro_isOn_59
abbrev t_Ro_isOn_57 : List UInt8 := 133 :: t_Ro_isOn_58
abbrev t_Ro_isOn_56 : List UInt8 := 126 :: t_Ro_isOn_57
abbrev t_Ro_isOn_55 : List UInt8 := 4 :: t_Ro_isOn_56
abbrev t_Ro_isOn_54 : List UInt8 := 122 :: t_Ro_isOn_55
abbrev t_Ro_isOn_53 : List UInt8 := 46 :: t_Ro_isOn_54
abbrev t_Ro_isOn_51 : List UInt8 := 21 :: 4 :: t_Ro_isOn_53
abbrev t_Ro_isOn_48 : List UInt8 := 180 :: 0 :: 34 :: t_Ro_isOn_51
abbrev t_Ro_isOn_47 : List UInt8 := 42 :: t_Ro_isOn_48
abbrev t_Ro_isOn_44 : List UInt8 := 180 :: 0 :: 41 :: t_Ro_isOn_47
abbrev t_Ro_isOn_43 : List UInt8 := 42 :: t_Ro_isOn_44
abbrev t_Ro_isOn_42 : List UInt8 := 121 :: t_Ro_isOn_43
abbrev t_Ro_isOn_41 : List UInt8 := 4 :: t_Ro_isOn_42
abbrev t_Ro_isOn_40 : List UInt8 := 32 :: t_Ro_isOn_41
abbrev t_Ro_isOn_37 : List UInt8 := 162 :: 0 :: 26 :: t_Ro_isOn_40
abbrev t_Ro_isOn_35 : List UInt8 := 16 :: 16 :: t_Ro_isOn_37
abbrev t_Ro_isOn_34 : List UInt8 := 46 :: t_Ro_isOn_35
abbrev t_Ro_isOn_32 : List UInt8 := 21 :: 4 :: t_Ro_isOn_34
abbrev t_Ro_isOn_29 : List UInt8 := 180 :: 0 :: 34 :: t_Ro_isOn_32
abbrev t_Ro_isOn_28 : List UInt8 := 42 :: t_Ro_isOn_29
abbrev t_Ro_isOn_26 : List UInt8 := 55 :: 5 :: t_Ro_isOn_28
abbrev t_Ro_isOn_25 : List UInt8 := 127 :: t_Ro_isOn_26
abbrev t_Ro_isOn_24 : List UInt8 := 10 :: t_Ro_isOn_25
abbrev t_Ro_isOn_23 : List UInt8 := 32 :: t_Ro_isOn_24
abbrev t_Ro_isOn_20 : List UInt8 := 162 :: 0 :: 101 :: t_Ro_isOn_23
abbrev t_Ro_isOn_19 : List UInt8 := 46 :: t_Ro_isOn_20
abbrev t_Ro_isOn_18 : List UInt8 := 96 :: t_Ro_isOn_19
abbrev t_Ro_isOn_17 : List UInt8 := 4 :: t_Ro_isOn_18
abbrev t_Ro_isOn_16 : List UInt8 := 27 :: t_Ro_isOn_17
abbrev t_Ro_isOn_13 : List UInt8 := 180 :: 0 :: 31 :: t_Ro_isOn_16
abbrev t_Ro_isOn_12 : List UInt8 := 42 :: t_Ro_isOn_13
abbrev t_Ro_isOn_10 : List UInt8 := 21 :: 4 :: t_Ro_isOn_12
abbrev t_Ro_isOn_8 : List UInt8 := 54 :: 4 :: t_Ro_isOn_10
abbrev t_Ro_isOn_7 : List UInt8 := 46 :: t_Ro_isOn_8
abbrev t_Ro_isOn_6 : List UInt8 := 27 :: t_Ro_isOn_7
abbrev t_Ro_isOn_3 : List UInt8 := 180 :: 0 :: 31 :: t_Ro_isOn_6
abbrev t_Ro_isOn_2 : List UInt8 := 42 :: t_Ro_isOn_3
abbrev t_Ro_isOn_1 : List UInt8 := 65 :: t_Ro_isOn_2
abbrev t_Ro_isOn_0 : List UInt8 := 9 :: t_Ro_isOn_1
theorem a_Ro_isOn_0 : dk_at b_Ro_isOn 0 t_Ro_isOn_0 := dk_start (by decide +kernel)
theorem a_Ro_isOn_1 : dk_at b_Ro_isOn 1 t_Ro_isOn_1 := dk_go 1 a_Ro_isOn_0 rfl
theorem a_Ro_isOn_2 : dk_at b_Ro_isOn 2 t_Ro_isOn_2 := dk_go 1 a_Ro_isOn_1 rfl
theorem a_Ro_isOn_3 : dk_at b_Ro_isOn 3 t_Ro_isOn_3 := dk_go 1 a_Ro_isOn_2 rfl
theorem a_Ro_isOn_6 : dk_at b_Ro_isOn 6 t_Ro_isOn_6 := dk_go 3 a_Ro_isOn_3 rfl
theorem a_Ro_isOn_7 : dk_at b_Ro_isOn 7 t_Ro_isOn_7 := dk_go 1 a_Ro_isOn_6 rfl
theorem a_Ro_isOn_8 : dk_at b_Ro_isOn 8 t_Ro_isOn_8 := dk_go 1 a_Ro_isOn_7 rfl
theorem a_Ro_isOn_10 : dk_at b_Ro_isOn 10 t_Ro_isOn_10 := dk_go 2 a_Ro_isOn_8 rfl
theorem a_Ro_isOn_12 : dk_at b_Ro_isOn 12 t_Ro_isOn_12 := dk_go 2 a_Ro_isOn_10 rfl
theorem a_Ro_isOn_13 : dk_at b_Ro_isOn 13 t_Ro_isOn_13 := dk_go 1 a_Ro_isOn_12 rfl
theorem a_Ro_isOn_16 : dk_at b_Ro_isOn 16 t_Ro_isOn_16 := dk_go 3 a_Ro_isOn_13 rfl
theorem a_Ro_isOn_17 : dk_at b_Ro_isOn 17 t_Ro_isOn_17 := dk_go 1 a_Ro_isOn_16 rfl
theorem a_Ro_isOn_18 : dk_at b_Ro_isOn 18 t_Ro_isOn_18 := dk_go 1 a_Ro_isOn_17 rfl
theorem a_Ro_isOn_19 : dk_at b_Ro_isOn 19 t_Ro_isOn_19 := dk_go 1 a_Ro_isOn_18 rfl
theorem a_Ro_isOn_20 : dk_at b_Ro_isOn 20 t_Ro_isOn_20 := dk_go 1 a_Ro_isOn_19 rfl
theorem a_Ro_isOn_23 : dk_at b_Ro_isOn 23 t_Ro_isOn_23 := dk_go 3 a_Ro_isOn_20 rfl
theorem a_Ro_isOn_24 : dk_at b_Ro_isOn 24 t_Ro_isOn_24 := dk_go 1 a_Ro_isOn_23 rfl
theorem a_Ro_isOn_25 : dk_at b_Ro_isOn 25 t_Ro_isOn_25 := dk_go 1 a_Ro_isOn_24 rfl
theorem a_Ro_isOn_26 : dk_at b_Ro_isOn 26 t_Ro_isOn_26 := dk_go 1 a_Ro_isOn_25 rfl
theorem a_Ro_isOn_28 : dk_at b_Ro_isOn 28 t_Ro_isOn_28 := dk_go 2 a_Ro_isOn_26 rfl
theorem a_Ro_isOn_29 : dk_at b_Ro_isOn 29 t_Ro_isOn_29 := dk_go 1 a_Ro_isOn_28 rfl
theorem a_Ro_isOn_32 : dk_at b_Ro_isOn 32 t_Ro_isOn_32 := dk_go 3 a_Ro_isOn_29 rfl
theorem a_Ro_isOn_34 : dk_at b_Ro_isOn 34 t_Ro_isOn_34 := dk_go 2 a_Ro_isOn_32 rfl
theorem a_Ro_isOn_35 : dk_at b_Ro_isOn 35 t_Ro_isOn_35 := dk_go 1 a_Ro_isOn_34 rfl
theorem a_Ro_isOn_37 : dk_at b_Ro_isOn 37 t_Ro_isOn_37 := dk_go 2 a_Ro_isOn_35 rfl
theorem a_Ro_isOn_40 : dk_at b_Ro_isOn 40 t_Ro_isOn_40 := dk_go 3 a_Ro_isOn_37 rfl
theorem a_Ro_isOn_41 : dk_at b_Ro_isOn 41 t_Ro_isOn_41 := dk_go 1 a_Ro_isOn_40 rfl
theorem a_Ro_isOn_42 : dk_at b_Ro_isOn 42 t_Ro_isOn_42 := dk_go 1 a_Ro_isOn_41 rfl
theorem a_Ro_isOn_43 : dk_at b_Ro_isOn 43 t_Ro_isOn_43 := dk_go 1 a_Ro_isOn_42 rfl
theorem a_Ro_isOn_44 : dk_at b_Ro_isOn 44 t_Ro_isOn_44 := dk_go 1 a_Ro_isOn_43 rfl
theorem a_Ro_isOn_47 : dk_at b_Ro_isOn 47 t_Ro_isOn_47 := dk_go 3 a_Ro_isOn_44 rfl
theorem a_Ro_isOn_48 : dk_at b_Ro_isOn 48 t_Ro_isOn_48 := dk_go 1 a_Ro_isOn_47 rfl
theorem a_Ro_isOn_51 : dk_at b_Ro_isOn 51 t_Ro_isOn_51 := dk_go 3 a_Ro_isOn_48 rfl
theorem a_Ro_isOn_53 : dk_at b_Ro_isOn 53 t_Ro_isOn_53 := dk_go 2 a_Ro_isOn_51 rfl
theorem a_Ro_isOn_54 : dk_at b_Ro_isOn 54 t_Ro_isOn_54 := dk_go 1 a_Ro_isOn_53 rfl
theorem a_Ro_isOn_55 : dk_at b_Ro_isOn 55 t_Ro_isOn_55 := dk_go 1 a_Ro_isOn_54 rfl
theorem a_Ro_isOn_56 : dk_at b_Ro_isOn 56 t_Ro_isOn_56 := dk_go 1 a_Ro_isOn_55 rfl
theorem a_Ro_isOn_57 : dk_at b_Ro_isOn 57 t_Ro_isOn_57 := dk_go 1 a_Ro_isOn_56 rfl
theorem a_Ro_isOn_58 : dk_at b_Ro_isOn 58 t_Ro_isOn_58 := dk_go 1 a_Ro_isOn_57 rfl
theorem a_Ro_isOn_59 : dk_at b_Ro_isOn 59 t_Ro_isOn_59 := dk_go 1 a_Ro_isOn_58 rfl
theorem a_Ro_isOn_60 : dk_at b_Ro_isOn 60 t_Ro_isOn_60 := dk_go 1 a_Ro_isOn_59 rfl
theorem a_Ro_isOn_63 : dk_at b_Ro_isOn 63 t_Ro_isOn_63 := dk_go 3 a_Ro_isOn_60 rfl
theorem a_Ro_isOn_64 : dk_at b_Ro_isOn 64 t_Ro_isOn_64 := dk_go 1 a_Ro_isOn_63 rfl
theorem a_Ro_isOn_67 : dk_at b_Ro_isOn 67 t_Ro_isOn_67 := dk_go 3 a_Ro_isOn_64 rfl
theorem a_Ro_isOn_69 : dk_at b_Ro_isOn 69 t_Ro_isOn_69 := dk_go 2 a_Ro_isOn_67 rfl
theorem a_Ro_isOn_70 : dk_at b_Ro_isOn 70 t_Ro_isOn_70 := dk_go 1 a_Ro_isOn_69 rfl
theorem a_Ro_isOn_72 : dk_at b_Ro_isOn 72 t_Ro_isOn_72 := dk_go 2 a_Ro_isOn_70 rfl
theorem a_Ro_isOn_75 : dk_at b_Ro_isOn 75 t_Ro_isOn_75 := dk_go 3 a_Ro_isOn_72 rfl
theorem a_Ro_isOn_76 : dk_at b_Ro_isOn 76 t_Ro_isOn_76 := dk_go 1 a_Ro_isOn_75 rfl
theorem a_Ro_isOn_77 : dk_at b_Ro_isOn 77 t_Ro_isOn_77 := dk_go 1 a_Ro_isOn_76 rfl
theorem a_Ro_isOn_78 : dk_at b_Ro_isOn 78 t_Ro_isOn_78 := dk_go 1 a_Ro_isOn_77 rfl
theorem a_Ro_isOn_79 : dk_at b_Ro_isOn 79 t_Ro_isOn_79 := dk_go 1 a_Ro_isOn_78 rfl
theorem a_Ro_isOn_82 : dk_at b_Ro_isOn 82 t_Ro_isOn_82 := dk_go 3 a_Ro_isOn_79 rfl
theorem a_Ro_isOn_83 : dk_at b_Ro_isOn 83 t_Ro_isOn_83 := dk_go 1 a_Ro_isOn_82 rfl
theorem a_Ro_isOn_86 : dk_at b_Ro_isOn 86 t_Ro_isOn_86 := dk_go 3 a_Ro_isOn_83 rfl
theorem a_Ro_isOn_88 : dk_at b_Ro_isOn 88 t_Ro_isOn_88 := dk_go 2 a_Ro_isOn_86 rfl
theorem a_Ro_isOn_89 : dk_at b_Ro_isOn 89 t_Ro_isOn_89 := dk_go 1 a_Ro_isOn_88 rfl
theorem a_Ro_isOn_91 : dk_at b_Ro_isOn 91 t_Ro_isOn_91 := dk_go 2 a_Ro_isOn_89 rfl
theorem a_Ro_isOn_94 : dk_at b_Ro_isOn 94 t_Ro_isOn_94 := dk_go 3 a_Ro_isOn_91 rfl
theorem a_Ro_isOn_95 : dk_at b_Ro_isOn 95 t_Ro_isOn_95 := dk_go 1 a_Ro_isOn_94 rfl
theorem a_Ro_isOn_96 : dk_at b_Ro_isOn 96 t_Ro_isOn_96 := dk_go 1 a_Ro_isOn_95 rfl
theorem a_Ro_isOn_97 : dk_at b_Ro_isOn 97 t_Ro_isOn_97 := dk_go 1 a_Ro_isOn_96 rfl
theorem a_Ro_isOn_100 : dk_at b_Ro_isOn 100 t_Ro_isOn_100 := dk_go 3 a_Ro_isOn_97 rfl
theorem a_Ro_isOn_102 : dk_at b_Ro_isOn 102 t_Ro_isOn_102 := dk_go 2 a_Ro_isOn_100 rfl
theorem a_Ro_isOn_103 : dk_at b_Ro_isOn 103 t_Ro_isOn_103 := dk_go 1 a_Ro_isOn_102 rfl
theorem a_Ro_isOn_104 : dk_at b_Ro_isOn 104 t_Ro_isOn_104 := dk_go 1 a_Ro_isOn_103 rfl
theorem a_Ro_isOn_105 : dk_at b_Ro_isOn 105 t_Ro_isOn_105 := dk_go 1 a_Ro_isOn_104 rfl
theorem a_Ro_isOn_108 : dk_at b_Ro_isOn 108 t_Ro_isOn_108 := dk_go 3 a_Ro_isOn_105 rfl
theorem a_Ro_isOn_109 : dk_at b_Ro_isOn 109 t_Ro_isOn_109 := dk_go 1 a_Ro_isOn_108 rfl
theorem a_Ro_isOn_110 : dk_at b_Ro_isOn 110 t_Ro_isOn_110 := dk_go 1 a_Ro_isOn_109 rfl
theorem a_Ro_isOn_111 : dk_at b_Ro_isOn 111 t_Ro_isOn_111 := dk_go 1 a_Ro_isOn_110 rfl
theorem a_Ro_isOn_113 : dk_at b_Ro_isOn 113 t_Ro_isOn_113 := dk_go 2 a_Ro_isOn_111 rfl
theorem a_Ro_isOn_114 : dk_at b_Ro_isOn 114 t_Ro_isOn_114 := dk_go 1 a_Ro_isOn_113 rfl
theorem a_Ro_isOn_115 : dk_at b_Ro_isOn 115 t_Ro_isOn_115 := dk_go 1 a_Ro_isOn_114 rfl
theorem a_Ro_isOn_118 : dk_at b_Ro_isOn 118 t_Ro_isOn_118 := dk_go 3 a_Ro_isOn_115 rfl
theorem a_Ro_isOn_121 : dk_at b_Ro_isOn 121 t_Ro_isOn_121 := dk_go 3 a_Ro_isOn_118 rfl
theorem a_Ro_isOn_122 : dk_at b_Ro_isOn 122 t_Ro_isOn_122 := dk_go 1 a_Ro_isOn_121 rfl
theorem a_Ro_isOn_123 : dk_at b_Ro_isOn 123 t_Ro_isOn_123 := dk_go 1 a_Ro_isOn_122 rfl
theorem a_Ro_isOn_124 : dk_at b_Ro_isOn 124 t_Ro_isOn_124 := dk_go 1 a_Ro_isOn_123 rfl
theorem a_Ro_isOn_125 : dk_at b_Ro_isOn 125 t_Ro_isOn_125 := dk_go 1 a_Ro_isOn_124 rfl
theorem a_Ro_isOn_126 : dk_at b_Ro_isOn 126 t_Ro_isOn_126 := dk_go 1 a_Ro_isOn_125 rfl
theorem a_Ro_isOn_129 : dk_at b_Ro_isOn 129 t_Ro_isOn_129 := dk_go 3 a_Ro_isOn_126 rfl
theorem a_Ro_isOn_130 : dk_at b_Ro_isOn 130 t_Ro_isOn_130 := dk_go 1 a_Ro_isOn_129 rfl
theorem a_Ro_isOn_133 : dk_at b_Ro_isOn 133 t_Ro_isOn_133 := dk_go 3 a_Ro_isOn_130 rfl
theorem a_Ro_isOn_134 : dk_at b_Ro_isOn 134 t_Ro_isOn_134 := dk_go 1 a_Ro_isOn_133 rfl
theorem d_Ro_isOn_0 : decode b_Ro_isOn 0 = .ok (.lconst 0, 1) := dk_0 a_Ro_isOn_0 (dko_9 _)
theorem d_Ro_isOn_1 : decode b_Ro_isOn 1 = .ok (.lstore_n 2, 1) := dk_0 a_Ro_isOn_1 (dko_65 _)
theorem d_Ro_isOn_2 : decode b_Ro_isOn 2 = .ok (.aload_n 0, 1) := dk_0 a_Ro_isOn_2 (dko_42 _)
theorem d_Ro_isOn_3 : decode b_Ro_isOn 3 = .ok (.getfield 31, 3) := dk_U2 a_Ro_isOn_3 (dko_180 _) rfl
theorem d_Ro_isOn_6 : decode b_Ro_isOn 6 = .ok (.iload_n 1, 1) := dk_0 a_Ro_isOn_6 (dko_27 _)
theorem d_Ro_isOn_7 : decode b_Ro_isOn 7 = .ok (.iaload, 1) := dk_0 a_Ro_isOn_7 (dko_46 _)
theorem d_Ro_isOn_8 : decode b_Ro_isOn 8 = .ok (.istore 4, 2) := dk_U1 a_Ro_isOn_8 (dko_54 _) rfl
theorem d_Ro_isOn_10 : decode b_Ro_isOn 10 = .ok (.iload 4, 2) := dk_U1 a_Ro_isOn_10 (dko_21 _) rfl
theorem d_Ro_isOn_12 : decode b_Ro_isOn 12 = .ok (.aload_n 0, 1) := dk_0 a_Ro_isOn_12 (dko_42 _)
theorem d_Ro_isOn_13 : decode b_Ro_isOn 13 = .ok (.getfield 31, 3) := dk_U2 a_Ro_isOn_13 (dko_180 _) rfl
theorem d_Ro_isOn_16 : decode b_Ro_isOn 16 = .ok (.iload_n 1, 1) := dk_0 a_Ro_isOn_16 (dko_27 _)
theorem d_Ro_isOn_17 : decode b_Ro_isOn 17 = .ok (.iconst 1, 1) := dk_0 a_Ro_isOn_17 (dko_4 _)
theorem d_Ro_isOn_18 : decode b_Ro_isOn 18 = .ok (.iadd, 1) := dk_0 a_Ro_isOn_18 (dko_96 _)
theorem d_Ro_isOn_19 : decode b_Ro_isOn 19 = .ok (.iaload, 1) := dk_0 a_Ro_isOn_19 (dko_46 _)
theorem d_Ro_isOn_20 : decode b_Ro_isOn 20 = .ok (.if_icmp .ge 101, 3) := dk_S2 a_Ro_isOn_20 (dko_162 _) (by decide +kernel)
theorem d_Ro_isOn_23 : decode b_Ro_isOn 23 = .ok (.lload_n 2, 1) := dk_0 a_Ro_isOn_23 (dko_32 _)
theorem d_Ro_isOn_24 : decode b_Ro_isOn 24 = .ok (.lconst 1, 1) := dk_0 a_Ro_isOn_24 (dko_10 _)
theorem d_Ro_isOn_25 : decode b_Ro_isOn 25 = .ok (.land, 1) := dk_0 a_Ro_isOn_25 (dko_127 _)
theorem d_Ro_isOn_26 : decode b_Ro_isOn 26 = .ok (.lstore 5, 2) := dk_U1 a_Ro_isOn_26 (dko_55 _) rfl
theorem d_Ro_isOn_28 : decode b_Ro_isOn 28 = .ok (.aload_n 0, 1) := dk_0 a_Ro_isOn_28 (dko_42 _)
theorem d_Ro_isOn_29 : decode b_Ro_isOn 29 = .ok (.getfield 34, 3) := dk_U2 a_Ro_isOn_29 (dko_180 _) rfl
theorem d_Ro_isOn_32 : decode b_Ro_isOn 32 = .ok (.iload 4, 2) := dk_U1 a_Ro_isOn_32 (dko_21 _) rfl
theorem d_Ro_isOn_34 : decode b_Ro_isOn 34 = .ok (.iaload, 1) := dk_0 a_Ro_isOn_34 (dko_46 _)
theorem d_Ro_isOn_35 : decode b_Ro_isOn 35 = .ok (.bipush 16, 2) := dk_S1 a_Ro_isOn_35 (dko_16 _) (by decide +kernel)
theorem d_Ro_isOn_37 : decode b_Ro_isOn 37 = .ok (.if_icmp .ge 26, 3) := dk_S2 a_Ro_isOn_37 (dko_162 _) (by decide +kernel)
theorem d_Ro_isOn_40 : decode b_Ro_isOn 40 = .ok (.lload_n 2, 1) := dk_0 a_Ro_isOn_40 (dko_32 _)
theorem d_Ro_isOn_41 : decode b_Ro_isOn 41 = .ok (.iconst 1, 1) := dk_0 a_Ro_isOn_41 (dko_4 _)
theorem d_Ro_isOn_42 : decode b_Ro_isOn 42 = .ok (.lshl, 1) := dk_0 a_Ro_isOn_42 (dko_121 _)
theorem d_Ro_isOn_43 : decode b_Ro_isOn 43 = .ok (.aload_n 0, 1) := dk_0 a_Ro_isOn_43 (dko_42 _)
theorem d_Ro_isOn_44 : decode b_Ro_isOn 44 = .ok (.getfield 41, 3) := dk_U2 a_Ro_isOn_44 (dko_180 _) rfl
theorem d_Ro_isOn_47 : decode b_Ro_isOn 47 = .ok (.aload_n 0, 1) := dk_0 a_Ro_isOn_47 (dko_42 _)
theorem d_Ro_isOn_48 : decode b_Ro_isOn 48 = .ok (.getfield 34, 3) := dk_U2 a_Ro_isOn_48 (dko_180 _) rfl
theorem d_Ro_isOn_51 : decode b_Ro_isOn 51 = .ok (.iload 4, 2) := dk_U1 a_Ro_isOn_51 (dko_21 _) rfl
theorem d_Ro_isOn_53 : decode b_Ro_isOn 53 = .ok (.iaload, 1) := dk_0 a_Ro_isOn_53 (dko_46 _)
theorem d_Ro_isOn_54 : decode b_Ro_isOn 54 = .ok (.ishr, 1) := dk_0 a_Ro_isOn_54 (dko_122 _)
theorem d_Ro_isOn_55 : decode b_Ro_isOn 55 = .ok (.iconst 1, 1) := dk_0 a_Ro_isOn_55 (dko_4 _)
theorem d_Ro_isOn_56 : decode b_Ro_isOn 56 = .ok (.iand, 1) := dk_0 a_Ro_isOn_56 (dko_126 _)
theorem d_Ro_isOn_57 : decode b_Ro_isOn 57 = .ok (.i2l, 1) := dk_0 a_Ro_isOn_57 (dko_133 _)
theorem d_Ro_isOn_58 : decode b_Ro_isOn 58 = .ok (.lor, 1) := dk_0 a_Ro_isOn_58 (dko_129 _)
theorem d_Ro_isOn_59 : decode b_Ro_isOn 59 = .ok (.lstore_n 2, 1) := dk_0 a_Ro_isOn_59 (dko_65 _)
theorem d_Ro_isOn_60 : decode b_Ro_isOn 60 = .ok (.goto 55, 3) := dk_S2 a_Ro_isOn_60 (dko_167 _) (by decide +kernel)
theorem d_Ro_isOn_63 : decode b_Ro_isOn 63 = .ok (.aload_n 0, 1) := dk_0 a_Ro_isOn_63 (dko_42 _)
theorem d_Ro_isOn_64 : decode b_Ro_isOn 64 = .ok (.getfield 34, 3) := dk_U2 a_Ro_isOn_64 (dko_180 _) rfl
theorem d_Ro_isOn_67 : decode b_Ro_isOn 67 = .ok (.iload 4, 2) := dk_U1 a_Ro_isOn_67 (dko_21 _) rfl
theorem d_Ro_isOn_69 : decode b_Ro_isOn 69 = .ok (.iaload, 1) := dk_0 a_Ro_isOn_69 (dko_46 _)
theorem d_Ro_isOn_70 : decode b_Ro_isOn 70 = .ok (.bipush 16, 2) := dk_S1 a_Ro_isOn_70 (dko_16 _) (by decide +kernel)
theorem d_Ro_isOn_72 : decode b_Ro_isOn 72 = .ok (.if_icmp .ne 10, 3) := dk_S2 a_Ro_isOn_72 (dko_160 _) (by decide +kernel)
theorem d_Ro_isOn_75 : decode b_Ro_isOn 75 = .ok (.lload_n 2, 1) := dk_0 a_Ro_isOn_75 (dko_32 _)
theorem d_Ro_isOn_76 : decode b_Ro_isOn 76 = .ok (.lconst 1, 1) := dk_0 a_Ro_isOn_76 (dko_10 _)
theorem d_Ro_isOn_77 : decode b_Ro_isOn 77 = .ok (.lxor, 1) := dk_0 a_Ro_isOn_77 (dko_131 _)
theorem d_Ro_isOn_78 : decode b_Ro_isOn 78 = .ok (.lstore_n 2, 1) := dk_0 a_Ro_isOn_78 (dko_65 _)
theorem d_Ro_isOn_79 : decode b_Ro_isOn 79 = .ok (.goto 36, 3) := dk_S2 a_Ro_isOn_79 (dko_167 _) (by decide +kernel)
theorem d_Ro_isOn_82 : decode b_Ro_isOn 82 = .ok (.aload_n 0, 1) := dk_0 a_Ro_isOn_82 (dko_42 _)
theorem d_Ro_isOn_83 : decode b_Ro_isOn 83 = .ok (.getfield 34, 3) := dk_U2 a_Ro_isOn_83 (dko_180 _) rfl
theorem d_Ro_isOn_86 : decode b_Ro_isOn 86 = .ok (.iload 4, 2) := dk_U1 a_Ro_isOn_86 (dko_21 _) rfl
theorem d_Ro_isOn_88 : decode b_Ro_isOn 88 = .ok (.iaload, 1) := dk_0 a_Ro_isOn_88 (dko_46 _)
theorem d_Ro_isOn_89 : decode b_Ro_isOn 89 = .ok (.bipush 17, 2) := dk_S1 a_Ro_isOn_89 (dko_16 _) (by decide +kernel)
theorem d_Ro_isOn_91 : decode b_Ro_isOn 91 = .ok (.if_icmp .ne 17, 3) := dk_S2 a_Ro_isOn_91 (dko_160 _) (by decide +kernel)
theorem d_Ro_isOn_94 : decode b_Ro_isOn 94 = .ok (.lload_n 2, 1) := dk_0 a_Ro_isOn_94 (dko_32 _)
theorem d_Ro_isOn_95 : decode b_Ro_isOn 95 = .ok (.iconst 1, 1) := dk_0 a_Ro_isOn_95 (dko_4 _)
theorem d_Ro_isOn_96 : decode b_Ro_isOn 96 = .ok (.lushr, 1) := dk_0 a_Ro_isOn_96 (dko_125 _)
theorem d_Ro_isOn_97 : decode b_Ro_isOn 97 = .ok (.ldc2_w 44, 3) := dk_U2 a_Ro_isOn_97 (dko_20 _) rfl
theorem d_Ro_isOn_100 : decode b_Ro_isOn 100 = .ok (.lload 5, 2) := dk_U1 a_Ro_isOn_100 (dko_22 _) rfl
theorem d_Ro_isOn_102 : decode b_Ro_isOn 102 = .ok (.lor, 1) := dk_0 a_Ro_isOn_102 (dko_129 _)
theorem d_Ro_isOn_103 : decode b_Ro_isOn 103 = .ok (.land, 1) := dk_0 a_Ro_isOn_103 (dko_127 _)
theorem d_Ro_isOn_104 : decode b_Ro_isOn 104 = .ok (.lstore_n 2, 1) := dk_0 a_Ro_isOn_104 (dko_65 _)
theorem d_Ro_isOn_105 : decode b_Ro_isOn 105 = .ok (.goto 10, 3) := dk_S2 a_Ro_isOn_105 (dko_167 _) (by decide +kernel)
theorem d_Ro_isOn_108 : decode b_Ro_isOn 108 = .ok (.lload_n 2, 1) := dk_0 a_Ro_isOn_108 (dko_32 _)
theorem d_Ro_isOn_109 : decode b_Ro_isOn 109 = .ok (.iconst 1, 1) := dk_0 a_Ro_isOn_109 (dko_4 _)
theorem d_Ro_isOn_110 : decode b_Ro_isOn 110 = .ok (.lushr, 1) := dk_0 a_Ro_isOn_110 (dko_125 _)
theorem d_Ro_isOn_111 : decode b_Ro_isOn 111 = .ok (.lload 5, 2) := dk_U1 a_Ro_isOn_111 (dko_22 _) rfl
theorem d_Ro_isOn_113 : decode b_Ro_isOn 113 = .ok (.lor, 1) := dk_0 a_Ro_isOn_113 (dko_129 _)
theorem d_Ro_isOn_114 : decode b_Ro_isOn 114 = .ok (.lstore_n 2, 1) := dk_0 a_Ro_isOn_114 (dko_65 _)
theorem d_Ro_isOn_115 : decode b_Ro_isOn 115 = .ok (.iinc 4 1, 3) := dk_US a_Ro_isOn_115 (dko_132 _) (by decide +kernel)
theorem d_Ro_isOn_118 : decode b_Ro_isOn 118 = .ok (.goto (-108), 3) := dk_S2 a_Ro_isOn_118 (dko_167 _) (by decide +kernel)
theorem d_Ro_isOn_121 : decode b_Ro_isOn 121 = .ok (.lload_n 2, 1) := dk_0 a_Ro_isOn_121 (dko_32 _)
theorem d_Ro_isOn_122 : decode b_Ro_isOn 122 = .ok (.lconst 1, 1) := dk_0 a_Ro_isOn_122 (dko_10 _)
theorem d_Ro_isOn_123 : decode b_Ro_isOn 123 = .ok (.land, 1) := dk_0 a_Ro_isOn_123 (dko_127 _)
theorem d_Ro_isOn_124 : decode b_Ro_isOn 124 = .ok (.lconst 0, 1) := dk_0 a_Ro_isOn_124 (dko_9 _)
theorem d_Ro_isOn_125 : decode b_Ro_isOn 125 = .ok (.lcmp, 1) := dk_0 a_Ro_isOn_125 (dko_148 _)
theorem d_Ro_isOn_126 : decode b_Ro_isOn 126 = .ok (.ifCond .eq 7, 3) := dk_S2 a_Ro_isOn_126 (dko_153 _) (by decide +kernel)
theorem d_Ro_isOn_129 : decode b_Ro_isOn 129 = .ok (.iconst 1, 1) := dk_0 a_Ro_isOn_129 (dko_4 _)
theorem d_Ro_isOn_130 : decode b_Ro_isOn 130 = .ok (.goto 4, 3) := dk_S2 a_Ro_isOn_130 (dko_167 _) (by decide +kernel)
theorem d_Ro_isOn_133 : decode b_Ro_isOn 133 = .ok (.iconst 0, 1) := dk_0 a_Ro_isOn_133 (dko_3 _)
theorem d_Ro_isOn_134 : decode b_Ro_isOn 134 = .ok (.ireturn, 1) := dk_0 a_Ro_isOn_134 (dko_172 _)
set_option maxHeartbeats 4000000 in
set_option maxRecDepth 100000 in
theorem ok_Ro_isOn (pc : Nat) : OpS mt mi_Ro_isOn pc (cs_Ro_isOn pc) := (os_n (os_n (os_n (os_n (os_n (os_n (os_l (so_lconst d_Ro_isOn_0 (by decide))) (os_l (so_lstore_n d_Ro_isOn_1 rfl (by decide)))) (os_n (os_l (so_aload_n d_Ro_isOn_2 rfl)) (os_n (os_l (so_get (C := R_Ro) (T := F_Ro) (N := 18) (j := 8) in_Ro rfl (by decide) mw_342 d_Ro_isOn_3)) (os_l (so_iload_n d_Ro_isOn_6 rfl))))) (os_n (os_n (os_l (so_iaload d_Ro_isOn_7)) (os_l (so_istore d_Ro_isOn_8 (by decide)))) (os_n (os_l (so_iload d_Ro_isOn_10)) (os_n (os_l (so_aload_n d_Ro_isOn_12 rfl)) (os_l (so_get (C := R_Ro) (T := F_Ro) (N := 18) (j := 8) in_Ro rfl (by decide) mw_342 d_Ro_isOn_13)))))) (os_n (os_n (os_n (os_l (so_iload_n d_Ro_isOn_16 rfl)) (os_l (so_iconst d_Ro_isOn_17 (by decide)))) (os_n (os_l (so_iadd d_Ro_isOn_18)) (os_n (os_l (so_iaload d_Ro_isOn_19)) (os_l (so_icge d_Ro_isOn_20 (by decide)))))) (os_n (os_n (os_l (so_lload_n d_Ro_isOn_23 rfl)) (os_n (os_l (so_lconst d_Ro_isOn_24 (by decide))) (os_l (so_land d_Ro_isOn_25)))) (os_n (os_l (so_lstore d_Ro_isOn_26 (by decide))) (os_n (os_l (so_aload_n d_Ro_isOn_28 rfl)) (os_l (so_get (C := R_Ro) (T := F_Ro) (N := 18) (j := 9) in_Ro rfl (by decide) mw_343 d_Ro_isOn_29))))))) (os_n (os_n (os_n (os_n (os_l (so_iload d_Ro_isOn_32)) (os_l (so_iaload d_Ro_isOn_34))) (os_n (os_l (so_bipush d_Ro_isOn_35 (by decide))) (os_n (os_l (so_icge d_Ro_isOn_37 (by decide))) (os_l (so_lload_n d_Ro_isOn_40 rfl))))) (os_n (os_n (os_l (so_iconst d_Ro_isOn_41 (by decide))) (os_l (so_lshl d_Ro_isOn_42))) (os_n (os_l (so_aload_n d_Ro_isOn_43 rfl)) (os_n (os_l (so_get (C := R_Ro) (T := F_Ro) (N := 18) (j := 1) in_Ro rfl (by decide) mw_331 d_Ro_isOn_44)) (os_l (so_aload_n d_Ro_isOn_47 rfl)))))) (os_n (os_n (os_n (os_l (so_get (C := R_Ro) (T := F_Ro) (N := 18) (j := 9) in_Ro rfl (by decide) mw_343 d_Ro_isOn_48)) (os_l (so_iload d_Ro_isOn_51))) (os_n (os_l (so_iaload d_Ro_isOn_53)) (os_n (os_l (so_ishr d_Ro_isOn_54)) (os_l (so_iconst d_Ro_isOn_55 (by decide)))))) (os_n (os_n (os_l (so_iand d_Ro_isOn_56)) (os_n (os_l (so_i2l d_Ro_isOn_57)) (os_l (so_lor d_Ro_isOn_58)))) (os_n (os_l (so_lstore_n d_Ro_isOn_59 rfl (by decide))) (os_n (os_l (so_goto d_Ro_isOn_60 (by decide))) (os_l (so_aload_n d_Ro_isOn_63 rfl)))))))) (os_n (os_n (os_n (os_n (os_n (os_l (so_get (C := R_Ro) (T := F_Ro) (N := 18) (j := 9) in_Ro rfl (by decide) mw_343 d_Ro_isOn_64)) (os_l (so_iload d_Ro_isOn_67))) (os_n (os_l (so_iaload d_Ro_isOn_69)) (os_n (os_l (so_bipush d_Ro_isOn_70 (by decide))) (os_l (so_icne d_Ro_isOn_72 (by decide)))))) (os_n (os_n (os_l (so_lload_n d_Ro_isOn_75 rfl)) (os_l (so_lconst d_Ro_isOn_76 (by decide)))) (os_n (os_l (so_lxor d_Ro_isOn_77)) (os_n (os_l (so_lstore_n d_Ro_isOn_78 rfl (by decide))) (os_l (so_goto d_Ro_isOn_79 (by decide))))))) (os_n (os_n (os_n (os_l (so_aload_n d_Ro_isOn_82 rfl)) (os_l (so_get (C := R_Ro) (T := F_Ro) (N := 18) (j := 9) in_Ro rfl (by decide) mw_343 d_Ro_isOn_83))) (os_n (os_l (so_iload d_Ro_isOn_86)) (os_n (os_l (so_iaload d_Ro_isOn_88)) (os_l (so_bipush d_Ro_isOn_89 (by decide)))))) (os_n (os_n (os_l (so_icne d_Ro_isOn_91 (by decide))) (os_n (os_l (so_lload_n d_Ro_isOn_94 rfl)) (os_l (so_iconst d_Ro_isOn_95 (by decide))))) (os_n (os_l (so_lushr d_Ro_isOn_96)) (os_n (os_l (so_ldc2 mw_1216 d_Ro_isOn_97)) (os_l (so_lload d_Ro_isOn_100))))))) (os_n (os_n (os_n (os_n (os_l (so_lor d_Ro_isOn_102)) (os_l (so_land d_Ro_isOn_103))) (os_n (os_l (so_lstore_n d_Ro_isOn_104 rfl (by decide))) (os_n (os_l (so_goto d_Ro_isOn_105 (by decide))) (os_l (so_lload_n d_Ro_isOn_108 rfl))))) (os_n (os_n (os_l (so_iconst d_Ro_isOn_109 (by decide))) (os_n (os_l (so_lushr d_Ro_isOn_110)) (os_l (so_lload d_Ro_isOn_111)))) (os_n (os_l (so_lor d_Ro_isOn_113)) (os_n (os_l (so_lstore_n d_Ro_isOn_114 rfl (by decide))) (os_l (so_iinc d_Ro_isOn_115 (by decide) (by decide))))))) (os_n (os_n (os_n (os_l (so_goto d_Ro_isOn_118 (by decide))) (os_l (so_lload_n d_Ro_isOn_121 rfl))) (os_n (os_l (so_lconst d_Ro_isOn_122 (by decide))) (os_n (os_l (so_land d_Ro_isOn_123)) (os_l (so_lconst d_Ro_isOn_124 (by decide)))))) (os_n (os_n (os_l (so_lcmp d_Ro_isOn_125)) (os_n (os_l (so_ifeq d_Ro_isOn_126 (by decide))) (os_l (so_iconst d_Ro_isOn_129 (by decide))))) (os_n (os_l (so_goto d_Ro_isOn_130 (by decide))) (os_n (os_l (so_iconst d_Ro_isOn_133 (by decide))) (os_l (so_zreturn rfl d_Ro_isOn_134)))))))))
abbrev t_Ro_countSecond_103 : List UInt8 := 177 :: []
abbrev t_Ro_countSecond_100 : List UInt8 := 167 :: 255 :: 158 :: t_Ro_countSecond_103
abbrev t_Ro_countSecond_97 : List UInt8 := 132 :: 1 :: 1 :: t_Ro_countSecond_100
abbrev t_Ro_countSecond_96 : List UInt8 := 79 :: t_Ro_countSecond_97
abbrev t_Ro_countSecond_95 : List UInt8 := 100 :: t_Ro_countSecond_96
abbrev t_Ro_countSecond_94 : List UInt8 := 4 :: t_Ro_countSecond_95
abbrev t_Ro_countSecond_93 : List UInt8 := 46 :: t_Ro_countSecond_94
abbrev t_Ro_countSecond_92 : List UInt8 := 92 :: t_Ro_countSecond_93
abbrev t_Ro_countSecond_91 : List UInt8 := 27 :: t_Ro_countSecond_92
abbrev t_Ro_countSecond_88 : List UInt8 := 180 :: 0 :: 19 :: t_Ro_countSecond_91
abbrev t_Ro_countSecond_87 : List UInt8 := 42 :: t_Ro_countSecond_88
abbrev t_Ro_countSecond_84 : List UInt8 := 158 :: 0 :: 13 :: t_Ro_countSecond_87
abbrev t_Ro_countSecond_83 : List UInt8 := 46 :: t_Ro_countSecond_84
abbrev t_Ro_countSecond_82 : List UInt8 := 27 :: t_Ro_countSecond_83
abbrev t_Ro_countSecond_79 : List UInt8 := 180 :: 0 :: 19 :: t_Ro_countSecond_82
abbrev t_Ro_countSecond_78 : List UInt8 := 42 :: t_Ro_countSecond_79
abbrev t_Ro_countSecond_77 : List UInt8 := 84 :: t_Ro_countSecond_78
abbrev t_Ro_countSecond_76 : List UInt8 := 4 :: t_Ro_countSecond_77
abbrev t_Ro_countSecond_75 : List UInt8 := 27 :: t_Ro_countSecond_76
abbrev t_Ro_countSecond_72 : List UInt8 := 180 :: 0 :: 15 :: t_Ro_countSecond_75
abbrev t_Ro_countSecond_71 : List UInt8 := 42 :: t_Ro_countSecond_72
abbrev t_Ro_countSecond_68 : List UInt8 := 161 :: 0 :: 10 :: t_Ro_countSecond_71
abbrev t_Ro_countSecond_67 : List UInt8 := 46 :: t_Ro_countSecond_68
abbrev t_Ro_countSecond_66 : List UInt8 := 27 :: t_Ro_countSecond_67
abbrev t_Ro_countSecond_63 : List UInt8 := 180 :: 0 :: 25 :: t_Ro_countSecond_66
abbrev t_Ro_countSecond_62 : List UInt8 := 42 :: t_Ro_countSecond_63
abbrev t_Ro_countSecond_61 : List UInt8 := 46 :: t_Ro_countSecond_62
abbrev t_Ro_countSecond_60 : List UInt8 := 27 :: t_Ro_countSecond_61
abbrev t_Ro_countSecond_57 : List UInt8 := 180 :: 0 :: 9 :: t_Ro_countSecond_60
abbrev t_Ro_countSecond_56 : List UInt8 := 42 :: t_Ro_countSecond_57
abbrev t_Ro_countSecond_53 : List UInt8 := 153 :: 0 :: 25 :: t_Ro_countSecond_56
abbrev t_Ro_countSecond_52 : List UInt8 := 28 :: t_Ro_countSecond_53
abbrev t_Ro_countSecond_49 : List UInt8 := 153 :: 0 :: 29 :: t_Ro_countSecond_52
abbrev t_Ro_countSecond_48 : List UInt8 := 51 :: t_Ro_countSecond_49
abbrev t_Ro_countSecond_47 : List UInt8 := 27 :: t_Ro_countSecond_48
abbrev t_Ro_countSecond_44 : List UInt8 := 180 :: 0 :: 28 :: t_Ro_countSecond_47
abbrev t_Ro_countSecond_43 : List UInt8 := 42 :: t_Ro_countSecond_44
abbrev t_Ro_countSecond_42 : List UInt8 := 79 :: t_Ro_countSecond_43
abbrev t_Ro_countSecond_41 : List UInt8 := 3 :: t_Ro_countSecond_42
abbrev t_Ro_countSecond_38 : List UInt8 := 167 :: 0 :: 4 :: t_Ro_countSecond_41
abbrev t_Ro_countSecond_35 : List UInt8 := 184 :: 0 :: 51 :: t_Ro_countSecond_38
abbrev t_Ro_countSecond_33 : List UInt8 := 18 :: 50 :: t_Ro_countSecond_35
abbrev t_Ro_countSecond_32 : List UInt8 := 96 :: t_Ro_countSecond_33
abbrev t_Ro_countSecond_31 : List UInt8 := 4 :: t_Ro_countSecond_32
abbrev t_Ro_countSecond_30 : List UInt8 := 46 :: t_Ro_countSecond_31
abbrev t_Ro_countSecond_29 : List UInt8 := 27 :: t_Ro_countSecond_30
abbrev t_Ro_countSecond_26 : List UInt8 := 180 :: 0 :: 9 :: t_Ro_countSecond_29
abbrev t_Ro_countSecond_25 : List UInt8 := 42 :: t_Ro_countSecond_26
abbrev t_Ro_countSecond_22 : List UInt8 := 153 :: 0 :: 19 :: t_Ro_countSecond_25
abbrev t_Ro_countSecond_21 : List UInt8 := 28 :: t_Ro_countSecond_22
abbrev t_Ro_countSecond_20 : List UInt8 := 27 :: t_Ro_countSecond_21
abbrev t_Ro_countSecond_17 : List UInt8 := 180 :: 0 :: 9 :: t_Ro_countSecond_20
abbrev t_Ro_countSecond_16 : List UInt8 := 42 :: t_Ro_countSecond_17
abbrev t_Ro_countSecond_15 : List UInt8 := 61 :: t_Ro_countSecond_16
abbrev t_Ro_countSecond_12 : List UInt8 := 182 :: 0 :: 46 :: t_Ro_countSecond_15
abbrev t_Ro_countSecond_11 : List UInt8 := 27 :: t_Ro_countSecond_12
abbrev t_Ro_countSecond_10 : List UInt8 := 42 :: t_Ro_countSecond_11
abbrev t_Ro_countSecond_7 : List UInt8 := 162 :: 0 :: 96 :: t_Ro_countSecond_10
abbrev t_Ro_countSecond_4 : List UInt8 := 180 :: 0 :: 37 :: t_Ro_countSecond_7
abbrev t_Ro_countSecond_3 : List UInt8 := 42 :: t_Ro_countSecond_4
abbrev t_Ro_countSecond_2 : List UInt8 := 27 :: t_Ro_countSecond_3
abbrev t_Ro_countSecond_1 : List UInt8 := 60 :: t_Ro_countSecond_2
abbrev t_Ro_countSecond_0 : List UInt8 := 3 :: t_Ro_countSecond_1
theorem a_Ro_countSecond_0 : dk_at b_Ro_countSecond 0 t_Ro_countSecond_0 := dk_start (by decide +kernel)
theorem a_Ro_countSecond_1 : dk_at b_Ro_countSecond 1 t_Ro_countSecond_1 := dk_go 1 a_Ro_countSecond_0 rfl
theorem a_Ro_countSecond_2 : dk_at b_Ro_countSecond 2 t_Ro_countSecond_2 := dk_go 1 a_Ro_countSecond_1 rfl
theorem a_Ro_countSecond_3 : dk_at b_Ro_countSecond 3 t_Ro_countSecond_3 := dk_go 1 a_Ro_countSecond_2 rfl
theorem a_Ro_countSecond_4 : dk_at b_Ro_countSecond 4 t_Ro_countSecond_4 := dk_go 1 a_Ro_countSecond_3 rfl
theorem a_Ro_countSecond_7 : dk_at b_Ro_countSecond 7 t_Ro_countSecond_7 := dk_go 3 a_Ro_countSecond_4 rfl
theorem a_Ro_countSecond_10 : dk_at b_Ro_countSecond 10 t_Ro_countSecond_10 := dk_go 3 a_Ro_countSecond_7 rfl
theorem a_Ro_countSecond_11 : dk_at b_Ro_countSecond 11 t_Ro_countSecond_11 := dk_go 1 a_Ro_countSecond_10 rfl
theorem a_Ro_countSecond_12 : dk_at b_Ro_countSecond 12 t_Ro_countSecond_12 := dk_go 1 a_Ro_countSecond_11 rfl
theorem a_Ro_countSecond_15 : dk_at b_Ro_countSecond 15 t_Ro_countSecond_15 := dk_go 3 a_Ro_countSecond_12 rfl
theorem a_Ro_countSecond_16 : dk_at b_Ro_countSecond 16 t_Ro_countSecond_16 := dk_go 1 a_Ro_countSecond_15 rfl
theorem a_Ro_countSecond_17 : dk_at b_Ro_countSecond 17 t_Ro_countSecond_17 := dk_go 1 a_Ro_countSecond_16 rfl
theorem a_Ro_countSecond_20 : dk_at b_Ro_countSecond 20 t_Ro_countSecond_20 := dk_go 3 a_Ro_countSecond_17 rfl
theorem a_Ro_countSecond_21 : dk_at b_Ro_countSecond 21 t_Ro_countSecond_21 := dk_go 1 a_Ro_countSecond_20 rfl
theorem a_Ro_countSecond_22 : dk_at b_Ro_countSecond 22 t_Ro_countSecond_22 := dk_go 1 a_Ro_countSecond_21 rfl
theorem a_Ro_countSecond_25 : dk_at b_Ro_countSecond 25 t_Ro_countSecond_25 := dk_go 3 a_Ro_countSecond_22 rfl
theorem a_Ro_countSecond_26 : dk_at b_Ro_countSecond 26 t_Ro_countSecond_26 := dk_go 1 a_Ro_countSecond_25 rfl
theorem a_Ro_countSecond_29 : dk_at b_Ro_countSecond 29 t_Ro_countSecond_29 := dk_go 3 a_Ro_countSecond_26 rfl
theorem a_Ro_countSecond_30 : dk_at b_Ro_countSecond 30 t_Ro_countSecond_30 := dk_go 1 a_Ro_countSecond_29 rfl
theorem a_Ro_countSecond_31 : dk_at b_Ro_countSecond 31 t_Ro_countSecond_31 := dk_go 1 a_Ro_countSecond_30 rfl
theorem a_Ro_countSecond_32 : dk_at b_Ro_countSecond 32 t_Ro_countSecond_32 := dk_go 1 a_Ro_countSecond_31 rfl
theorem a_Ro_countSecond_33 : dk_at b_Ro_countSecond 33 t_Ro_countSecond_33 := dk_go 1 a_Ro_countSecond_32 rfl
theorem a_Ro_countSecond_35 : dk_at b_Ro_countSecond 35 t_Ro_countSecond_35 := dk_go 2 a_Ro_countSecond_33 rfl
theorem a_Ro_countSecond_38 : dk_at b_Ro_countSecond 38 t_Ro_countSecond_38 := dk_go 3 a_Ro_countSecond_35 rfl
theorem a_Ro_countSecond_41 : dk_at b_Ro_countSecond 41 t_Ro_countSecond_41 := dk_go 3 a_Ro_countSecond_38 rfl
theorem a_Ro_countSecond_42 : dk_at b_Ro_countSecond 42 t_Ro_countSecond_42 := dk_go 1 a_Ro_countSecond_41 rfl
theorem a_Ro_countSecond_43 : dk_at b_Ro_countSecond 43 t_Ro_countSecond_43 := dk_go 1 a_Ro_countSecond_42 rfl
theorem a_Ro_countSecond_44 : dk_at b_Ro_countSecond 44 t_Ro_countSecond_44 := dk_go 1 a_Ro_countSecond_43 rfl
theorem a_Ro_countSecond_47 : dk_at b_Ro_countSecond 47 t_Ro_countSecond_47 := dk_go 3 a_Ro_countSecond_44 rfl
theorem a_Ro_countSecond_48 : dk_at b_Ro_countSecond 48 t_Ro_countSecond_48 := dk_go 1 a_Ro_countSecond_47 rfl
theorem a_Ro_countSecond_49 : dk_at b_Ro_countSecond 49 t_Ro_countSecond_49 := dk_go 1 a_Ro_countSecond_48 rfl
theorem a_Ro_countSecond_52 : dk_at b_Ro_countSecond 52 t_Ro_countSecond_52 := dk_go 3 a_Ro_countSecond_49 rfl
theorem a_Ro_countSecond_53 : dk_at b_Ro_countSecond 53 t_Ro_countSecond_53 := dk_go 1 a_Ro_countSecond_52 rfl
theorem a_Ro_countSecond_56 : dk_at b_Ro_countSecond 56 t_Ro_countSecond_56 := dk_go 3 a_Ro_countSecond_53 rfl
theorem a_Ro_countSecond_57 : dk_at b_Ro_countSecond 57 t_Ro_countSecond_57 := dk_go 1 a_Ro_countSecond_56 rfl
theorem a_Ro_countSecond_60 : dk_at b_Ro_countSecond 60 t_Ro_countSecond_60 := dk_go 3 a_Ro_countSecond_57 rfl
theorem a_Ro_countSecond_61 : dk_at b_Ro_countSecond 61 t_Ro_countSecond_61 := dk_go 1 a_Ro_countSecond_60 rfl
theorem a_Ro_countSecond_62 : dk_at b_Ro_countSecond 62 t_Ro_countSecond_62 := dk_go 1 a_Ro_countSecond_61 rfl
theorem a_Ro_countSecond_63 : dk_at b_Ro_countSecond 63 t_Ro_countSecond_63 := dk_go 1 a_Ro_countSecond_62 rfl
theorem a_Ro_countSecond_66 : dk_at b_Ro_countSecond 66 t_Ro_countSecond_66 := dk_go 3 a_Ro_countSecond_63 rfl
theorem a_Ro_countSecond_67 : dk_at b_Ro_countSecond 67 t_Ro_countSecond_67 := dk_go 1 a_Ro_countSecond_66 rfl
theorem a_Ro_countSecond_68 : dk_at b_Ro_countSecond 68 t_Ro_countSecond_68 := dk_go 1 a_Ro_countSecond_67 rfl
theorem a_Ro_countSecond_71 : dk_at b_Ro_countSecond 71 t_Ro_countSecond_71 := dk_go 3 a_Ro_countSecond_68 rfl
theorem a_Ro_countSecond_72 : dk_at b_Ro_countSecond 72 t_Ro_countSecond_72 := dk_go 1 a_Ro_countSecond_71 rfl
theorem a_Ro_countSecond_75 : dk_at b_Ro_countSecond 75 t_Ro_countSecond_75 := dk_go 3 a_Ro_countSecond_72 rfl
theorem a_Ro_countSecond_76 : dk_at b_Ro_countSecond 76 t_Ro_countSecond_76 := dk_go 1 a_Ro_countSecond_75 rfl
theorem a_Ro_countSecond_77 : dk_at b_Ro_countSecond 77 t_Ro_countSecond_77 := dk_go 1 a_Ro_countSecond_76 rfl
theorem a_Ro_countSecond_78 : dk_at b_Ro_countSecond 78 t_Ro_countSecond_78 := dk_go 1 a_Ro_countSecond_77 rfl
theorem a_Ro_countSecond_79 : dk_at b_Ro_countSecond 79 t_Ro_countSecond_79 := dk_go 1 a_Ro_countSecond_78 rfl
theorem a_Ro_countSecond_82 : dk_at b_Ro_countSecond 82 t_Ro_countSecond_82 := dk_go 3 a_Ro_countSecond_79 rfl
theorem a_Ro_countSecond_83 : dk_at b_Ro_countSecond 83 t_Ro_countSecond_83 := dk_go 1 a_Ro_countSecond_82 rfl
theorem a_Ro_countSecond_84 : dk_at b_Ro_countSecond 84 t_Ro_countSecond_84 := dk_go 1 a_Ro_countSecond_83 rfl
theorem a_Ro_countSecond_87 : dk_at b_Ro_countSecond 87 t_Ro_countSecond_87 := dk_go 3 a_Ro_countSecond_84 rfl
theorem a_Ro_countSecond_88 : dk_at b_Ro_countSecond 88 t_Ro_countSecond_88 := dk_go 1 a_Ro_countSecond_87 rfl
theorem a_Ro_countSecond_91 : dk_at b_Ro_countSecond 91 t_Ro_countSecond_91 := dk_go 3 a_Ro_countSecond_88 rfl
theorem a_Ro_countSecond_92 : dk_at b_Ro_countSecond 92 t_Ro_countSecond_92 := dk_go 1 a_Ro_countSecond_91 rfl
theorem a_Ro_countSecond_93 : dk_at b_Ro_countSecond 93 t_Ro_countSecond_93 := dk_go 1 a_Ro_countSecond_92 rfl
theorem a_Ro_countSecond_94 : dk_at b_Ro_countSecond 94 t_Ro_countSecond_94 := dk_go 1 a_Ro_countSecond_93 rfl
theorem a_Ro_countSecond_95 : dk_at b_Ro_countSecond 95 t_Ro_countSecond_95 := dk_go 1 a_Ro_countSecond_94 rfl
theorem a_Ro_countSecond_96 : dk_at b_Ro_countSecond 96 t_Ro_countSecond_96 := dk_go 1 a_Ro_countSecond_95 rfl
theorem a_Ro_countSecond_97 : dk_at b_Ro_countSecond 97 t_Ro_countSecond_97 := dk_go 1 a_Ro_countSecond_96 rfl
theorem a_Ro_countSecond_100 : dk_at b_Ro_countSecond 100 t_Ro_countSecond_100 := dk_go 3 a_Ro_countSecond_97 rfl
theorem a_Ro_countSecond_103 : dk_at b_Ro_countSecond 103 t_Ro_countSecond_103 := dk_go 3 a_Ro_countSecond_100 rfl
theorem d_Ro_countSecond_0 : decode b_Ro_countSecond 0 = .ok (.iconst 0, 1) := dk_0 a_Ro_countSecond_0 (dko_3 _)
theorem d_Ro_countSecond_1 : decode b_Ro_countSecond 1 = .ok (.istore_n 1, 1) := dk_0 a_Ro_countSecond_1 (dko_60 _)
theorem d_Ro_countSecond_2 : decode b_Ro_countSecond 2 = .ok (.iload_n 1, 1) := dk_0 a_Ro_countSecond_2 (dko_27 _)
theorem d_Ro_countSecond_3 : decode b_Ro_countSecond 3 = .ok (.aload_n 0, 1) := dk_0 a_Ro_countSecond_3 (dko_42 _)
theorem d_Ro_countSecond_4 : decode b_Ro_countSecond 4 = .ok (.getfield 37, 3) := dk_U2 a_Ro_countSecond_4 (dko_180 _) rfl
theorem d_Ro_countSecond_7 : decode b_Ro_countSecond 7 = .ok (.if_icmp .ge 96, 3) := dk_S2 a_Ro_countSecond_7 (dko_162 _) (by decide +kernel)
theorem d_Ro_countSecond_10 : decode b_Ro_countSecond 10 = .ok (.aload_n 0, 1) := dk_0 a_Ro_countSecond_10 (dko_42 _)
theorem d_Ro_countSecond_11 : decode b_Ro_countSecond 11 = .ok (.iload_n 1, 1) := dk_0 a_Ro_countSecond_11 (dko_27 _)
theorem d_Ro_countSecond_12 : decode b_Ro_countSecond 12 = .ok (.invokevirtual 46, 3) := dk_U2 a_Ro_countSecond_12 (dko_182 _) rfl
theorem d_Ro_countSecond_15 : decode b_Ro_countSecond 15 = .ok (.istore_n 2, 1) := dk_0 a_Ro_countSecond_15 (dko_61 _)
theorem d_Ro_countSecond_16 : decode b_Ro_countSecond 16 = .ok (.aload_n 0, 1) := dk_0 a_Ro_countSecond_16 (dko_42 _)
theorem d_Ro_countSecond_17 : decode b_Ro_countSecond 17 = .ok (.getfield 9, 3) := dk_U2 a_Ro_countSecond_17 (dko_180 _) rfl
theorem d_Ro_countSecond_20 : decode b_Ro_countSecond 20 = .ok (.iload_n 1, 1) := dk_0 a_Ro_countSecond_20 (dko_27 _)
theorem d_Ro_countSecond_21 : decode b_Ro_countSecond 21 = .ok (.iload_n 2, 1) := dk_0 a_Ro_countSecond_21 (dko_28 _)
theorem d_Ro_countSecond_22 : decode b_Ro_countSecond 22 = .ok (.ifCond .eq 19, 3) := dk_S2 a_Ro_countSecond_22 (dko_153 _) (by decide +kernel)
theorem d_Ro_countSecond_25 : decode b_Ro_countSecond 25 = .ok (.aload_n 0, 1) := dk_0 a_Ro_countSecond_25 (dko_42 _)
theorem d_Ro_countSecond_26 : decode b_Ro_countSecond 26 = .ok (.getfield 9, 3) := dk_U2 a_Ro_countSecond_26 (dko_180 _) rfl
theorem d_Ro_countSecond_29 : decode b_Ro_countSecond 29 = .ok (.iload_n 1, 1) := dk_0 a_Ro_countSecond_29 (dko_27 _)
theorem d_Ro_countSecond_30 : decode b_Ro_countSecond 30 = .ok (.iaload, 1) := dk_0 a_Ro_countSecond_30 (dko_46 _)
theorem d_Ro_countSecond_31 : decode b_Ro_countSecond 31 = .ok (.iconst 1, 1) := dk_0 a_Ro_countSecond_31 (dko_4 _)
theorem d_Ro_countSecond_32 : decode b_Ro_countSecond 32 = .ok (.iadd, 1) := dk_0 a_Ro_countSecond_32 (dko_96 _)
theorem d_Ro_countSecond_33 : decode b_Ro_countSecond 33 = .ok (.ldc 50, 2) := dk_U1 a_Ro_countSecond_33 (dko_18 _) rfl
theorem d_Ro_countSecond_35 : decode b_Ro_countSecond 35 = .ok (.invokestatic 51, 3) := dk_U2 a_Ro_countSecond_35 (dko_184 _) rfl
theorem d_Ro_countSecond_38 : decode b_Ro_countSecond 38 = .ok (.goto 4, 3) := dk_S2 a_Ro_countSecond_38 (dko_167 _) (by decide +kernel)
theorem d_Ro_countSecond_41 : decode b_Ro_countSecond 41 = .ok (.iconst 0, 1) := dk_0 a_Ro_countSecond_41 (dko_3 _)
theorem d_Ro_countSecond_42 : decode b_Ro_countSecond 42 = .ok (.iastore, 1) := dk_0 a_Ro_countSecond_42 (dko_79 _)
theorem d_Ro_countSecond_43 : decode b_Ro_countSecond 43 = .ok (.aload_n 0, 1) := dk_0 a_Ro_countSecond_43 (dko_42 _)
theorem d_Ro_countSecond_44 : decode b_Ro_countSecond 44 = .ok (.getfield 28, 3) := dk_U2 a_Ro_countSecond_44 (dko_180 _) rfl
theorem d_Ro_countSecond_47 : decode b_Ro_countSecond 47 = .ok (.iload_n 1, 1) := dk_0 a_Ro_countSecond_47 (dko_27 _)
theorem d_Ro_countSecond_48 : decode b_Ro_countSecond 48 = .ok (.baload, 1) := dk_0 a_Ro_countSecond_48 (dko_51 _)
theorem d_Ro_countSecond_49 : decode b_Ro_countSecond 49 = .ok (.ifCond .eq 29, 3) := dk_S2 a_Ro_countSecond_49 (dko_153 _) (by decide +kernel)
theorem d_Ro_countSecond_52 : decode b_Ro_countSecond 52 = .ok (.iload_n 2, 1) := dk_0 a_Ro_countSecond_52 (dko_28 _)
theorem d_Ro_countSecond_53 : decode b_Ro_countSecond 53 = .ok (.ifCond .eq 25, 3) := dk_S2 a_Ro_countSecond_53 (dko_153 _) (by decide +kernel)
theorem d_Ro_countSecond_56 : decode b_Ro_countSecond 56 = .ok (.aload_n 0, 1) := dk_0 a_Ro_countSecond_56 (dko_42 _)
theorem d_Ro_countSecond_57 : decode b_Ro_countSecond 57 = .ok (.getfield 9, 3) := dk_U2 a_Ro_countSecond_57 (dko_180 _) rfl
theorem d_Ro_countSecond_60 : decode b_Ro_countSecond 60 = .ok (.iload_n 1, 1) := dk_0 a_Ro_countSecond_60 (dko_27 _)
theorem d_Ro_countSecond_61 : decode b_Ro_countSecond 61 = .ok (.iaload, 1) := dk_0 a_Ro_countSecond_61 (dko_46 _)
theorem d_Ro_countSecond_62 : decode b_Ro_countSecond 62 = .ok (.aload_n 0, 1) := dk_0 a_Ro_countSecond_62 (dko_42 _)
theorem d_Ro_countSecond_63 : decode b_Ro_countSecond 63 = .ok (.getfield 25, 3) := dk_U2 a_Ro_countSecond_63 (dko_180 _) rfl
theorem d_Ro_countSecond_66 : decode b_Ro_countSecond 66 = .ok (.iload_n 1, 1) := dk_0 a_Ro_countSecond_66 (dko_27 _)
theorem d_Ro_countSecond_67 : decode b_Ro_countSecond 67 = .ok (.iaload, 1) := dk_0 a_Ro_countSecond_67 (dko_46 _)
theorem d_Ro_countSecond_68 : decode b_Ro_countSecond 68 = .ok (.if_icmp .lt 10, 3) := dk_S2 a_Ro_countSecond_68 (dko_161 _) (by decide +kernel)
theorem d_Ro_countSecond_71 : decode b_Ro_countSecond 71 = .ok (.aload_n 0, 1) := dk_0 a_Ro_countSecond_71 (dko_42 _)
theorem d_Ro_countSecond_72 : decode b_Ro_countSecond 72 = .ok (.getfield 15, 3) := dk_U2 a_Ro_countSecond_72 (dko_180 _) rfl
theorem d_Ro_countSecond_75 : decode b_Ro_countSecond 75 = .ok (.iload_n 1, 1) := dk_0 a_Ro_countSecond_75 (dko_27 _)
theorem d_Ro_countSecond_76 : decode b_Ro_countSecond 76 = .ok (.iconst 1, 1) := dk_0 a_Ro_countSecond_76 (dko_4 _)
theorem d_Ro_countSecond_77 : decode b_Ro_countSecond 77 = .ok (.bastore, 1) := dk_0 a_Ro_countSecond_77 (dko_84 _)
theorem d_Ro_countSecond_78 : decode b_Ro_countSecond 78 = .ok (.aload_n 0, 1) := dk_0 a_Ro_countSecond_78 (dko_42 _)
theorem d_Ro_countSecond_79 : decode b_Ro_countSecond 79 = .ok (.getfield 19, 3) := dk_U2 a_Ro_countSecond_79 (dko_180 _) rfl
theorem d_Ro_countSecond_82 : decode b_Ro_countSecond 82 = .ok (.iload_n 1, 1) := dk_0 a_Ro_countSecond_82 (dko_27 _)
theorem d_Ro_countSecond_83 : decode b_Ro_countSecond 83 = .ok (.iaload, 1) := dk_0 a_Ro_countSecond_83 (dko_46 _)
theorem d_Ro_countSecond_84 : decode b_Ro_countSecond 84 = .ok (.ifCond .le 13, 3) := dk_S2 a_Ro_countSecond_84 (dko_158 _) (by decide +kernel)
theorem d_Ro_countSecond_87 : decode b_Ro_countSecond 87 = .ok (.aload_n 0, 1) := dk_0 a_Ro_countSecond_87 (dko_42 _)
theorem d_Ro_countSecond_88 : decode b_Ro_countSecond 88 = .ok (.getfield 19, 3) := dk_U2 a_Ro_countSecond_88 (dko_180 _) rfl
theorem d_Ro_countSecond_91 : decode b_Ro_countSecond 91 = .ok (.iload_n 1, 1) := dk_0 a_Ro_countSecond_91 (dko_27 _)
theorem d_Ro_countSecond_92 : decode b_Ro_countSecond 92 = .ok (.dup2, 1) := dk_0 a_Ro_countSecond_92 (dko_92 _)
theorem d_Ro_countSecond_93 : decode b_Ro_countSecond 93 = .ok (.iaload, 1) := dk_0 a_Ro_countSecond_93 (dko_46 _)
theorem d_Ro_countSecond_94 : decode b_Ro_countSecond 94 = .ok (.iconst 1, 1) := dk_0 a_Ro_countSecond_94 (dko_4 _)
theorem d_Ro_countSecond_95 : decode b_Ro_countSecond 95 = .ok (.isub, 1) := dk_0 a_Ro_countSecond_95 (dko_100 _)
theorem d_Ro_countSecond_96 : decode b_Ro_countSecond 96 = .ok (.iastore, 1) := dk_0 a_Ro_countSecond_96 (dko_79 _)
theorem d_Ro_countSecond_97 : decode b_Ro_countSecond 97 = .ok (.iinc 1 1, 3) := dk_US a_Ro_countSecond_97 (dko_132 _) (by decide +kernel)
theorem d_Ro_countSecond_100 : decode b_Ro_countSecond 100 = .ok (.goto (-98), 3) := dk_S2 a_Ro_countSecond_100 (dko_167 _) (by decide +kernel)
theorem d_Ro_countSecond_103 : decode b_Ro_countSecond 103 = .ok (.return_, 1) := dk_0 a_Ro_countSecond_103 (dko_177 _)
set_option maxHeartbeats 4000000 in
set_option maxRecDepth 100000 in
theorem ok_Ro_countSecond (pc : Nat) : OpS mt mi_Ro_countSecond pc (cs_Ro_countSecond pc) := (os_n (os_n (os_n (os_n (os_n (os_l (so_iconst d_Ro_countSecond_0 (by decide))) (os_n (os_l (so_istore_n d_Ro_countSecond_1 rfl (by decide))) (os_l (so_iload_n d_Ro_countSecond_2 rfl)))) (os_n (os_n (os_l (so_aload_n d_Ro_countSecond_3 rfl)) (os_l (so_get (C := R_Ro) (T := F_Ro) (N := 18) (j := 0) in_Ro rfl (by decide) mw_329 d_Ro_countSecond_4))) (os_n (os_l (so_icge d_Ro_countSecond_7 (by decide))) (os_l (so_aload_n d_Ro_countSecond_10 rfl))))) (os_n (os_n (os_n (os_l (so_iload_n d_Ro_countSecond_11 rfl)) (os_l (so_callV (iv := mi_Ro_isOn) rfl rfl rfl mw_1212 mw_1213 mw_1214 mw_10 mw_1215 ⟨by decide +kernel, by decide +kernel, by decide +kernel⟩ (by decide) d_Ro_countSecond_12))) (os_n (os_l (so_istore_n d_Ro_countSecond_15 rfl (by decide))) (os_l (so_aload_n d_Ro_countSecond_16 rfl)))) (os_n (os_n (os_l (so_get (C := R_Ro) (T := F_Ro) (N := 18) (j := 2) in_Ro rfl (by decide) mw_333 d_Ro_countSecond_17)) (os_l (so_iload_n d_Ro_countSecond_20 rfl))) (os_n (os_l (so_iload_n d_Ro_countSecond_21 rfl)) (os_l (so_ifeq d_Ro_countSecond_22 (by decide))))))) (os_n (os_n (os_n (os_n (os_l (so_aload_n d_Ro_countSecond_25 rfl)) (os_l (so_get (C := R_Ro) (T := F_Ro) (N := 18) (j := 2) in_Ro rfl (by decide) mw_333 d_Ro_countSecond_26))) (os_n (os_l (so_iload_n d_Ro_countSecond_29 rfl)) (os_l (so_iaload d_Ro_countSecond_30)))) (os_n (os_n (os_l (so_iconst d_Ro_countSecond_31 (by decide))) (os_l (so_iadd d_Ro_countSecond_32))) (os_n (os_l (so_ldc mw_1339 d_Ro_countSecond_33)) (os_l (so_callS (iv := mi_Ma_min) rfl mw_1340 mw_963 mw_21 mw_964 ⟨by decide +kernel, by decide +kernel, by decide +kernel⟩ (by decide) d_Ro_countSecond_35))))) (os_n (os_n (os_n (os_l (so_goto d_Ro_countSecond_38 (by decide))) (os_l (so_iconst d_Ro_countSecond_41 (by decide)))) (os_n (os_l (so_iastore d_Ro_countSecond_42)) (os_l (so_aload_n d_Ro_countSecond_43 rfl)))) (os_n (os_n (os_l (so_get (C := R_Ro) (T := F_Ro) (N := 18) (j := 7) in_Ro rfl (by decide) mw_341 d_Ro_countSecond_44)) (os_l (so_iload_n d_Ro_countSecond_47 rfl))) (os_n (os_l (so_baload d_Ro_countSecond_48)) (os_l (so_ifeq d_Ro_countSecond_49 (by decide)))))))) (os_n (os_n (os_n (os_n (os_n (os_l (so_iload_n d_Ro_countSecond_52 rfl)) (os_l (so_ifeq d_Ro_countSecond_53 (by decide)))) (os_n (os_l (so_aload_n d_Ro_countSecond_56 rfl)) (os_l (so_get (C := R_Ro) (T := F_Ro) (N := 18) (j := 2) in_Ro rfl (by decide) mw_333 d_Ro_countSecond_57)))) (os_n (os_n (os_l (so_iload_n d_Ro_countSecond_60 rfl)) (os_l (so_iaload d_Ro_countSecond_61))) (os_n (os_l (so_aload_n d_Ro_countSecond_62 rfl)) (os_l (so_get (C := R_Ro) (T := F_Ro) (N := 18) (j := 6) in_Ro rfl (by decide) mw_340 d_Ro_countSecond_63))))) (os_n (os_n (os_n (os_l (so_iload_n d_Ro_countSecond_66 rfl)) (os_l (so_iaload d_Ro_countSecond_67))) (os_n (os_l (so_iclt d_Ro_countSecond_68 (by decide))) (os_l (so_aload_n d_Ro_countSecond_71 rfl)))) (os_n (os_n (os_l (so_get (C := R_Ro) (T := F_Ro) (N := 18) (j := 3) in_Ro rfl (by decide) mw_335 d_Ro_countSecond_72)) (os_l (so_iload_n d_Ro_countSecond_75 rfl))) (os_n (os_l (so_iconst d_Ro_countSecond_76 (by decide))) (os_l (so_bastore d_Ro_countSecond_77)))))) (os_n (os_n (os_n (os_n (os_l (so_aload_n d_Ro_countSecond_78 rfl)) (os_l (so_get (C := R_Ro) (T := F_Ro) (N := 18) (j := 4) in_Ro rfl (by decide) mw_337 d_Ro_countSecond_79))) (os_n (os_l (so_iload_n d_Ro_countSecond_82 rfl)) (os_l (so_iaload d_Ro_countSecond_83)))) (os_n (os_n (os_l (so_ifle d_Ro_countSecond_84 (by decide))) (os_l (so_aload_n d_Ro_countSecond_87 rfl))) (os_n (os_l (so_get (C := R_Ro) (T := F_Ro) (N := 18) (j := 4) in_Ro rfl (by decide) mw_337 d_Ro_countSecond_88)) (os_l (so_iload_n d_Ro_countSecond_91 rfl))))) (os_n (os_n (os_n (os_l (so_dup2 d_Ro_countSecond_92)) (os_l (so_iaload d_Ro_countSecond_93))) (os_n (os_l (so_iconst d_Ro_countSecond_94 (by decide))) (os_l (so_isub d_Ro_countSecond_95)))) (os_n (os_n (os_l (so_iastore d_Ro_countSecond_96)) (os_l (so_iinc d_Ro_countSecond_97 (by decide) (by decide)))) (os_n (os_l (so_goto d_Ro_countSecond_100 (by decide))) (os_l (so_return rfl d_Ro_countSecond_103))))))))
abbrev t_Ro_barring_85 : List UInt8 := 172 :: []
abbrev t_Ro_barring_84 : List UInt8 := 3 :: t_Ro_barring_85
abbrev t_Ro_barring_81 : List UInt8 := 167 :: 255 :: 177 :: t_Ro_barring_84
abbrev t_Ro_barring_78 : List UInt8 := 132 :: 2 :: 1 :: t_Ro_barring_81
abbrev t_Ro_barring_77 : List UInt8 := 172 :: t_Ro_barring_78
abbrev t_Ro_barring_76 : List UInt8 := 96 :: t_Ro_barring_77
abbrev t_Ro_barring_75 : List UInt8 := 4 :: t_Ro_barring_76
abbrev t_Ro_barring_74 : List UInt8 := 28 :: t_Ro_barring_75
abbrev t_Ro_barring_71 : List UInt8 := 153 :: 0 :: 7 :: t_Ro_barring_74
abbrev t_Ro_barring_68 : List UInt8 := 182 :: 0 :: 46 :: t_Ro_barring_71
abbrev t_Ro_barring_67 : List UInt8 := 28 :: t_Ro_barring_68
abbrev t_Ro_barring_66 : List UInt8 := 42 :: t_Ro_barring_67
abbrev t_Ro_barring_63 : List UInt8 := 161 :: 0 :: 15 :: t_Ro_barring_66
abbrev t_Ro_barring_62 : List UInt8 := 46 :: t_Ro_barring_63
abbrev t_Ro_barring_61 : List UInt8 := 28 :: t_Ro_barring_62
abbrev t_Ro_barring_58 : List UInt8 := 180 :: 0 :: 25 :: t_Ro_barring_61
abbrev t_Ro_barring_57 : List UInt8 := 42 :: t_Ro_barring_58
abbrev t_Ro_barring_56 : List UInt8 := 46 :: t_Ro_barring_57
abbrev t_Ro_barring_55 : List UInt8 := 28 :: t_Ro_barring_56
abbrev t_Ro_barring_52 : List UInt8 := 180 :: 0 :: 9 :: t_Ro_barring_55
abbrev t_Ro_barring_51 : List UInt8 := 42 :: t_Ro_barring_52
abbrev t_Ro_barring_48 : List UInt8 := 154 :: 0 :: 26 :: t_Ro_barring_51
abbrev t_Ro_barring_47 : List UInt8 := 51 :: t_Ro_barring_48
abbrev t_Ro_barring_46 : List UInt8 := 28 :: t_Ro_barring_47
abbrev t_Ro_barring_43 : List UInt8 := 180 :: 0 :: 15 :: t_Ro_barring_46
abbrev t_Ro_barring_42 : List UInt8 := 42 :: t_Ro_barring_43
abbrev t_Ro_barring_39 : List UInt8 := 153 :: 0 :: 39 :: t_Ro_barring_42
abbrev t_Ro_barring_38 : List UInt8 := 29 :: t_Ro_barring_39
abbrev t_Ro_barring_37 : List UInt8 := 62 :: t_Ro_barring_38
abbrev t_Ro_barring_36 : List UInt8 := 3 :: t_Ro_barring_37
abbrev t_Ro_barring_33 : List UInt8 := 167 :: 0 :: 4 :: t_Ro_barring_36
abbrev t_Ro_barring_32 : List UInt8 := 4 :: t_Ro_barring_33
abbrev t_Ro_barring_29 : List UInt8 := 154 :: 0 :: 7 :: t_Ro_barring_32
abbrev t_Ro_barring_28 : List UInt8 := 46 :: t_Ro_barring_29
abbrev t_Ro_barring_27 : List UInt8 := 28 :: t_Ro_barring_28
abbrev t_Ro_barring_24 : List UInt8 := 180 :: 0 :: 19 :: t_Ro_barring_27
abbrev t_Ro_barring_23 : List UInt8 := 42 :: t_Ro_barring_24
abbrev t_Ro_barring_20 : List UInt8 := 153 :: 0 :: 16 :: t_Ro_barring_23
abbrev t_Ro_barring_19 : List UInt8 := 126 :: t_Ro_barring_20
abbrev t_Ro_barring_18 : List UInt8 := 4 :: t_Ro_barring_19
abbrev t_Ro_barring_17 : List UInt8 := 124 :: t_Ro_barring_18
abbrev t_Ro_barring_16 : List UInt8 := 27 :: t_Ro_barring_17
abbrev t_Ro_barring_15 : List UInt8 := 46 :: t_Ro_barring_16
abbrev t_Ro_barring_14 : List UInt8 := 28 :: t_Ro_barring_15
abbrev t_Ro_barring_11 : List UInt8 := 180 :: 0 :: 22 :: t_Ro_barring_14
abbrev t_Ro_barring_10 : List UInt8 := 42 :: t_Ro_barring_11
abbrev t_Ro_barring_7 : List UInt8 := 162 :: 0 :: 77 :: t_Ro_barring_10
abbrev t_Ro_barring_4 : List UInt8 := 180 :: 0 :: 37 :: t_Ro_barring_7
abbrev t_Ro_barring_3 : List UInt8 := 42 :: t_Ro_barring_4
abbrev t_Ro_barring_2 : List UInt8 := 28 :: t_Ro_barring_3
abbrev t_Ro_barring_1 : List UInt8 := 61 :: t_Ro_barring_2
abbrev t_Ro_barring_0 : List UInt8 := 3 :: t_Ro_barring_1
theorem a_Ro_barring_0 : dk_at b_Ro_barring 0 t_Ro_barring_0 := dk_start (by decide +kernel)
theorem a_Ro_barring_1 : dk_at b_Ro_barring 1 t_Ro_barring_1 := dk_go 1 a_Ro_barring_0 rfl
theorem a_Ro_barring_2 : dk_at b_Ro_barring 2 t_Ro_barring_2 := dk_go 1 a_Ro_barring_1 rfl
theorem a_Ro_barring_3 : dk_at b_Ro_barring 3 t_Ro_barring_3 := dk_go 1 a_Ro_barring_2 rfl
theorem a_Ro_barring_4 : dk_at b_Ro_barring 4 t_Ro_barring_4 := dk_go 1 a_Ro_barring_3 rfl
theorem a_Ro_barring_7 : dk_at b_Ro_barring 7 t_Ro_barring_7 := dk_go 3 a_Ro_barring_4 rfl
theorem a_Ro_barring_10 : dk_at b_Ro_barring 10 t_Ro_barring_10 := dk_go 3 a_Ro_barring_7 rfl
theorem a_Ro_barring_11 : dk_at b_Ro_barring 11 t_Ro_barring_11 := dk_go 1 a_Ro_barring_10 rfl
theorem a_Ro_barring_14 : dk_at b_Ro_barring 14 t_Ro_barring_14 := dk_go 3 a_Ro_barring_11 rfl
theorem a_Ro_barring_15 : dk_at b_Ro_barring 15 t_Ro_barring_15 := dk_go 1 a_Ro_barring_14 rfl
theorem a_Ro_barring_16 : dk_at b_Ro_barring 16 t_Ro_barring_16 := dk_go 1 a_Ro_barring_15 rfl
theorem a_Ro_barring_17 : dk_at b_Ro_barring 17 t_Ro_barring_17 := dk_go 1 a_Ro_barring_16 rfl
theorem a_Ro_barring_18 : dk_at b_Ro_barring 18 t_Ro_barring_18 := dk_go 1 a_Ro_barring_17 rfl
theorem a_Ro_barring_19 : dk_at b_Ro_barring 19 t_Ro_barring_19 := dk_go 1 a_Ro_barring_18 rfl
theorem a_Ro_barring_20 : dk_at b_Ro_barring 20 t_Ro_barring_20 := dk_go 1 a_Ro_barring_19 rfl
theorem a_Ro_barring_23 : dk_at b_Ro_barring 23 t_Ro_barring_23 := dk_go 3 a_Ro_barring_20 rfl
theorem a_Ro_barring_24 : dk_at b_Ro_barring 24 t_Ro_barring_24 := dk_go 1 a_Ro_barring_23 rfl
theorem a_Ro_barring_27 : dk_at b_Ro_barring 27 t_Ro_barring_27 := dk_go 3 a_Ro_barring_24 rfl
theorem a_Ro_barring_28 : dk_at b_Ro_barring 28 t_Ro_barring_28 := dk_go 1 a_Ro_barring_27 rfl
theorem a_Ro_barring_29 : dk_at b_Ro_barring 29 t_Ro_barring_29 := dk_go 1 a_Ro_barring_28 rfl
theorem a_Ro_barring_32 : dk_at b_Ro_barring 32 t_Ro_barring_32 := dk_go 3 a_Ro_barring_29 rfl
theorem a_Ro_barring_33 : dk_at b_Ro_barring 33 t_Ro_barring_33 := dk_go 1 a_Ro_barring_32 rfl
theorem a_Ro_barring_36 : dk_at b_Ro_barring 36 t_Ro_barring_36 := dk_go 3 a_Ro_barring_33 rfl
theorem a_Ro_barring_37 : dk_at b_Ro_barring 37 t_Ro_barring_37 := dk_go 1 a_Ro_barring_36 rfl
theorem a_Ro_barring_38 : dk_at b_Ro_barring 38 t_Ro_barring_38 := dk_go 1 a_Ro_barring_37 rfl
theorem a_Ro_barring_39 : dk_at b_Ro_barring 39 t_Ro_barring_39 := dk_go 1 a_Ro_barring_38 rfl
theorem a_Ro_barring_42 : dk_at b_Ro_barring 42 t_Ro_barring_42 := dk_go 3 a_Ro_barring_39 rfl
theorem a_Ro_barring_43 : dk_at b_Ro_barring 43 t_Ro_barring_43 := dk_go 1 a_Ro_barring_42 rfl
theorem a_Ro_barring_46 : dk_at b_Ro_barring 46 t_Ro_barring_46 := dk_go 3 a_Ro_barring_43 rfl
theorem a_Ro_barring_47 : dk_at b_Ro_barring 47 t_Ro_barring_47 := dk_go 1 a_Ro_barring_46 rfl
theorem a_Ro_barring_48 : dk_at b_Ro_barring 48 t_Ro_barring_48 := dk_go 1 a_Ro_barring_47 rfl
theorem a_Ro_barring_51 : dk_at b_Ro_barring 51 t_Ro_barring_51 := dk_go 3 a_Ro_barring_48 rfl
theorem a_Ro_barring_52 : dk_at b_Ro_barring 52 t_Ro_barring_52 := dk_go 1 a_Ro_barring_51 rfl
theorem a_Ro_barring_55 : dk_at b_Ro_barring 55 t_Ro_barring_55 := dk_go 3 a_Ro_barring_52 rfl
theorem a_Ro_barring_56 : dk_at b_Ro_barring 56 t_Ro_barring_56 := dk_go 1 a_Ro_barring_55 rfl
theorem a_Ro_barring_57 : dk_at b_Ro_barring 57 t_Ro_barring_57 := dk_go 1 a_Ro_barring_56 rfl
theorem a_Ro_barring_58 : dk_at b_Ro_barring 58 t_Ro_barring_58 := dk_go 1 a_Ro_barring_57 rfl
theorem a_Ro_barring_61 : dk_at b_Ro_barring 61 t_Ro_barring_61 := dk_go 3 a_Ro_barring_58 rfl
theorem a_Ro_barring_62 : dk_at b_Ro_barring 62 t_Ro_barring_62 := dk_go 1 a_Ro_barring_61 rfl
theorem a_Ro_barring_63 : dk_at b_Ro_barring 63 t_Ro_barring_63 := dk_go 1 a_Ro_barring_62 rfl
theorem a_Ro_barring_66 : dk_at b_Ro_barring 66 t_Ro_barring_66 := dk_go 3 a_Ro_barring_63 rfl
theorem a_Ro_barring_67 : dk_at b_Ro_barring 67 t_Ro_barring_67 := dk_go 1 a_Ro_barring_66 rfl
theorem a_Ro_barring_68 : dk_at b_Ro_barring 68 t_Ro_barring_68 := dk_go 1 a_Ro_barring_67 rfl
theorem a_Ro_barring_71 : dk_at b_Ro_barring 71 t_Ro_barring_71 := dk_go 3 a_Ro_barring_68 rfl
theorem a_Ro_barring_74 : dk_at b_Ro_barring 74 t_Ro_barring_74 := dk_go 3 a_Ro_barring_71 rfl
theorem a_Ro_barring_75 : dk_at b_Ro_barring 75 t_Ro_barring_75 := dk_go 1 a_Ro_barring_74 rfl
theorem a_Ro_barring_76 : dk_at b_Ro_barring 76 t_Ro_barring_76 := dk_go 1 a_Ro_barring_75 rfl
theorem a_Ro_barring_77 : dk_at b_Ro_barring 77 t_Ro_barring_77 := dk_go 1 a_Ro_barring_76 rfl
theorem a_Ro_barring_78 : dk_at b_Ro_barring 78 t_Ro_barring_78 := dk_go 1 a_Ro_barring_77 rfl
theorem a_Ro_barring_81 : dk_at b_Ro_barring 81 t_Ro_barring_81 := dk_go 3 a_Ro_barring_78 rfl
theorem a_Ro_barring_84 : dk_at b_Ro_barring 84 t_Ro_barring_84 := dk_go 3 a_Ro_barring_81 rfl
theorem a_Ro_barring_85 : dk_at b_Ro_barring 85 t_Ro_barring_85 := dk_go 1 a_Ro_barring_84 rfl
theorem d_Ro_barring_0 : decode b_Ro_barring 0 = .ok (.iconst 0, 1) := dk_0 a_Ro_barring_0 (dko_3 _)
theorem d_Ro_barring_1 : decode b_Ro_barring 1 = .ok (.istore_n 2, 1) := dk_0 a_Ro_barring_1 (dko_61 _)
theorem d_Ro_barring_2 : decode b_Ro_barring 2 = .ok (.iload_n 2, 1) := dk_0 a_Ro_barring_2 (dko_28 _)
theorem d_Ro_barring_3 : decode b_Ro_barring 3 = .ok (.aload_n 0, 1) := dk_0 a_Ro_barring_3 (dko_42 _)
theorem d_Ro_barring_4 : decode b_Ro_barring 4 = .ok (.getfield 37, 3) := dk_U2 a_Ro_barring_4 (dko_180 _) rfl
theorem d_Ro_barring_7 : decode b_Ro_barring 7 = .ok (.if_icmp .ge 77, 3) := dk_S2 a_Ro_barring_7 (dko_162 _) (by decide +kernel)
theorem d_Ro_barring_10 : decode b_Ro_barring 10 = .ok (.aload_n 0, 1) := dk_0 a_Ro_barring_10 (dko_42 _)
theorem d_Ro_barring_11 : decode b_Ro_barring 11 = .ok (.getfield 22, 3) := dk_U2 a_Ro_barring_11 (dko_180 _) rfl
theorem d_Ro_barring_14 : decode b_Ro_barring 14 = .ok (.iload_n 2, 1) := dk_0 a_Ro_barring_14 (dko_28 _)
theorem d_Ro_barring_15 : decode b_Ro_barring 15 = .ok (.iaload, 1) := dk_0 a_Ro_barring_15 (dko_46 _)
theorem d_Ro_barring_16 : decode b_Ro_barring 16 = .ok (.iload_n 1, 1) := dk_0 a_Ro_barring_16 (dko_27 _)
theorem d_Ro_barring_17 : decode b_Ro_barring 17 = .ok (.iushr, 1) := dk_0 a_Ro_barring_17 (dko_124 _)
theorem d_Ro_barring_18 : decode b_Ro_barring 18 = .ok (.iconst 1, 1) := dk_0 a_Ro_barring_18 (dko_4 _)
theorem d_Ro_barring_19 : decode b_Ro_barring 19 = .ok (.iand, 1) := dk_0 a_Ro_barring_19 (dko_126 _)
theorem d_Ro_barring_20 : decode b_Ro_barring 20 = .ok (.ifCond .eq 16, 3) := dk_S2 a_Ro_barring_20 (dko_153 _) (by decide +kernel)
theorem d_Ro_barring_23 : decode b_Ro_barring 23 = .ok (.aload_n 0, 1) := dk_0 a_Ro_barring_23 (dko_42 _)
theorem d_Ro_barring_24 : decode b_Ro_barring 24 = .ok (.getfield 19, 3) := dk_U2 a_Ro_barring_24 (dko_180 _) rfl
theorem d_Ro_barring_27 : decode b_Ro_barring 27 = .ok (.iload_n 2, 1) := dk_0 a_Ro_barring_27 (dko_28 _)
theorem d_Ro_barring_28 : decode b_Ro_barring 28 = .ok (.iaload, 1) := dk_0 a_Ro_barring_28 (dko_46 _)
theorem d_Ro_barring_29 : decode b_Ro_barring 29 = .ok (.ifCond .ne 7, 3) := dk_S2 a_Ro_barring_29 (dko_154 _) (by decide +kernel)
theorem d_Ro_barring_32 : decode b_Ro_barring 32 = .ok (.iconst 1, 1) := dk_0 a_Ro_barring_32 (dko_4 _)
theorem d_Ro_barring_33 : decode b_Ro_barring 33 = .ok (.goto 4, 3) := dk_S2 a_Ro_barring_33 (dko_167 _) (by decide +kernel)
theorem d_Ro_barring_36 : decode b_Ro_barring 36 = .ok (.iconst 0, 1) := dk_0 a_Ro_barring_36 (dko_3 _)
theorem d_Ro_barring_37 : decode b_Ro_barring 37 = .ok (.istore_n 3, 1) := dk_0 a_Ro_barring_37 (dko_62 _)
theorem d_Ro_barring_38 : decode b_Ro_barring 38 = .ok (.iload_n 3, 1) := dk_0 a_Ro_barring_38 (dko_29 _)
theorem d_Ro_barring_39 : decode b_Ro_barring 39 = .ok (.ifCond .eq 39, 3) := dk_S2 a_Ro_barring_39 (dko_153 _) (by decide +kernel)
theorem d_Ro_barring_42 : decode b_Ro_barring 42 = .ok (.aload_n 0, 1) := dk_0 a_Ro_barring_42 (dko_42 _)
theorem d_Ro_barring_43 : decode b_Ro_barring 43 = .ok (.getfield 15, 3) := dk_U2 a_Ro_barring_43 (dko_180 _) rfl
theorem d_Ro_barring_46 : decode b_Ro_barring 46 = .ok (.iload_n 2, 1) := dk_0 a_Ro_barring_46 (dko_28 _)
theorem d_Ro_barring_47 : decode b_Ro_barring 47 = .ok (.baload, 1) := dk_0 a_Ro_barring_47 (dko_51 _)
theorem d_Ro_barring_48 : decode b_Ro_barring 48 = .ok (.ifCond .ne 26, 3) := dk_S2 a_Ro_barring_48 (dko_154 _) (by decide +kernel)
theorem d_Ro_barring_51 : decode b_Ro_barring 51 = .ok (.aload_n 0, 1) := dk_0 a_Ro_barring_51 (dko_42 _)
theorem d_Ro_barring_52 : decode b_Ro_barring 52 = .ok (.getfield 9, 3) := dk_U2 a_Ro_barring_52 (dko_180 _) rfl
theorem d_Ro_barring_55 : decode b_Ro_barring 55 = .ok (.iload_n 2, 1) := dk_0 a_Ro_barring_55 (dko_28 _)
theorem d_Ro_barring_56 : decode b_Ro_barring 56 = .ok (.iaload, 1) := dk_0 a_Ro_barring_56 (dko_46 _)
theorem d_Ro_barring_57 : decode b_Ro_barring 57 = .ok (.aload_n 0, 1) := dk_0 a_Ro_barring_57 (dko_42 _)
theorem d_Ro_barring_58 : decode b_Ro_barring 58 = .ok (.getfield 25, 3) := dk_U2 a_Ro_barring_58 (dko_180 _) rfl
theorem d_Ro_barring_61 : decode b_Ro_barring 61 = .ok (.iload_n 2, 1) := dk_0 a_Ro_barring_61 (dko_28 _)
theorem d_Ro_barring_62 : decode b_Ro_barring 62 = .ok (.iaload, 1) := dk_0 a_Ro_barring_62 (dko_46 _)
theorem d_Ro_barring_63 : decode b_Ro_barring 63 = .ok (.if_icmp .lt 15, 3) := dk_S2 a_Ro_barring_63 (dko_161 _) (by decide +kernel)
theorem d_Ro_barring_66 : decode b_Ro_barring 66 = .ok (.aload_n 0, 1) := dk_0 a_Ro_barring_66 (dko_42 _)
theorem d_Ro_barring_67 : decode b_Ro_barring 67 = .ok (.iload_n 2, 1) := dk_0 a_Ro_barring_67 (dko_28 _)
theorem d_Ro_barring_68 : decode b_Ro_barring 68 = .ok (.invokevirtual 46, 3) := dk_U2 a_Ro_barring_68 (dko_182 _) rfl
theorem d_Ro_barring_71 : decode b_Ro_barring 71 = .ok (.ifCond .eq 7, 3) := dk_S2 a_Ro_barring_71 (dko_153 _) (by decide +kernel)
theorem d_Ro_barring_74 : decode b_Ro_barring 74 = .ok (.iload_n 2, 1) := dk_0 a_Ro_barring_74 (dko_28 _)
theorem d_Ro_barring_75 : decode b_Ro_barring 75 = .ok (.iconst 1, 1) := dk_0 a_Ro_barring_75 (dko_4 _)
theorem d_Ro_barring_76 : decode b_Ro_barring 76 = .ok (.iadd, 1) := dk_0 a_Ro_barring_76 (dko_96 _)
theorem d_Ro_barring_77 : decode b_Ro_barring 77 = .ok (.ireturn, 1) := dk_0 a_Ro_barring_77 (dko_172 _)
theorem d_Ro_barring_78 : decode b_Ro_barring 78 = .ok (.iinc 2 1, 3) := dk_US a_Ro_barring_78 (dko_132 _) (by decide +kernel)
theorem d_Ro_barring_81 : decode b_Ro_barring 81 = .ok (.goto (-79), 3) := dk_S2 a_Ro_barring_81 (dko_167 _) (by decide +kernel)
theorem d_Ro_barring_84 : decode b_Ro_barring 84 = .ok (.iconst 0, 1) := dk_0 a_Ro_barring_84 (dko_3 _)
theorem d_Ro_barring_85 : decode b_Ro_barring 85 = .ok (.ireturn, 1) := dk_0 a_Ro_barring_85 (dko_172 _)
set_option maxHeartbeats 4000000 in
set_option maxRecDepth 100000 in
theorem ok_Ro_barring (pc : Nat) : OpS mt mi_Ro_barring pc (cs_Ro_barring pc) := (os_n (os_n (os_n (os_n (os_n (os_l (so_iconst d_Ro_barring_0 (by decide))) (os_n (os_l (so_istore_n d_Ro_barring_1 rfl (by decide))) (os_l (so_iload_n d_Ro_barring_2 rfl)))) (os_n (os_l (so_aload_n d_Ro_barring_3 rfl)) (os_n (os_l (so_get (C := R_Ro) (T := F_Ro) (N := 18) (j := 0) in_Ro rfl (by decide) mw_329 d_Ro_barring_4)) (os_l (so_icge d_Ro_barring_7 (by decide)))))) (os_n (os_n (os_l (so_aload_n d_Ro_barring_10 rfl)) (os_n (os_l (so_get (C := R_Ro) (T := F_Ro) (N := 18) (j := 5) in_Ro rfl (by decide) mw_339 d_Ro_barring_11)) (os_l (so_iload_n d_Ro_barring_14 rfl)))) (os_n (os_n (os_l (so_iaload d_Ro_barring_15)) (os_l (so_iload_n d_Ro_barring_16 rfl))) (os_n (os_l (so_iushr d_Ro_barring_17)) (os_l (so_iconst d_Ro_barring_18 (by decide))))))) (os_n (os_n (os_n (os_l (so_iand d_Ro_barring_19)) (os_n (os_l (so_ifeq d_Ro_barring_20 (by decide))) (os_l (so_aload_n d_Ro_barring_23 rfl)))) (os_n (os_l (so_get (C := R_Ro) (T := F_Ro) (N := 18) (j := 4) in_Ro rfl (by decide) mw_337 d_Ro_barring_24)) (os_n (os_l (so_iload_n d_Ro_barring_27 rfl)) (os_l (so_iaload d_Ro_barring_28))))) (os_n (os_n (os_l (so_ifne d_Ro_barring_29 (by decide))) (os_n (os_l (so_iconst d_Ro_barring_32 (by decide))) (os_l (so_goto d_Ro_barring_33 (by decide))))) (os_n (os_n (os_l (so_iconst d_Ro_barring_36 (by decide))) (os_l (so_istore_n d_Ro_barring_37 rfl (by decide)))) (os_n (os_l (so_iload_n d_Ro_barring_38 rfl)) (os_l (so_ifeq d_Ro_barring_39 (by decide)))))))) (os_n (os_n (os_n (os_n (os_l (so_aload_n d_Ro_barring_42 rfl)) (os_n (os_l (so_get (C := R_Ro) (T := F_Ro) (N := 18) (j := 3) in_Ro rfl (by decide) mw_335 d_Ro_barring_43)) (os_l (so_iload_n d_Ro_barring_46 rfl)))) (os_n (os_l (so_baload d_Ro_barring_47)) (os_n (os_l (so_ifne d_Ro_barring_48 (by decide))) (os_l (so_aload_n d_Ro_barring_51 rfl))))) (os_n (os_n (os_l (so_get (C := R_Ro) (T := F_Ro) (N := 18) (j := 2) in_Ro rfl (by decide) mw_333 d_Ro_barring_52)) (os_n (os_l (so_iload_n d_Ro_barring_55 rfl)) (os_l (so_iaload d_Ro_barring_56)))) (os_n (os_n (os_l (so_aload_n d_Ro_barring_57 rfl)) (os_l (so_get (C := R_Ro) (T := F_Ro) (N := 18) (j := 6) in_Ro rfl (by decide) mw_340 d_Ro_barring_58))) (os_n (os_l (so_iload_n d_Ro_barring_61 rfl)) (os_l (so_iaload d_Ro_barring_62)))))) (os_n (os_n (os_n (os_l (so_iclt d_Ro_barring_63 (by decide))) (os_n (os_l (so_aload_n d_Ro_barring_66 rfl)) (os_l (so_iload_n d_Ro_barring_67 rfl)))) (os_n (os_l (so_callV (iv := mi_Ro_isOn) rfl rfl rfl mw_1212 mw_1213 mw_1214 mw_10 mw_1215 ⟨by decide +kernel, by decide +kernel, by decide +kernel⟩ (by decide) d_Ro_barring_68)) (os_n (os_l (so_ifeq d_Ro_barring_71 (by decide))) (os_l (so_iload_n d_Ro_barring_74 rfl))))) (os_n (os_n (os_l (so_iconst d_Ro_barring_75 (by decide))) (os_n (os_l (so_iadd d_Ro_barring_76)) (os_l (so_ireturn rfl d_Ro_barring_77)))) (os_n (os_n (os_l (so_iinc d_Ro_barring_78 (by decide) (by decide))) (os_l (so_goto d_Ro_barring_81 (by decide)))) (os_n (os_l (so_iconst d_Ro_barring_84 (by decide))) (os_l (so_ireturn rfl d_Ro_barring_85))))))))
abbrev t_Ro_read_80 : List UInt8 := 172 :: []
abbrev t_Ro_read_77 : List UInt8 := 180 :: 0 :: 64 :: t_Ro_read_80
abbrev t_Ro_read_76 : List UInt8 := 42 :: t_Ro_read_77
abbrev t_Ro_read_73 : List UInt8 := 167 :: 255 :: 224 :: t_Ro_read_76
abbrev t_Ro_read_70 : List UInt8 := 132 :: 2 :: 1 :: t_Ro_read_73
abbrev t_Ro_read_67 : List UInt8 := 182 :: 0 :: 87 :: t_Ro_read_70
abbrev t_Ro_read_66 : List UInt8 := 42 :: t_Ro_read_67
abbrev t_Ro_read_63 : List UInt8 := 162 :: 0 :: 13 :: t_Ro_read_66
abbrev t_Ro_read_60 : List UInt8 := 180 :: 0 :: 82 :: t_Ro_read_63
abbrev t_Ro_read_59 : List UInt8 := 43 :: t_Ro_read_60
abbrev t_Ro_read_56 : List UInt8 := 180 :: 0 :: 79 :: t_Ro_read_59
abbrev t_Ro_read_55 : List UInt8 := 42 :: t_Ro_read_56
abbrev t_Ro_read_52 : List UInt8 := 156 :: 0 :: 24 :: t_Ro_read_55
abbrev t_Ro_read_49 : List UInt8 := 180 :: 0 :: 64 :: t_Ro_read_52
abbrev t_Ro_read_48 : List UInt8 := 42 :: t_Ro_read_49
abbrev t_Ro_read_45 : List UInt8 := 163 :: 0 :: 31 :: t_Ro_read_48
abbrev t_Ro_read_42 : List UInt8 := 17 :: 15 :: 160 :: t_Ro_read_45
abbrev t_Ro_read_41 : List UInt8 := 28 :: t_Ro_read_42
abbrev t_Ro_read_40 : List UInt8 := 61 :: t_Ro_read_41
abbrev t_Ro_read_39 : List UInt8 := 3 :: t_Ro_read_40
abbrev t_Ro_read_36 : List UInt8 := 182 :: 0 :: 76 :: t_Ro_read_39
abbrev t_Ro_read_35 : List UInt8 := 42 :: t_Ro_read_36
abbrev t_Ro_read_32 : List UInt8 := 181 :: 0 :: 73 :: t_Ro_read_35
abbrev t_Ro_read_31 : List UInt8 := 3 :: t_Ro_read_32
abbrev t_Ro_read_30 : List UInt8 := 42 :: t_Ro_read_31
abbrev t_Ro_read_27 : List UInt8 := 181 :: 0 :: 70 :: t_Ro_read_30
abbrev t_Ro_read_26 : List UInt8 := 2 :: t_Ro_read_27
abbrev t_Ro_read_25 : List UInt8 := 42 :: t_Ro_read_26
abbrev t_Ro_read_22 : List UInt8 := 181 :: 0 :: 67 :: t_Ro_read_25
abbrev t_Ro_read_21 : List UInt8 := 3 :: t_Ro_read_22
abbrev t_Ro_read_20 : List UInt8 := 42 :: t_Ro_read_21
abbrev t_Ro_read_17 : List UInt8 := 181 :: 0 :: 64 :: t_Ro_read_20
abbrev t_Ro_read_16 : List UInt8 := 2 :: t_Ro_read_17
abbrev t_Ro_read_15 : List UInt8 := 42 :: t_Ro_read_16
abbrev t_Ro_read_12 : List UInt8 := 181 :: 0 :: 61 :: t_Ro_read_15
abbrev t_Ro_read_11 : List UInt8 := 3 :: t_Ro_read_12
abbrev t_Ro_read_10 : List UInt8 := 42 :: t_Ro_read_11
abbrev t_Ro_read_7 : List UInt8 := 181 :: 0 :: 37 :: t_Ro_read_10
abbrev t_Ro_read_6 : List UInt8 := 3 :: t_Ro_read_7
abbrev t_Ro_read_5 : List UInt8 := 42 :: t_Ro_read_6
abbrev t_Ro_read_2 : List UInt8 := 181 :: 0 :: 57 :: t_Ro_read_5
abbrev t_Ro_read_1 : List UInt8 := 43 :: t_Ro_read_2
abbrev t_Ro_read_0 : List UInt8 := 42 :: t_Ro_read_1
theorem a_Ro_read_0 : dk_at b_Ro_read 0 t_Ro_read_0 := dk_start (by decide +kernel)
theorem a_Ro_read_1 : dk_at b_Ro_read 1 t_Ro_read_1 := dk_go 1 a_Ro_read_0 rfl
theorem a_Ro_read_2 : dk_at b_Ro_read 2 t_Ro_read_2 := dk_go 1 a_Ro_read_1 rfl
theorem a_Ro_read_5 : dk_at b_Ro_read 5 t_Ro_read_5 := dk_go 3 a_Ro_read_2 rfl
theorem a_Ro_read_6 : dk_at b_Ro_read 6 t_Ro_read_6 := dk_go 1 a_Ro_read_5 rfl
theorem a_Ro_read_7 : dk_at b_Ro_read 7 t_Ro_read_7 := dk_go 1 a_Ro_read_6 rfl
theorem a_Ro_read_10 : dk_at b_Ro_read 10 t_Ro_read_10 := dk_go 3 a_Ro_read_7 rfl
theorem a_Ro_read_11 : dk_at b_Ro_read 11 t_Ro_read_11 := dk_go 1 a_Ro_read_10 rfl
theorem a_Ro_read_12 : dk_at b_Ro_read 12 t_Ro_read_12 := dk_go 1 a_Ro_read_11 rfl
theorem a_Ro_read_15 : dk_at b_Ro_read 15 t_Ro_read_15 := dk_go 3 a_Ro_read_12 rfl
theorem a_Ro_read_16 : dk_at b_Ro_read 16 t_Ro_read_16 := dk_go 1 a_Ro_read_15 rfl
theorem a_Ro_read_17 : dk_at b_Ro_read 17 t_Ro_read_17 := dk_go 1 a_Ro_read_16 rfl
theorem a_Ro_read_20 : dk_at b_Ro_read 20 t_Ro_read_20 := dk_go 3 a_Ro_read_17 rfl
theorem a_Ro_read_21 : dk_at b_Ro_read 21 t_Ro_read_21 := dk_go 1 a_Ro_read_20 rfl
theorem a_Ro_read_22 : dk_at b_Ro_read 22 t_Ro_read_22 := dk_go 1 a_Ro_read_21 rfl
theorem a_Ro_read_25 : dk_at b_Ro_read 25 t_Ro_read_25 := dk_go 3 a_Ro_read_22 rfl
theorem a_Ro_read_26 : dk_at b_Ro_read 26 t_Ro_read_26 := dk_go 1 a_Ro_read_25 rfl
theorem a_Ro_read_27 : dk_at b_Ro_read 27 t_Ro_read_27 := dk_go 1 a_Ro_read_26 rfl
theorem a_Ro_read_30 : dk_at b_Ro_read 30 t_Ro_read_30 := dk_go 3 a_Ro_read_27 rfl
theorem a_Ro_read_31 : dk_at b_Ro_read 31 t_Ro_read_31 := dk_go 1 a_Ro_read_30 rfl
theorem a_Ro_read_32 : dk_at b_Ro_read 32 t_Ro_read_32 := dk_go 1 a_Ro_read_31 rfl
theorem a_Ro_read_35 : dk_at b_Ro_read 35 t_Ro_read_35 := dk_go 3 a_Ro_read_32 rfl
theorem a_Ro_read_36 : dk_at b_Ro_read 36 t_Ro_read_36 := dk_go 1 a_Ro_read_35 rfl
theorem a_Ro_read_39 : dk_at b_Ro_read 39 t_Ro_read_39 := dk_go 3 a_Ro_read_36 rfl
theorem a_Ro_read_40 : dk_at b_Ro_read 40 t_Ro_read_40 := dk_go 1 a_Ro_read_39 rfl
theorem a_Ro_read_41 : dk_at b_Ro_read 41 t_Ro_read_41 := dk_go 1 a_Ro_read_40 rfl
theorem a_Ro_read_42 : dk_at b_Ro_read 42 t_Ro_read_42 := dk_go 1 a_Ro_read_41 rfl
theorem a_Ro_read_45 : dk_at b_Ro_read 45 t_Ro_read_45 := dk_go 3 a_Ro_read_42 rfl
theorem a_Ro_read_48 : dk_at b_Ro_read 48 t_Ro_read_48 := dk_go 3 a_Ro_read_45 rfl
theorem a_Ro_read_49 : dk_at b_Ro_read 49 t_Ro_read_49 := dk_go 1 a_Ro_read_48 rfl
theorem a_Ro_read_52 : dk_at b_Ro_read 52 t_Ro_read_52 := dk_go 3 a_Ro_read_49 rfl
theorem a_Ro_read_55 : dk_at b_Ro_read 55 t_Ro_read_55 := dk_go 3 a_Ro_read_52 rfl
theorem a_Ro_read_56 : dk_at b_Ro_read 56 t_Ro_read_56 := dk_go 1 a_Ro_read_55 rfl
theorem a_Ro_read_59 : dk_at b_Ro_read 59 t_Ro_read_59 := dk_go 3 a_Ro_read_56 rfl
theorem a_Ro_read_60 : dk_at b_Ro_read 60 t_Ro_read_60 := dk_go 1 a_Ro_read_59 rfl
theorem a_Ro_read_63 : dk_at b_Ro_read 63 t_Ro_read_63 := dk_go 3 a_Ro_read_60 rfl
theorem a_Ro_read_66 : dk_at b_Ro_read 66 t_Ro_read_66 := dk_go 3 a_Ro_read_63 rfl
theorem a_Ro_read_67 : dk_at b_Ro_read 67 t_Ro_read_67 := dk_go 1 a_Ro_read_66 rfl
theorem a_Ro_read_70 : dk_at b_Ro_read 70 t_Ro_read_70 := dk_go 3 a_Ro_read_67 rfl
theorem a_Ro_read_73 : dk_at b_Ro_read 73 t_Ro_read_73 := dk_go 3 a_Ro_read_70 rfl
theorem a_Ro_read_76 : dk_at b_Ro_read 76 t_Ro_read_76 := dk_go 3 a_Ro_read_73 rfl
theorem a_Ro_read_77 : dk_at b_Ro_read 77 t_Ro_read_77 := dk_go 1 a_Ro_read_76 rfl
theorem a_Ro_read_80 : dk_at b_Ro_read 80 t_Ro_read_80 := dk_go 3 a_Ro_read_77 rfl
theorem d_Ro_read_0 : decode b_Ro_read 0 = .ok (.aload_n 0, 1) := dk_0 a_Ro_read_0 (dko_42 _)
theorem d_Ro_read_1 : decode b_Ro_read 1 = .ok (.aload_n 1, 1) := dk_0 a_Ro_read_1 (dko_43 _)
theorem d_Ro_read_2 : decode b_Ro_read 2 = .ok (.putfield 57, 3) := dk_U2 a_Ro_read_2 (dko_181 _) rfl
theorem d_Ro_read_5 : decode b_Ro_read 5 = .ok (.aload_n 0, 1) := dk_0 a_Ro_read_5 (dko_42 _)
theorem d_Ro_read_6 : decode b_Ro_read 6 = .ok (.iconst 0, 1) := dk_0 a_Ro_read_6 (dko_3 _)
theorem d_Ro_read_7 : decode b_Ro_read 7 = .ok (.putfield 37, 3) := dk_U2 a_Ro_read_7 (dko_181 _) rfl
theorem d_Ro_read_10 : decode b_Ro_read 10 = .ok (.aload_n 0, 1) := dk_0 a_Ro_read_10 (dko_42 _)
theorem d_Ro_read_11 : decode b_Ro_read 11 = .ok (.iconst 0, 1) := dk_0 a_Ro_read_11 (dko_3 _)
theorem d_Ro_read_12 : decode b_Ro_read 12 = .ok (.putfield 61, 3) := dk_U2 a_Ro_read_12 (dko_181 _) rfl
theorem d_Ro_read_15 : decode b_Ro_read 15 = .ok (.aload_n 0, 1) := dk_0 a_Ro_read_15 (dko_42 _)
theorem d_Ro_read_16 : decode b_Ro_read 16 = .ok (.iconst (-1), 1) := dk_0 a_Ro_read_16 (dko_2 _)
theorem d_Ro_read_17 : decode b_Ro_read 17 = .ok (.putfield 64, 3) := dk_U2 a_Ro_read_17 (dko_181 _) rfl
theorem d_Ro_read_20 : decode b_Ro_read 20 = .ok (.aload_n 0, 1) := dk_0 a_Ro_read_20 (dko_42 _)
theorem d_Ro_read_21 : decode b_Ro_read 21 = .ok (.iconst 0, 1) := dk_0 a_Ro_read_21 (dko_3 _)
theorem d_Ro_read_22 : decode b_Ro_read 22 = .ok (.putfield 67, 3) := dk_U2 a_Ro_read_22 (dko_181 _) rfl
theorem d_Ro_read_25 : decode b_Ro_read 25 = .ok (.aload_n 0, 1) := dk_0 a_Ro_read_25 (dko_42 _)
theorem d_Ro_read_26 : decode b_Ro_read 26 = .ok (.iconst (-1), 1) := dk_0 a_Ro_read_26 (dko_2 _)
theorem d_Ro_read_27 : decode b_Ro_read 27 = .ok (.putfield 70, 3) := dk_U2 a_Ro_read_27 (dko_181 _) rfl
theorem d_Ro_read_30 : decode b_Ro_read 30 = .ok (.aload_n 0, 1) := dk_0 a_Ro_read_30 (dko_42 _)
theorem d_Ro_read_31 : decode b_Ro_read 31 = .ok (.iconst 0, 1) := dk_0 a_Ro_read_31 (dko_3 _)
theorem d_Ro_read_32 : decode b_Ro_read 32 = .ok (.putfield 73, 3) := dk_U2 a_Ro_read_32 (dko_181 _) rfl
theorem d_Ro_read_35 : decode b_Ro_read 35 = .ok (.aload_n 0, 1) := dk_0 a_Ro_read_35 (dko_42 _)
theorem d_Ro_read_36 : decode b_Ro_read 36 = .ok (.invokevirtual 76, 3) := dk_U2 a_Ro_read_36 (dko_182 _) rfl
theorem d_Ro_read_39 : decode b_Ro_read 39 = .ok (.iconst 0, 1) := dk_0 a_Ro_read_39 (dko_3 _)
theorem d_Ro_read_40 : decode b_Ro_read 40 = .ok (.istore_n 2, 1) := dk_0 a_Ro_read_40 (dko_61 _)
theorem d_Ro_read_41 : decode b_Ro_read 41 = .ok (.iload_n 2, 1) := dk_0 a_Ro_read_41 (dko_28 _)
theorem d_Ro_read_42 : decode b_Ro_read 42 = .ok (.sipush 4000, 3) := dk_S2 a_Ro_read_42 (dko_17 _) (by decide +kernel)
theorem d_Ro_read_45 : decode b_Ro_read 45 = .ok (.if_icmp .gt 31, 3) := dk_S2 a_Ro_read_45 (dko_163 _) (by decide +kernel)
theorem d_Ro_read_48 : decode b_Ro_read 48 = .ok (.aload_n 0, 1) := dk_0 a_Ro_read_48 (dko_42 _)
theorem d_Ro_read_49 : decode b_Ro_read 49 = .ok (.getfield 64, 3) := dk_U2 a_Ro_read_49 (dko_180 _) rfl
theorem d_Ro_read_52 : decode b_Ro_read 52 = .ok (.ifCond .ge 24, 3) := dk_S2 a_Ro_read_52 (dko_156 _) (by decide +kernel)
theorem d_Ro_read_55 : decode b_Ro_read 55 = .ok (.aload_n 0, 1) := dk_0 a_Ro_read_55 (dko_42 _)
theorem d_Ro_read_56 : decode b_Ro_read 56 = .ok (.getfield 79, 3) := dk_U2 a_Ro_read_56 (dko_180 _) rfl
theorem d_Ro_read_59 : decode b_Ro_read 59 = .ok (.aload_n 1, 1) := dk_0 a_Ro_read_59 (dko_43 _)
theorem d_Ro_read_60 : decode b_Ro_read 60 = .ok (.getfield 82, 3) := dk_U2 a_Ro_read_60 (dko_180 _) rfl
theorem d_Ro_read_63 : decode b_Ro_read 63 = .ok (.if_icmp .ge 13, 3) := dk_S2 a_Ro_read_63 (dko_162 _) (by decide +kernel)
theorem d_Ro_read_66 : decode b_Ro_read 66 = .ok (.aload_n 0, 1) := dk_0 a_Ro_read_66 (dko_42 _)
theorem d_Ro_read_67 : decode b_Ro_read 67 = .ok (.invokevirtual 87, 3) := dk_U2 a_Ro_read_67 (dko_182 _) rfl
theorem d_Ro_read_70 : decode b_Ro_read 70 = .ok (.iinc 2 1, 3) := dk_US a_Ro_read_70 (dko_132 _) (by decide +kernel)
theorem d_Ro_read_73 : decode b_Ro_read 73 = .ok (.goto (-32), 3) := dk_S2 a_Ro_read_73 (dko_167 _) (by decide +kernel)
theorem d_Ro_read_76 : decode b_Ro_read 76 = .ok (.aload_n 0, 1) := dk_0 a_Ro_read_76 (dko_42 _)
theorem d_Ro_read_77 : decode b_Ro_read 77 = .ok (.getfield 64, 3) := dk_U2 a_Ro_read_77 (dko_180 _) rfl
theorem d_Ro_read_80 : decode b_Ro_read 80 = .ok (.ireturn, 1) := dk_0 a_Ro_read_80 (dko_172 _)
set_option maxHeartbeats 4000000 in
set_option maxRecDepth 100000 in
theorem ok_Ro_read (pc : Nat) : OpS mt mi_Ro_read pc (cs_Ro_read pc) := (os_n (os_n (os_n (os_n (os_n (os_l (so_aload_n d_Ro_read_0 rfl)) (os_l (so_aload_n d_Ro_read_1 rfl))) (os_n (os_l (so_putR (D := "BreweryHouse$Tape") (C := R_Ro) (T := F_Ro) (N := 18) (j := 11) in_Ro t_Ro_ok n_Ro rfl (by decide) mw_345 rfl (by decide +kernel) d_Ro_read_2)) (os_n (os_l (so_aload_n d_Ro_read_5 rfl)) (os_l (so_iconst d_Ro_read_6 (by decide)))))) (os_n (os_n (os_l (so_putI (C := R_Ro) (T := F_Ro) (N := 18) (j := 0) in_Ro t_Ro_ok n_Ro rfl (by decide) mw_329 rfl (by decide +kernel) d_Ro_read_7)) (os_l (so_aload_n d_Ro_read_10 rfl))) (os_n (os_l (so_iconst d_Ro_read_11 (by decide))) (os_n (os_l (so_putI (C := R_Ro) (T := F_Ro) (N := 18) (j := 10) in_Ro t_Ro_ok n_Ro rfl (by decide) mw_344 rfl (by decide +kernel) d_Ro_read_12)) (os_l (so_aload_n d_Ro_read_15 rfl)))))) (os_n (os_n (os_n (os_l (so_iconst d_Ro_read_16 (by decide))) (os_l (so_putI (C := R_Ro) (T := F_Ro) (N := 18) (j := 17) in_Ro t_Ro_ok n_Ro rfl (by decide) mw_351 rfl (by decide +kernel) d_Ro_read_17))) (os_n (os_l (so_aload_n d_Ro_read_20 rfl)) (os_n (os_l (so_iconst d_Ro_read_21 (by decide))) (os_l (so_putI (C := R_Ro) (T := F_Ro) (N := 18) (j := 15) in_Ro t_Ro_ok n_Ro rfl (by decide) mw_349 rfl (by decide +kernel) d_Ro_read_22))))) (os_n (os_n (os_l (so_aload_n d_Ro_read_25 rfl)) (os_n (os_l (so_iconst d_Ro_read_26 (by decide))) (os_l (so_putI (C := R_Ro) (T := F_Ro) (N := 18) (j := 14) in_Ro t_Ro_ok n_Ro rfl (by decide) mw_348 rfl (by decide +kernel) d_Ro_read_27)))) (os_n (os_l (so_aload_n d_Ro_read_30 rfl)) (os_n (os_l (so_iconst d_Ro_read_31 (by decide))) (os_l (so_putI (C := R_Ro) (T := F_Ro) (N := 18) (j := 13) in_Ro t_Ro_ok n_Ro rfl (by decide) mw_347 rfl (by decide +kernel) d_Ro_read_32))))))) (os_n (os_n (os_n (os_n (os_l (so_aload_n d_Ro_read_35 rfl)) (os_l (so_callV (iv := mi_Ro_nextWord) rfl rfl rfl mw_815 mw_817 sl_9 mw_10 mw_818 ⟨by decide +kernel, by decide +kernel, by decide +kernel⟩ (by decide) d_Ro_read_36))) (os_n (os_l (so_iconst d_Ro_read_39 (by decide))) (os_n (os_l (so_istore_n d_Ro_read_40 rfl (by decide))) (os_l (so_iload_n d_Ro_read_41 rfl))))) (os_n (os_n (os_l (so_sipush d_Ro_read_42 (by decide))) (os_n (os_l (so_icgt d_Ro_read_45 (by decide))) (os_l (so_aload_n d_Ro_read_48 rfl)))) (os_n (os_l (so_get (C := R_Ro) (T := F_Ro) (N := 18) (j := 17) in_Ro rfl (by decide) mw_351 d_Ro_read_49)) (os_n (os_l (so_ifge d_Ro_read_52 (by decide))) (os_l (so_aload_n d_Ro_read_55 rfl)))))) (os_n (os_n (os_n (os_l (so_get (C := R_Ro) (T := F_Ro) (N := 18) (j := 12) in_Ro rfl (by decide) mw_346 d_Ro_read_56)) (os_l (so_aload_n d_Ro_read_59 rfl))) (os_n (os_l (so_get (C := R_Tp) (T := F_Tp) (N := 3) (j := 2) in_Tp rfl (by decide) mw_45 d_Ro_read_60)) (os_n (os_l (so_icge d_Ro_read_63 (by decide))) (os_l (so_aload_n d_Ro_read_66 rfl))))) (os_n (os_n (os_l (so_callV (iv := mi_Ro_readRow) rfl rfl rfl mw_826 mw_828 sl_10 mw_10 mw_829 ⟨by decide +kernel, by decide +kernel, by decide +kernel⟩ (by decide) d_Ro_read_67)) (os_n (os_l (so_iinc d_Ro_read_70 (by decide) (by decide))) (os_l (so_goto d_Ro_read_73 (by decide))))) (os_n (os_l (so_aload_n d_Ro_read_76 rfl)) (os_n (os_l (so_get (C := R_Ro) (T := F_Ro) (N := 18) (j := 17) in_Ro rfl (by decide) mw_351 d_Ro_read_77)) (os_l (so_ireturn rfl d_Ro_read_80))))))))
abbrev t_Ro_nextWord_166 : List UInt8 := 177 :: []
abbrev t_Ro_nextWord_163 : List UInt8 := 181 :: 0 :: 70 :: t_Ro_nextWord_166
abbrev t_Ro_nextWord_162 : List UInt8 := 96 :: t_Ro_nextWord_163
abbrev t_Ro_nextWord_161 : List UInt8 := 4 :: t_Ro_nextWord_162
abbrev t_Ro_nextWord_158 : List UInt8 := 180 :: 0 :: 70 :: t_Ro_nextWord_161
abbrev t_Ro_nextWord_157 : List UInt8 := 89 :: t_Ro_nextWord_158
abbrev t_Ro_nextWord_156 : List UInt8 := 42 :: t_Ro_nextWord_157
abbrev t_Ro_nextWord_153 : List UInt8 := 181 :: 0 :: 73 :: t_Ro_nextWord_156
abbrev t_Ro_nextWord_152 : List UInt8 := 96 :: t_Ro_nextWord_153
abbrev t_Ro_nextWord_151 : List UInt8 := 4 :: t_Ro_nextWord_152
abbrev t_Ro_nextWord_148 : List UInt8 := 180 :: 0 :: 73 :: t_Ro_nextWord_151
abbrev t_Ro_nextWord_147 : List UInt8 := 89 :: t_Ro_nextWord_148
abbrev t_Ro_nextWord_146 : List UInt8 := 42 :: t_Ro_nextWord_147
abbrev t_Ro_nextWord_143 : List UInt8 := 162 :: 0 :: 13 :: t_Ro_nextWord_146
abbrev t_Ro_nextWord_140 : List UInt8 := 180 :: 0 :: 82 :: t_Ro_nextWord_143
abbrev t_Ro_nextWord_137 : List UInt8 := 180 :: 0 :: 57 :: t_Ro_nextWord_140
abbrev t_Ro_nextWord_136 : List UInt8 := 42 :: t_Ro_nextWord_137
abbrev t_Ro_nextWord_133 : List UInt8 := 180 :: 0 :: 79 :: t_Ro_nextWord_136
abbrev t_Ro_nextWord_132 : List UInt8 := 42 :: t_Ro_nextWord_133
abbrev t_Ro_nextWord_129 : List UInt8 := 160 :: 0 :: 27 :: t_Ro_nextWord_132
abbrev t_Ro_nextWord_126 : List UInt8 := 180 :: 0 :: 79 :: t_Ro_nextWord_129
abbrev t_Ro_nextWord_125 : List UInt8 := 42 :: t_Ro_nextWord_126
abbrev t_Ro_nextWord_122 : List UInt8 := 180 :: 0 :: 73 :: t_Ro_nextWord_125
abbrev t_Ro_nextWord_121 : List UInt8 := 42 :: t_Ro_nextWord_122
abbrev t_Ro_nextWord_118 : List UInt8 := 167 :: 255 :: 198 :: t_Ro_nextWord_121
abbrev t_Ro_nextWord_115 : List UInt8 := 181 :: 0 :: 73 :: t_Ro_nextWord_118
abbrev t_Ro_nextWord_114 : List UInt8 := 96 :: t_Ro_nextWord_115
abbrev t_Ro_nextWord_113 : List UInt8 := 4 :: t_Ro_nextWord_114
abbrev t_Ro_nextWord_110 : List UInt8 := 180 :: 0 :: 73 :: t_Ro_nextWord_113
abbrev t_Ro_nextWord_109 : List UInt8 := 89 :: t_Ro_nextWord_110
abbrev t_Ro_nextWord_108 : List UInt8 := 42 :: t_Ro_nextWord_109
abbrev t_Ro_nextWord_105 : List UInt8 := 154 :: 0 :: 16 :: t_Ro_nextWord_108
abbrev t_Ro_nextWord_102 : List UInt8 := 184 :: 0 :: 97 :: t_Ro_nextWord_105
abbrev t_Ro_nextWord_99 : List UInt8 := 182 :: 0 :: 90 :: t_Ro_nextWord_102
abbrev t_Ro_nextWord_96 : List UInt8 := 180 :: 0 :: 73 :: t_Ro_nextWord_99
abbrev t_Ro_nextWord_95 : List UInt8 := 42 :: t_Ro_nextWord_96
abbrev t_Ro_nextWord_92 : List UInt8 := 180 :: 0 :: 57 :: t_Ro_nextWord_95
abbrev t_Ro_nextWord_91 : List UInt8 := 42 :: t_Ro_nextWord_92
abbrev t_Ro_nextWord_88 : List UInt8 := 154 :: 0 :: 33 :: t_Ro_nextWord_91
abbrev t_Ro_nextWord_85 : List UInt8 := 184 :: 0 :: 94 :: t_Ro_nextWord_88
abbrev t_Ro_nextWord_82 : List UInt8 := 182 :: 0 :: 90 :: t_Ro_nextWord_85
abbrev t_Ro_nextWord_79 : List UInt8 := 180 :: 0 :: 73 :: t_Ro_nextWord_82
abbrev t_Ro_nextWord_78 : List UInt8 := 42 :: t_Ro_nextWord_79
abbrev t_Ro_nextWord_75 : List UInt8 := 180 :: 0 :: 57 :: t_Ro_nextWord_78
abbrev t_Ro_nextWord_74 : List UInt8 := 42 :: t_Ro_nextWord_75
abbrev t_Ro_nextWord_71 : List UInt8 := 162 :: 0 :: 50 :: t_Ro_nextWord_74
abbrev t_Ro_nextWord_68 : List UInt8 := 180 :: 0 :: 82 :: t_Ro_nextWord_71
abbrev t_Ro_nextWord_65 : List UInt8 := 180 :: 0 :: 57 :: t_Ro_nextWord_68
abbrev t_Ro_nextWord_64 : List UInt8 := 42 :: t_Ro_nextWord_65
abbrev t_Ro_nextWord_61 : List UInt8 := 180 :: 0 :: 73 :: t_Ro_nextWord_64
abbrev t_Ro_nextWord_60 : List UInt8 := 42 :: t_Ro_nextWord_61
abbrev t_Ro_nextWord_57 : List UInt8 := 181 :: 0 :: 73 :: t_Ro_nextWord_60
abbrev t_Ro_nextWord_54 : List UInt8 := 180 :: 0 :: 79 :: t_Ro_nextWord_57
abbrev t_Ro_nextWord_53 : List UInt8 := 42 :: t_Ro_nextWord_54
abbrev t_Ro_nextWord_52 : List UInt8 := 42 :: t_Ro_nextWord_53
abbrev t_Ro_nextWord_49 : List UInt8 := 167 :: 255 :: 215 :: t_Ro_nextWord_52
abbrev t_Ro_nextWord_46 : List UInt8 := 181 :: 0 :: 79 :: t_Ro_nextWord_49
abbrev t_Ro_nextWord_45 : List UInt8 := 96 :: t_Ro_nextWord_46
abbrev t_Ro_nextWord_44 : List UInt8 := 4 :: t_Ro_nextWord_45
abbrev t_Ro_nextWord_41 : List UInt8 := 180 :: 0 :: 79 :: t_Ro_nextWord_44
abbrev t_Ro_nextWord_40 : List UInt8 := 89 :: t_Ro_nextWord_41
abbrev t_Ro_nextWord_39 : List UInt8 := 42 :: t_Ro_nextWord_40
abbrev t_Ro_nextWord_36 : List UInt8 := 153 :: 0 :: 16 :: t_Ro_nextWord_39
abbrev t_Ro_nextWord_33 : List UInt8 := 184 :: 0 :: 94 :: t_Ro_nextWord_36
abbrev t_Ro_nextWord_30 : List UInt8 := 182 :: 0 :: 90 :: t_Ro_nextWord_33
abbrev t_Ro_nextWord_27 : List UInt8 := 180 :: 0 :: 79 :: t_Ro_nextWord_30
abbrev t_Ro_nextWord_26 : List UInt8 := 42 :: t_Ro_nextWord_27
abbrev t_Ro_nextWord_23 : List UInt8 := 180 :: 0 :: 57 :: t_Ro_nextWord_26
abbrev t_Ro_nextWord_22 : List UInt8 := 42 :: t_Ro_nextWord_23
abbrev t_Ro_nextWord_19 : List UInt8 := 162 :: 0 :: 33 :: t_Ro_nextWord_22
abbrev t_Ro_nextWord_16 : List UInt8 := 180 :: 0 :: 82 :: t_Ro_nextWord_19
abbrev t_Ro_nextWord_13 : List UInt8 := 180 :: 0 :: 57 :: t_Ro_nextWord_16
abbrev t_Ro_nextWord_12 : List UInt8 := 42 :: t_Ro_nextWord_13
abbrev t_Ro_nextWord_9 : List UInt8 := 180 :: 0 :: 79 :: t_Ro_nextWord_12
abbrev t_Ro_nextWord_8 : List UInt8 := 42 :: t_Ro_nextWord_9
abbrev t_Ro_nextWord_5 : List UInt8 := 181 :: 0 :: 79 :: t_Ro_nextWord_8
abbrev t_Ro_nextWord_2 : List UInt8 := 180 :: 0 :: 73 :: t_Ro_nextWord_5
abbrev t_Ro_nextWord_1 : List UInt8 := 42 :: t_Ro_nextWord_2
abbrev t_Ro_nextWord_0 : List UInt8 := 42 :: t_Ro_nextWord_1
theorem a_Ro_nextWord_0 : dk_at b_Ro_nextWord 0 t_Ro_nextWord_0 := dk_start (by decide +kernel)
theorem a_Ro_nextWord_1 : dk_at b_Ro_nextWord 1 t_Ro_nextWord_1 := dk_go 1 a_Ro_nextWord_0 rfl
theorem a_Ro_nextWord_2 : dk_at b_Ro_nextWord 2 t_Ro_nextWord_2 := dk_go 1 a_Ro_nextWord_1 rfl
theorem a_Ro_nextWord_5 : dk_at b_Ro_nextWord 5 t_Ro_nextWord_5 := dk_go 3 a_Ro_nextWord_2 rfl
theorem a_Ro_nextWord_8 : dk_at b_Ro_nextWord 8 t_Ro_nextWord_8 := dk_go 3 a_Ro_nextWord_5 rfl
theorem a_Ro_nextWord_9 : dk_at b_Ro_nextWord 9 t_Ro_nextWord_9 := dk_go 1 a_Ro_nextWord_8 rfl
theorem a_Ro_nextWord_12 : dk_at b_Ro_nextWord 12 t_Ro_nextWord_12 := dk_go 3 a_Ro_nextWord_9 rfl
theorem a_Ro_nextWord_13 : dk_at b_Ro_nextWord 13 t_Ro_nextWord_13 := dk_go 1 a_Ro_nextWord_12 rfl
theorem a_Ro_nextWord_16 : dk_at b_Ro_nextWord 16 t_Ro_nextWord_16 := dk_go 3 a_Ro_nextWord_13 rfl
theorem a_Ro_nextWord_19 : dk_at b_Ro_nextWord 19 t_Ro_nextWord_19 := dk_go 3 a_Ro_nextWord_16 rfl
theorem a_Ro_nextWord_22 : dk_at b_Ro_nextWord 22 t_Ro_nextWord_22 := dk_go 3 a_Ro_nextWord_19 rfl
theorem a_Ro_nextWord_23 : dk_at b_Ro_nextWord 23 t_Ro_nextWord_23 := dk_go 1 a_Ro_nextWord_22 rfl
theorem a_Ro_nextWord_26 : dk_at b_Ro_nextWord 26 t_Ro_nextWord_26 := dk_go 3 a_Ro_nextWord_23 rfl
theorem a_Ro_nextWord_27 : dk_at b_Ro_nextWord 27 t_Ro_nextWord_27 := dk_go 1 a_Ro_nextWord_26 rfl
theorem a_Ro_nextWord_30 : dk_at b_Ro_nextWord 30 t_Ro_nextWord_30 := dk_go 3 a_Ro_nextWord_27 rfl
theorem a_Ro_nextWord_33 : dk_at b_Ro_nextWord 33 t_Ro_nextWord_33 := dk_go 3 a_Ro_nextWord_30 rfl
theorem a_Ro_nextWord_36 : dk_at b_Ro_nextWord 36 t_Ro_nextWord_36 := dk_go 3 a_Ro_nextWord_33 rfl
theorem a_Ro_nextWord_39 : dk_at b_Ro_nextWord 39 t_Ro_nextWord_39 := dk_go 3 a_Ro_nextWord_36 rfl
theorem a_Ro_nextWord_40 : dk_at b_Ro_nextWord 40 t_Ro_nextWord_40 := dk_go 1 a_Ro_nextWord_39 rfl
theorem a_Ro_nextWord_41 : dk_at b_Ro_nextWord 41 t_Ro_nextWord_41 := dk_go 1 a_Ro_nextWord_40 rfl
theorem a_Ro_nextWord_44 : dk_at b_Ro_nextWord 44 t_Ro_nextWord_44 := dk_go 3 a_Ro_nextWord_41 rfl
theorem a_Ro_nextWord_45 : dk_at b_Ro_nextWord 45 t_Ro_nextWord_45 := dk_go 1 a_Ro_nextWord_44 rfl
theorem a_Ro_nextWord_46 : dk_at b_Ro_nextWord 46 t_Ro_nextWord_46 := dk_go 1 a_Ro_nextWord_45 rfl
theorem a_Ro_nextWord_49 : dk_at b_Ro_nextWord 49 t_Ro_nextWord_49 := dk_go 3 a_Ro_nextWord_46 rfl
theorem a_Ro_nextWord_52 : dk_at b_Ro_nextWord 52 t_Ro_nextWord_52 := dk_go 3 a_Ro_nextWord_49 rfl
theorem a_Ro_nextWord_53 : dk_at b_Ro_nextWord 53 t_Ro_nextWord_53 := dk_go 1 a_Ro_nextWord_52 rfl
theorem a_Ro_nextWord_54 : dk_at b_Ro_nextWord 54 t_Ro_nextWord_54 := dk_go 1 a_Ro_nextWord_53 rfl
theorem a_Ro_nextWord_57 : dk_at b_Ro_nextWord 57 t_Ro_nextWord_57 := dk_go 3 a_Ro_nextWord_54 rfl
theorem a_Ro_nextWord_60 : dk_at b_Ro_nextWord 60 t_Ro_nextWord_60 := dk_go 3 a_Ro_nextWord_57 rfl
theorem a_Ro_nextWord_61 : dk_at b_Ro_nextWord 61 t_Ro_nextWord_61 := dk_go 1 a_Ro_nextWord_60 rfl
theorem a_Ro_nextWord_64 : dk_at b_Ro_nextWord 64 t_Ro_nextWord_64 := dk_go 3 a_Ro_nextWord_61 rfl
theorem a_Ro_nextWord_65 : dk_at b_Ro_nextWord 65 t_Ro_nextWord_65 := dk_go 1 a_Ro_nextWord_64 rfl
theorem a_Ro_nextWord_68 : dk_at b_Ro_nextWord 68 t_Ro_nextWord_68 := dk_go 3 a_Ro_nextWord_65 rfl
theorem a_Ro_nextWord_71 : dk_at b_Ro_nextWord 71 t_Ro_nextWord_71 := dk_go 3 a_Ro_nextWord_68 rfl
theorem a_Ro_nextWord_74 : dk_at b_Ro_nextWord 74 t_Ro_nextWord_74 := dk_go 3 a_Ro_nextWord_71 rfl
theorem a_Ro_nextWord_75 : dk_at b_Ro_nextWord 75 t_Ro_nextWord_75 := dk_go 1 a_Ro_nextWord_74 rfl
theorem a_Ro_nextWord_78 : dk_at b_Ro_nextWord 78 t_Ro_nextWord_78 := dk_go 3 a_Ro_nextWord_75 rfl
theorem a_Ro_nextWord_79 : dk_at b_Ro_nextWord 79 t_Ro_nextWord_79 := dk_go 1 a_Ro_nextWord_78 rfl
theorem a_Ro_nextWord_82 : dk_at b_Ro_nextWord 82 t_Ro_nextWord_82 := dk_go 3 a_Ro_nextWord_79 rfl
theorem a_Ro_nextWord_85 : dk_at b_Ro_nextWord 85 t_Ro_nextWord_85 := dk_go 3 a_Ro_nextWord_82 rfl
theorem a_Ro_nextWord_88 : dk_at b_Ro_nextWord 88 t_Ro_nextWord_88 := dk_go 3 a_Ro_nextWord_85 rfl
theorem a_Ro_nextWord_91 : dk_at b_Ro_nextWord 91 t_Ro_nextWord_91 := dk_go 3 a_Ro_nextWord_88 rfl
theorem a_Ro_nextWord_92 : dk_at b_Ro_nextWord 92 t_Ro_nextWord_92 := dk_go 1 a_Ro_nextWord_91 rfl
theorem a_Ro_nextWord_95 : dk_at b_Ro_nextWord 95 t_Ro_nextWord_95 := dk_go 3 a_Ro_nextWord_92 rfl
theorem a_Ro_nextWord_96 : dk_at b_Ro_nextWord 96 t_Ro_nextWord_96 := dk_go 1 a_Ro_nextWord_95 rfl
theorem a_Ro_nextWord_99 : dk_at b_Ro_nextWord 99 t_Ro_nextWord_99 := dk_go 3 a_Ro_nextWord_96 rfl
theorem a_Ro_nextWord_102 : dk_at b_Ro_nextWord 102 t_Ro_nextWord_102 := dk_go 3 a_Ro_nextWord_99 rfl
theorem a_Ro_nextWord_105 : dk_at b_Ro_nextWord 105 t_Ro_nextWord_105 := dk_go 3 a_Ro_nextWord_102 rfl
theorem a_Ro_nextWord_108 : dk_at b_Ro_nextWord 108 t_Ro_nextWord_108 := dk_go 3 a_Ro_nextWord_105 rfl
theorem a_Ro_nextWord_109 : dk_at b_Ro_nextWord 109 t_Ro_nextWord_109 := dk_go 1 a_Ro_nextWord_108 rfl
theorem a_Ro_nextWord_110 : dk_at b_Ro_nextWord 110 t_Ro_nextWord_110 := dk_go 1 a_Ro_nextWord_109 rfl
theorem a_Ro_nextWord_113 : dk_at b_Ro_nextWord 113 t_Ro_nextWord_113 := dk_go 3 a_Ro_nextWord_110 rfl
theorem a_Ro_nextWord_114 : dk_at b_Ro_nextWord 114 t_Ro_nextWord_114 := dk_go 1 a_Ro_nextWord_113 rfl
theorem a_Ro_nextWord_115 : dk_at b_Ro_nextWord 115 t_Ro_nextWord_115 := dk_go 1 a_Ro_nextWord_114 rfl
theorem a_Ro_nextWord_118 : dk_at b_Ro_nextWord 118 t_Ro_nextWord_118 := dk_go 3 a_Ro_nextWord_115 rfl
theorem a_Ro_nextWord_121 : dk_at b_Ro_nextWord 121 t_Ro_nextWord_121 := dk_go 3 a_Ro_nextWord_118 rfl
theorem a_Ro_nextWord_122 : dk_at b_Ro_nextWord 122 t_Ro_nextWord_122 := dk_go 1 a_Ro_nextWord_121 rfl
theorem a_Ro_nextWord_125 : dk_at b_Ro_nextWord 125 t_Ro_nextWord_125 := dk_go 3 a_Ro_nextWord_122 rfl
theorem a_Ro_nextWord_126 : dk_at b_Ro_nextWord 126 t_Ro_nextWord_126 := dk_go 1 a_Ro_nextWord_125 rfl
theorem a_Ro_nextWord_129 : dk_at b_Ro_nextWord 129 t_Ro_nextWord_129 := dk_go 3 a_Ro_nextWord_126 rfl
theorem a_Ro_nextWord_132 : dk_at b_Ro_nextWord 132 t_Ro_nextWord_132 := dk_go 3 a_Ro_nextWord_129 rfl
theorem a_Ro_nextWord_133 : dk_at b_Ro_nextWord 133 t_Ro_nextWord_133 := dk_go 1 a_Ro_nextWord_132 rfl
theorem a_Ro_nextWord_136 : dk_at b_Ro_nextWord 136 t_Ro_nextWord_136 := dk_go 3 a_Ro_nextWord_133 rfl
theorem a_Ro_nextWord_137 : dk_at b_Ro_nextWord 137 t_Ro_nextWord_137 := dk_go 1 a_Ro_nextWord_136 rfl
theorem a_Ro_nextWord_140 : dk_at b_Ro_nextWord 140 t_Ro_nextWord_140 := dk_go 3 a_Ro_nextWord_137 rfl
theorem a_Ro_nextWord_143 : dk_at b_Ro_nextWord 143 t_Ro_nextWord_143 := dk_go 3 a_Ro_nextWord_140 rfl
theorem a_Ro_nextWord_146 : dk_at b_Ro_nextWord 146 t_Ro_nextWord_146 := dk_go 3 a_Ro_nextWord_143 rfl
theorem a_Ro_nextWord_147 : dk_at b_Ro_nextWord 147 t_Ro_nextWord_147 := dk_go 1 a_Ro_nextWord_146 rfl
theorem a_Ro_nextWord_148 : dk_at b_Ro_nextWord 148 t_Ro_nextWord_148 := dk_go 1 a_Ro_nextWord_147 rfl
theorem a_Ro_nextWord_151 : dk_at b_Ro_nextWord 151 t_Ro_nextWord_151 := dk_go 3 a_Ro_nextWord_148 rfl
theorem a_Ro_nextWord_152 : dk_at b_Ro_nextWord 152 t_Ro_nextWord_152 := dk_go 1 a_Ro_nextWord_151 rfl
theorem a_Ro_nextWord_153 : dk_at b_Ro_nextWord 153 t_Ro_nextWord_153 := dk_go 1 a_Ro_nextWord_152 rfl
theorem a_Ro_nextWord_156 : dk_at b_Ro_nextWord 156 t_Ro_nextWord_156 := dk_go 3 a_Ro_nextWord_153 rfl
theorem a_Ro_nextWord_157 : dk_at b_Ro_nextWord 157 t_Ro_nextWord_157 := dk_go 1 a_Ro_nextWord_156 rfl
theorem a_Ro_nextWord_158 : dk_at b_Ro_nextWord 158 t_Ro_nextWord_158 := dk_go 1 a_Ro_nextWord_157 rfl
theorem a_Ro_nextWord_161 : dk_at b_Ro_nextWord 161 t_Ro_nextWord_161 := dk_go 3 a_Ro_nextWord_158 rfl
theorem a_Ro_nextWord_162 : dk_at b_Ro_nextWord 162 t_Ro_nextWord_162 := dk_go 1 a_Ro_nextWord_161 rfl
theorem a_Ro_nextWord_163 : dk_at b_Ro_nextWord 163 t_Ro_nextWord_163 := dk_go 1 a_Ro_nextWord_162 rfl
theorem a_Ro_nextWord_166 : dk_at b_Ro_nextWord 166 t_Ro_nextWord_166 := dk_go 3 a_Ro_nextWord_163 rfl
theorem d_Ro_nextWord_0 : decode b_Ro_nextWord 0 = .ok (.aload_n 0, 1) := dk_0 a_Ro_nextWord_0 (dko_42 _)
theorem d_Ro_nextWord_1 : decode b_Ro_nextWord 1 = .ok (.aload_n 0, 1) := dk_0 a_Ro_nextWord_1 (dko_42 _)
theorem d_Ro_nextWord_2 : decode b_Ro_nextWord 2 = .ok (.getfield 73, 3) := dk_U2 a_Ro_nextWord_2 (dko_180 _) rfl
theorem d_Ro_nextWord_5 : decode b_Ro_nextWord 5 = .ok (.putfield 79, 3) := dk_U2 a_Ro_nextWord_5 (dko_181 _) rfl
theorem d_Ro_nextWord_8 : decode b_Ro_nextWord 8 = .ok (.aload_n 0, 1) := dk_0 a_Ro_nextWord_8 (dko_42 _)
theorem d_Ro_nextWord_9 : decode b_Ro_nextWord 9 = .ok (.getfield 79, 3) := dk_U2 a_Ro_nextWord_9 (dko_180 _) rfl
theorem d_Ro_nextWord_12 : decode b_Ro_nextWord 12 = .ok (.aload_n 0, 1) := dk_0 a_Ro_nextWord_12 (dko_42 _)
theorem d_Ro_nextWord_13 : decode b_Ro_nextWord 13 = .ok (.getfield 57, 3) := dk_U2 a_Ro_nextWord_13 (dko_180 _) rfl
theorem d_Ro_nextWord_16 : decode b_Ro_nextWord 16 = .ok (.getfield 82, 3) := dk_U2 a_Ro_nextWord_16 (dko_180 _) rfl
theorem d_Ro_nextWord_19 : decode b_Ro_nextWord 19 = .ok (.if_icmp .ge 33, 3) := dk_S2 a_Ro_nextWord_19 (dko_162 _) (by decide +kernel)
theorem d_Ro_nextWord_22 : decode b_Ro_nextWord 22 = .ok (.aload_n 0, 1) := dk_0 a_Ro_nextWord_22 (dko_42 _)
theorem d_Ro_nextWord_23 : decode b_Ro_nextWord 23 = .ok (.getfield 57, 3) := dk_U2 a_Ro_nextWord_23 (dko_180 _) rfl
theorem d_Ro_nextWord_26 : decode b_Ro_nextWord 26 = .ok (.aload_n 0, 1) := dk_0 a_Ro_nextWord_26 (dko_42 _)
theorem d_Ro_nextWord_27 : decode b_Ro_nextWord 27 = .ok (.getfield 79, 3) := dk_U2 a_Ro_nextWord_27 (dko_180 _) rfl
theorem d_Ro_nextWord_30 : decode b_Ro_nextWord 30 = .ok (.invokevirtual 90, 3) := dk_U2 a_Ro_nextWord_30 (dko_182 _) rfl
theorem d_Ro_nextWord_33 : decode b_Ro_nextWord 33 = .ok (.invokestatic 94, 3) := dk_U2 a_Ro_nextWord_33 (dko_184 _) rfl
theorem d_Ro_nextWord_36 : decode b_Ro_nextWord 36 = .ok (.ifCond .eq 16, 3) := dk_S2 a_Ro_nextWord_36 (dko_153 _) (by decide +kernel)
theorem d_Ro_nextWord_39 : decode b_Ro_nextWord 39 = .ok (.aload_n 0, 1) := dk_0 a_Ro_nextWord_39 (dko_42 _)
theorem d_Ro_nextWord_40 : decode b_Ro_nextWord 40 = .ok (.dup, 1) := dk_0 a_Ro_nextWord_40 (dko_89 _)
theorem d_Ro_nextWord_41 : decode b_Ro_nextWord 41 = .ok (.getfield 79, 3) := dk_U2 a_Ro_nextWord_41 (dko_180 _) rfl
theorem d_Ro_nextWord_44 : decode b_Ro_nextWord 44 = .ok (.iconst 1, 1) := dk_0 a_Ro_nextWord_44 (dko_4 _)
theorem d_Ro_nextWord_45 : decode b_Ro_nextWord 45 = .ok (.iadd, 1) := dk_0 a_Ro_nextWord_45 (dko_96 _)
theorem d_Ro_nextWord_46 : decode b_Ro_nextWord 46 = .ok (.putfield 79, 3) := dk_U2 a_Ro_nextWord_46 (dko_181 _) rfl
theorem d_Ro_nextWord_49 : decode b_Ro_nextWord 49 = .ok (.goto (-41), 3) := dk_S2 a_Ro_nextWord_49 (dko_167 _) (by decide +kernel)
theorem d_Ro_nextWord_52 : decode b_Ro_nextWord 52 = .ok (.aload_n 0, 1) := dk_0 a_Ro_nextWord_52 (dko_42 _)
theorem d_Ro_nextWord_53 : decode b_Ro_nextWord 53 = .ok (.aload_n 0, 1) := dk_0 a_Ro_nextWord_53 (dko_42 _)
theorem d_Ro_nextWord_54 : decode b_Ro_nextWord 54 = .ok (.getfield 79, 3) := dk_U2 a_Ro_nextWord_54 (dko_180 _) rfl
theorem d_Ro_nextWord_57 : decode b_Ro_nextWord 57 = .ok (.putfield 73, 3) := dk_U2 a_Ro_nextWord_57 (dko_181 _) rfl
theorem d_Ro_nextWord_60 : decode b_Ro_nextWord 60 = .ok (.aload_n 0, 1) := dk_0 a_Ro_nextWord_60 (dko_42 _)
theorem d_Ro_nextWord_61 : decode b_Ro_nextWord 61 = .ok (.getfield 73, 3) := dk_U2 a_Ro_nextWord_61 (dko_180 _) rfl
theorem d_Ro_nextWord_64 : decode b_Ro_nextWord 64 = .ok (.aload_n 0, 1) := dk_0 a_Ro_nextWord_64 (dko_42 _)
theorem d_Ro_nextWord_65 : decode b_Ro_nextWord 65 = .ok (.getfield 57, 3) := dk_U2 a_Ro_nextWord_65 (dko_180 _) rfl
theorem d_Ro_nextWord_68 : decode b_Ro_nextWord 68 = .ok (.getfield 82, 3) := dk_U2 a_Ro_nextWord_68 (dko_180 _) rfl
theorem d_Ro_nextWord_71 : decode b_Ro_nextWord 71 = .ok (.if_icmp .ge 50, 3) := dk_S2 a_Ro_nextWord_71 (dko_162 _) (by decide +kernel)
theorem d_Ro_nextWord_74 : decode b_Ro_nextWord 74 = .ok (.aload_n 0, 1) := dk_0 a_Ro_nextWord_74 (dko_42 _)
theorem d_Ro_nextWord_75 : decode b_Ro_nextWord 75 = .ok (.getfield 57, 3) := dk_U2 a_Ro_nextWord_75 (dko_180 _) rfl
theorem d_Ro_nextWord_78 : decode b_Ro_nextWord 78 = .ok (.aload_n 0, 1) := dk_0 a_Ro_nextWord_78 (dko_42 _)
theorem d_Ro_nextWord_79 : decode b_Ro_nextWord 79 = .ok (.getfield 73, 3) := dk_U2 a_Ro_nextWord_79 (dko_180 _) rfl
theorem d_Ro_nextWord_82 : decode b_Ro_nextWord 82 = .ok (.invokevirtual 90, 3) := dk_U2 a_Ro_nextWord_82 (dko_182 _) rfl
theorem d_Ro_nextWord_85 : decode b_Ro_nextWord 85 = .ok (.invokestatic 94, 3) := dk_U2 a_Ro_nextWord_85 (dko_184 _) rfl
theorem d_Ro_nextWord_88 : decode b_Ro_nextWord 88 = .ok (.ifCond .ne 33, 3) := dk_S2 a_Ro_nextWord_88 (dko_154 _) (by decide +kernel)
theorem d_Ro_nextWord_91 : decode b_Ro_nextWord 91 = .ok (.aload_n 0, 1) := dk_0 a_Ro_nextWord_91 (dko_42 _)
theorem d_Ro_nextWord_92 : decode b_Ro_nextWord 92 = .ok (.getfield 57, 3) := dk_U2 a_Ro_nextWord_92 (dko_180 _) rfl
theorem d_Ro_nextWord_95 : decode b_Ro_nextWord 95 = .ok (.aload_n 0, 1) := dk_0 a_Ro_nextWord_95 (dko_42 _)
theorem d_Ro_nextWord_96 : decode b_Ro_nextWord 96 = .ok (.getfield 73, 3) := dk_U2 a_Ro_nextWord_96 (dko_180 _) rfl
theorem d_Ro_nextWord_99 : decode b_Ro_nextWord 99 = .ok (.invokevirtual 90, 3) := dk_U2 a_Ro_nextWord_99 (dko_182 _) rfl
theorem d_Ro_nextWord_102 : decode b_Ro_nextWord 102 = .ok (.invokestatic 97, 3) := dk_U2 a_Ro_nextWord_102 (dko_184 _) rfl
theorem d_Ro_nextWord_105 : decode b_Ro_nextWord 105 = .ok (.ifCond .ne 16, 3) := dk_S2 a_Ro_nextWord_105 (dko_154 _) (by decide +kernel)
theorem d_Ro_nextWord_108 : decode b_Ro_nextWord 108 = .ok (.aload_n 0, 1) := dk_0 a_Ro_nextWord_108 (dko_42 _)
theorem d_Ro_nextWord_109 : decode b_Ro_nextWord 109 = .ok (.dup, 1) := dk_0 a_Ro_nextWord_109 (dko_89 _)
theorem d_Ro_nextWord_110 : decode b_Ro_nextWord 110 = .ok (.getfield 73, 3) := dk_U2 a_Ro_nextWord_110 (dko_180 _) rfl
theorem d_Ro_nextWord_113 : decode b_Ro_nextWord 113 = .ok (.iconst 1, 1) := dk_0 a_Ro_nextWord_113 (dko_4 _)
theorem d_Ro_nextWord_114 : decode b_Ro_nextWord 114 = .ok (.iadd, 1) := dk_0 a_Ro_nextWord_114 (dko_96 _)
theorem d_Ro_nextWord_115 : decode b_Ro_nextWord 115 = .ok (.putfield 73, 3) := dk_U2 a_Ro_nextWord_115 (dko_181 _) rfl
theorem d_Ro_nextWord_118 : decode b_Ro_nextWord 118 = .ok (.goto (-58), 3) := dk_S2 a_Ro_nextWord_118 (dko_167 _) (by decide +kernel)
theorem d_Ro_nextWord_121 : decode b_Ro_nextWord 121 = .ok (.aload_n 0, 1) := dk_0 a_Ro_nextWord_121 (dko_42 _)
theorem d_Ro_nextWord_122 : decode b_Ro_nextWord 122 = .ok (.getfield 73, 3) := dk_U2 a_Ro_nextWord_122 (dko_180 _) rfl
theorem d_Ro_nextWord_125 : decode b_Ro_nextWord 125 = .ok (.aload_n 0, 1) := dk_0 a_Ro_nextWord_125 (dko_42 _)
theorem d_Ro_nextWord_126 : decode b_Ro_nextWord 126 = .ok (.getfield 79, 3) := dk_U2 a_Ro_nextWord_126 (dko_180 _) rfl
theorem d_Ro_nextWord_129 : decode b_Ro_nextWord 129 = .ok (.if_icmp .ne 27, 3) := dk_S2 a_Ro_nextWord_129 (dko_160 _) (by decide +kernel)
theorem d_Ro_nextWord_132 : decode b_Ro_nextWord 132 = .ok (.aload_n 0, 1) := dk_0 a_Ro_nextWord_132 (dko_42 _)
theorem d_Ro_nextWord_133 : decode b_Ro_nextWord 133 = .ok (.getfield 79, 3) := dk_U2 a_Ro_nextWord_133 (dko_180 _) rfl
theorem d_Ro_nextWord_136 : decode b_Ro_nextWord 136 = .ok (.aload_n 0, 1) := dk_0 a_Ro_nextWord_136 (dko_42 _)
theorem d_Ro_nextWord_137 : decode b_Ro_nextWord 137 = .ok (.getfield 57, 3) := dk_U2 a_Ro_nextWord_137 (dko_180 _) rfl
theorem d_Ro_nextWord_140 : decode b_Ro_nextWord 140 = .ok (.getfield 82, 3) := dk_U2 a_Ro_nextWord_140 (dko_180 _) rfl
theorem d_Ro_nextWord_143 : decode b_Ro_nextWord 143 = .ok (.if_icmp .ge 13, 3) := dk_S2 a_Ro_nextWord_143 (dko_162 _) (by decide +kernel)
theorem d_Ro_nextWord_146 : decode b_Ro_nextWord 146 = .ok (.aload_n 0, 1) := dk_0 a_Ro_nextWord_146 (dko_42 _)
theorem d_Ro_nextWord_147 : decode b_Ro_nextWord 147 = .ok (.dup, 1) := dk_0 a_Ro_nextWord_147 (dko_89 _)
theorem d_Ro_nextWord_148 : decode b_Ro_nextWord 148 = .ok (.getfield 73, 3) := dk_U2 a_Ro_nextWord_148 (dko_180 _) rfl
theorem d_Ro_nextWord_151 : decode b_Ro_nextWord 151 = .ok (.iconst 1, 1) := dk_0 a_Ro_nextWord_151 (dko_4 _)
theorem d_Ro_nextWord_152 : decode b_Ro_nextWord 152 = .ok (.iadd, 1) := dk_0 a_Ro_nextWord_152 (dko_96 _)
theorem d_Ro_nextWord_153 : decode b_Ro_nextWord 153 = .ok (.putfield 73, 3) := dk_U2 a_Ro_nextWord_153 (dko_181 _) rfl
theorem d_Ro_nextWord_156 : decode b_Ro_nextWord 156 = .ok (.aload_n 0, 1) := dk_0 a_Ro_nextWord_156 (dko_42 _)
theorem d_Ro_nextWord_157 : decode b_Ro_nextWord 157 = .ok (.dup, 1) := dk_0 a_Ro_nextWord_157 (dko_89 _)
theorem d_Ro_nextWord_158 : decode b_Ro_nextWord 158 = .ok (.getfield 70, 3) := dk_U2 a_Ro_nextWord_158 (dko_180 _) rfl
theorem d_Ro_nextWord_161 : decode b_Ro_nextWord 161 = .ok (.iconst 1, 1) := dk_0 a_Ro_nextWord_161 (dko_4 _)
theorem d_Ro_nextWord_162 : decode b_Ro_nextWord 162 = .ok (.iadd, 1) := dk_0 a_Ro_nextWord_162 (dko_96 _)
theorem d_Ro_nextWord_163 : decode b_Ro_nextWord 163 = .ok (.putfield 70, 3) := dk_U2 a_Ro_nextWord_163 (dko_181 _) rfl
theorem d_Ro_nextWord_166 : decode b_Ro_nextWord 166 = .ok (.return_, 1) := dk_0 a_Ro_nextWord_166 (dko_177 _)
set_option maxHeartbeats 4000000 in
set_option maxRecDepth 100000 in
theorem ok_Ro_nextWord (pc : Nat) : OpS mt mi_Ro_nextWord pc (cs_Ro_nextWord pc) := (os_n (os_n (os_n (os_n (os_n (os_n (os_l (so_aload_n d_Ro_nextWord_0 rfl)) (os_l (so_aload_n d_Ro_nextWord_1 rfl))) (os_n (os_l (so_get (C := R_Ro) (T := F_Ro) (N := 18) (j := 13) in_Ro rfl (by decide) mw_347 d_Ro_nextWord_2)) (os_l (so_putI (C := R_Ro) (T := F_Ro) (N := 18) (j := 12) in_Ro t_Ro_ok n_Ro rfl (by decide) mw_346 rfl (by decide +kernel) d_Ro_nextWord_5)))) (os_n (os_n (os_l (so_aload_n d_Ro_nextWord_8 rfl)) (os_l (so_get (C := R_Ro) (T := F_Ro) (N := 18) (j := 12) in_Ro rfl (by decide) mw_346 d_Ro_nextWord_9))) (os_n (os_l (so_aload_n d_Ro_nextWord_12 rfl)) (os_n (os_l (so_get (C := R_Ro) (T := F_Ro) (N := 18) (j := 11) in_Ro rfl (by decide) mw_345 d_Ro_nextWord_13)) (os_l (so_get (C := R_Tp) (T := F_Tp) (N := 3) (j := 2) in_Tp rfl (by decide) mw_45 d_Ro_nextWord_16)))))) (os_n (os_n (os_n (os_l (so_icge d_Ro_nextWord_19 (by decide))) (os_l (so_aload_n d_Ro_nextWord_22 rfl))) (os_n (os_l (so_get (C := R_Ro) (T := F_Ro) (N := 18) (j := 11) in_Ro rfl (by decide) mw_345 d_Ro_nextWord_23)) (os_n (os_l (so_aload_n d_Ro_nextWord_26 rfl)) (os_l (so_get (C := R_Ro) (T := F_Ro) (N := 18) (j := 12) in_Ro rfl (by decide) mw_346 d_Ro_nextWord_27))))) (os_n (os_n (os_l (so_callV (iv := mi_Tp_at) rfl rfl rfl mw_819 mw_754 mw_755 mw_2 mw_756 ⟨by decide +kernel, by decide +kernel, by decide +kernel⟩ (by decide) d_Ro_nextWord_30)) (os_l (so_callS (iv := mi_Tp_isBlank) rfl mw_820 mw_821 mw_2 mw_822 ⟨by decide +kernel, by decide +kernel, by decide +kernel⟩ (by decide) d_Ro_nextWord_33))) (os_n (os_l (so_ifeq d_Ro_nextWord_36 (by decide))) (os_n (os_l (so_aload_n d_Ro_nextWord_39 rfl)) (os_l (so_dup d_Ro_nextWord_40))))))) (os_n (os_n (os_n (os_n (os_l (so_get (C := R_Ro) (T := F_Ro) (N := 18) (j := 12) in_Ro rfl (by decide) mw_346 d_Ro_nextWord_41)) (os_l (so_iconst d_Ro_nextWord_44 (by decide)))) (os_n (os_l (so_iadd d_Ro_nextWord_45)) (os_n (os_l (so_putI (C := R_Ro) (T := F_Ro) (N := 18) (j := 12) in_Ro t_Ro_ok n_Ro rfl (by decide) mw_346 rfl (by decide +kernel) d_Ro_nextWord_46)) (os_l (so_goto d_Ro_nextWord_49 (by decide)))))) (os_n (os_n (os_l (so_aload_n d_Ro_nextWord_52 rfl)) (os_l (so_aload_n d_Ro_nextWord_53 rfl))) (os_n (os_l (so_get (C := R_Ro) (T := F_Ro) (N := 18) (j := 12) in_Ro rfl (by decide) mw_346 d_Ro_nextWord_54)) (os_n (os_l (so_putI (C := R_Ro) (T := F_Ro) (N := 18) (j := 13) in_Ro t_Ro_ok n_Ro rfl (by decide) mw_347 rfl (by decide +kernel) d_Ro_nextWord_57)) (os_l (so_aload_n d_Ro_nextWord_60 rfl)))))) (os_n (os_n (os_n (os_l (so_get (C := R_Ro) (T := F_Ro) (N := 18) (j := 13) in_Ro rfl (by decide) mw_347 d_Ro_nextWord_61)) (os_l (so_aload_n d_Ro_nextWord_64 rfl))) (os_n (os_l (so_get (C := R_Ro) (T := F_Ro) (N := 18) (j := 11) in_Ro rfl (by decide) mw_345 d_Ro_nextWord_65)) (os_n (os_l (so_get (C := R_Tp) (T := F_Tp) (N := 3) (j := 2) in_Tp rfl (by decide) mw_45 d_Ro_nextWord_68)) (os_l (so_icge d_Ro_nextWord_71 (by decide)))))) (os_n (os_n (os_l (so_aload_n d_Ro_nextWord_74 rfl)) (os_l (so_get (C := R_Ro) (T := F_Ro) (N := 18) (j := 11) in_Ro rfl (by decide) mw_345 d_Ro_nextWord_75))) (os_n (os_l (so_aload_n d_Ro_nextWord_78 rfl)) (os_n (os_l (so_get (C := R_Ro) (T := F_Ro) (N := 18) (j := 13) in_Ro rfl (by decide) mw_347 d_Ro_nextWord_79)) (os_l (so_callV (iv := mi_Tp_at) rfl rfl rfl mw_819 mw_754 mw_755 mw_2 mw_756 ⟨by decide +kernel, by decide +kernel, by decide +kernel⟩ (by decide) d_Ro_nextWord_82)))))))) (os_n (os_n (os_n (os_n (os_n (os_l (so_callS (iv := mi_Tp_isBlank) rfl mw_820 mw_821 mw_2 mw_822 ⟨by decide +kernel, by decide +kernel, by decide +kernel⟩ (by decide) d_Ro_nextWord_85)) (os_l (so_ifne d_Ro_nextWord_88 (by decide)))) (os_n (os_l (so_aload_n d_Ro_nextWord_91 rfl)) (os_n (os_l (so_get (C := R_Ro) (T := F_Ro) (N := 18) (j := 11) in_Ro rfl (by decide) mw_345 d_Ro_nextWord_92)) (os_l (so_aload_n d_Ro_nextWord_95 rfl))))) (os_n (os_n (os_l (so_get (C := R_Ro) (T := F_Ro) (N := 18) (j := 13) in_Ro rfl (by decide) mw_347 d_Ro_nextWord_96)) (os_l (so_callV (iv := mi_Tp_at) rfl rfl rfl mw_819 mw_754 mw_755 mw_2 mw_756 ⟨by decide +kernel, by decide +kernel, by decide +kernel⟩ (by decide) d_Ro_nextWord_99))) (os_n (os_l (so_callS (iv := mi_Ro_isMark) rfl mw_823 mw_824 mw_10 mw_825 ⟨by decide +kernel, by decide +kernel, by decide +kernel⟩ (by decide) d_Ro_nextWord_102)) (os_n (os_l (so_ifne d_Ro_nextWord_105 (by decide))) (os_l (so_aload_n d_Ro_nextWord_108 rfl)))))) (os_n (os_n (os_n (os_l (so_dup d_Ro_nextWord_109)) (os_l (so_get (C := R_Ro) (T := F_Ro) (N := 18) (j := 13) in_Ro rfl (by decide) mw_347 d_Ro_nextWord_110))) (os_n (os_l (so_iconst d_Ro_nextWord_113 (by decide))) (os_n (os_l (so_iadd d_Ro_nextWord_114)) (os_l (so_putI (C := R_Ro) (T := F_Ro) (N := 18) (j := 13) in_Ro t_Ro_ok n_Ro rfl (by decide) mw_347 rfl (by decide +kernel) d_Ro_nextWord_115))))) (os_n (os_n (os_l (so_goto d_Ro_nextWord_118 (by decide))) (os_l (so_aload_n d_Ro_nextWord_121 rfl))) (os_n (os_l (so_get (C := R_Ro) (T := F_Ro) (N := 18) (j := 13) in_Ro rfl (by decide) mw_347 d_Ro_nextWord_122)) (os_n (os_l (so_aload_n d_Ro_nextWord_125 rfl)) (os_l (so_get (C := R_Ro) (T := F_Ro) (N := 18) (j := 12) in_Ro rfl (by decide) mw_346 d_Ro_nextWord_126))))))) (os_n (os_n (os_n (os_n (os_l (so_icne d_Ro_nextWord_129 (by decide))) (os_l (so_aload_n d_Ro_nextWord_132 rfl))) (os_n (os_l (so_get (C := R_Ro) (T := F_Ro) (N := 18) (j := 12) in_Ro rfl (by decide) mw_346 d_Ro_nextWord_133)) (os_n (os_l (so_aload_n d_Ro_nextWord_136 rfl)) (os_l (so_get (C := R_Ro) (T := F_Ro) (N := 18) (j := 11) in_Ro rfl (by decide) mw_345 d_Ro_nextWord_137))))) (os_n (os_n (os_l (so_get (C := R_Tp) (T := F_Tp) (N := 3) (j := 2) in_Tp rfl (by decide) mw_45 d_Ro_nextWord_140)) (os_l (so_icge d_Ro_nextWord_143 (by decide)))) (os_n (os_l (so_aload_n d_Ro_nextWord_146 rfl)) (os_n (os_l (so_dup d_Ro_nextWord_147)) (os_l (so_get (C := R_Ro) (T := F_Ro) (N := 18) (j := 13) in_Ro rfl (by decide) mw_347 d_Ro_nextWord_148)))))) (os_n (os_n (os_n (os_l (so_iconst d_Ro_nextWord_151 (by decide))) (os_l (so_iadd d_Ro_nextWord_152))) (os_n (os_l (so_putI (C := R_Ro) (T := F_Ro) (N := 18) (j := 13) in_Ro t_Ro_ok n_Ro rfl (by decide) mw_347 rfl (by decide +kernel) d_Ro_nextWord_153)) (os_n (os_l (so_aload_n d_Ro_nextWord_156 rfl)) (os_l (so_dup d_Ro_nextWord_157))))) (os_n (os_n (os_l (so_get (C := R_Ro) (T := F_Ro) (N := 18) (j := 14) in_Ro rfl (by decide) mw_348 d_Ro_nextWord_158)) (os_l (so_iconst d_Ro_nextWord_161 (by decide)))) (os_n (os_l (so_iadd d_Ro_nextWord_162)) (os_n (os_l (so_putI (C := R_Ro) (T := F_Ro) (N := 18) (j := 14) in_Ro t_Ro_ok n_Ro rfl (by decide) mw_348 rfl (by decide +kernel) d_Ro_nextWord_163)) (os_l (so_return rfl d_Ro_nextWord_166)))))))))
abbrev t_Ro_isMark_23 : List UInt8 := 172 :: []
abbrev t_Ro_isMark_22 : List UInt8 := 3 :: t_Ro_isMark_23
abbrev t_Ro_isMark_19 : List UInt8 := 167 :: 0 :: 4 :: t_Ro_isMark_22
abbrev t_Ro_isMark_18 : List UInt8 := 4 :: t_Ro_isMark_19
abbrev t_Ro_isMark_15 : List UInt8 := 160 :: 0 :: 7 :: t_Ro_isMark_18
abbrev t_Ro_isMark_13 : List UInt8 := 16 :: 59 :: t_Ro_isMark_15
abbrev t_Ro_isMark_12 : List UInt8 := 26 :: t_Ro_isMark_13
abbrev t_Ro_isMark_9 : List UInt8 := 159 :: 0 :: 9 :: t_Ro_isMark_12
abbrev t_Ro_isMark_7 : List UInt8 := 16 :: 41 :: t_Ro_isMark_9
abbrev t_Ro_isMark_6 : List UInt8 := 26 :: t_Ro_isMark_7
abbrev t_Ro_isMark_3 : List UInt8 := 159 :: 0 :: 15 :: t_Ro_isMark_6
abbrev t_Ro_isMark_1 : List UInt8 := 16 :: 40 :: t_Ro_isMark_3
abbrev t_Ro_isMark_0 : List UInt8 := 26 :: t_Ro_isMark_1
theorem a_Ro_isMark_0 : dk_at b_Ro_isMark 0 t_Ro_isMark_0 := dk_start (by decide +kernel)
theorem a_Ro_isMark_1 : dk_at b_Ro_isMark 1 t_Ro_isMark_1 := dk_go 1 a_Ro_isMark_0 rfl
theorem a_Ro_isMark_3 : dk_at b_Ro_isMark 3 t_Ro_isMark_3 := dk_go 2 a_Ro_isMark_1 rfl
theorem a_Ro_isMark_6 : dk_at b_Ro_isMark 6 t_Ro_isMark_6 := dk_go 3 a_Ro_isMark_3 rfl
theorem a_Ro_isMark_7 : dk_at b_Ro_isMark 7 t_Ro_isMark_7 := dk_go 1 a_Ro_isMark_6 rfl
theorem a_Ro_isMark_9 : dk_at b_Ro_isMark 9 t_Ro_isMark_9 := dk_go 2 a_Ro_isMark_7 rfl
theorem a_Ro_isMark_12 : dk_at b_Ro_isMark 12 t_Ro_isMark_12 := dk_go 3 a_Ro_isMark_9 rfl
theorem a_Ro_isMark_13 : dk_at b_Ro_isMark 13 t_Ro_isMark_13 := dk_go 1 a_Ro_isMark_12 rfl
theorem a_Ro_isMark_15 : dk_at b_Ro_isMark 15 t_Ro_isMark_15 := dk_go 2 a_Ro_isMark_13 rfl
theorem a_Ro_isMark_18 : dk_at b_Ro_isMark 18 t_Ro_isMark_18 := dk_go 3 a_Ro_isMark_15 rfl
theorem a_Ro_isMark_19 : dk_at b_Ro_isMark 19 t_Ro_isMark_19 := dk_go 1 a_Ro_isMark_18 rfl
theorem a_Ro_isMark_22 : dk_at b_Ro_isMark 22 t_Ro_isMark_22 := dk_go 3 a_Ro_isMark_19 rfl
theorem a_Ro_isMark_23 : dk_at b_Ro_isMark 23 t_Ro_isMark_23 := dk_go 1 a_Ro_isMark_22 rfl
theorem d_Ro_isMark_0 : decode b_Ro_isMark 0 = .ok (.iload_n 0, 1) := dk_0 a_Ro_isMark_0 (dko_26 _)
theorem d_Ro_isMark_1 : decode b_Ro_isMark 1 = .ok (.bipush 40, 2) := dk_S1 a_Ro_isMark_1 (dko_16 _) (by decide +kernel)
theorem d_Ro_isMark_3 : decode b_Ro_isMark 3 = .ok (.if_icmp .eq 15, 3) := dk_S2 a_Ro_isMark_3 (dko_159 _) (by decide +kernel)
theorem d_Ro_isMark_6 : decode b_Ro_isMark 6 = .ok (.iload_n 0, 1) := dk_0 a_Ro_isMark_6 (dko_26 _)
theorem d_Ro_isMark_7 : decode b_Ro_isMark 7 = .ok (.bipush 41, 2) := dk_S1 a_Ro_isMark_7 (dko_16 _) (by decide +kernel)
theorem d_Ro_isMark_9 : decode b_Ro_isMark 9 = .ok (.if_icmp .eq 9, 3) := dk_S2 a_Ro_isMark_9 (dko_159 _) (by decide +kernel)
theorem d_Ro_isMark_12 : decode b_Ro_isMark 12 = .ok (.iload_n 0, 1) := dk_0 a_Ro_isMark_12 (dko_26 _)
theorem d_Ro_isMark_13 : decode b_Ro_isMark 13 = .ok (.bipush 59, 2) := dk_S1 a_Ro_isMark_13 (dko_16 _) (by decide +kernel)
theorem d_Ro_isMark_15 : decode b_Ro_isMark 15 = .ok (.if_icmp .ne 7, 3) := dk_S2 a_Ro_isMark_15 (dko_160 _) (by decide +kernel)
theorem d_Ro_isMark_18 : decode b_Ro_isMark 18 = .ok (.iconst 1, 1) := dk_0 a_Ro_isMark_18 (dko_4 _)
theorem d_Ro_isMark_19 : decode b_Ro_isMark 19 = .ok (.goto 4, 3) := dk_S2 a_Ro_isMark_19 (dko_167 _) (by decide +kernel)
theorem d_Ro_isMark_22 : decode b_Ro_isMark 22 = .ok (.iconst 0, 1) := dk_0 a_Ro_isMark_22 (dko_3 _)
theorem d_Ro_isMark_23 : decode b_Ro_isMark 23 = .ok (.ireturn, 1) := dk_0 a_Ro_isMark_23 (dko_172 _)
set_option maxHeartbeats 4000000 in
set_option maxRecDepth 100000 in
theorem ok_Ro_isMark (pc : Nat) : OpS mt mi_Ro_isMark pc (cs_Ro_isMark pc) := (os_n (os_n (os_n (os_l (so_iload_n d_Ro_isMark_0 rfl)) (os_n (os_l (so_bipush d_Ro_isMark_1 (by decide))) (os_l (so_iceq d_Ro_isMark_3 (by decide))))) (os_n (os_l (so_iload_n d_Ro_isMark_6 rfl)) (os_n (os_l (so_bipush d_Ro_isMark_7 (by decide))) (os_l (so_iceq d_Ro_isMark_9 (by decide)))))) (os_n (os_n (os_l (so_iload_n d_Ro_isMark_12 rfl)) (os_n (os_l (so_bipush d_Ro_isMark_13 (by decide))) (os_l (so_icne d_Ro_isMark_15 (by decide))))) (os_n (os_n (os_l (so_iconst d_Ro_isMark_18 (by decide))) (os_l (so_goto d_Ro_isMark_19 (by decide)))) (os_n (os_l (so_iconst d_Ro_isMark_22 (by decide))) (os_l (so_zreturn rfl d_Ro_isMark_23))))))
abbrev t_Ro_is_65 : List UInt8 := 172 :: []
abbrev t_Ro_is_64 : List UInt8 := 4 :: t_Ro_is_65
abbrev t_Ro_is_61 : List UInt8 := 167 :: 255 :: 222 :: t_Ro_is_64
abbrev t_Ro_is_58 : List UInt8 := 132 :: 2 :: 1 :: t_Ro_is_61
abbrev t_Ro_is_57 : List UInt8 := 172 :: t_Ro_is_58
abbrev t_Ro_is_56 : List UInt8 := 3 :: t_Ro_is_57
abbrev t_Ro_is_53 : List UInt8 := 159 :: 0 :: 5 :: t_Ro_is_56
abbrev t_Ro_is_50 : List UInt8 := 182 :: 0 :: 106 :: t_Ro_is_53
abbrev t_Ro_is_49 : List UInt8 := 28 :: t_Ro_is_50
abbrev t_Ro_is_48 : List UInt8 := 43 :: t_Ro_is_49
abbrev t_Ro_is_45 : List UInt8 := 182 :: 0 :: 90 :: t_Ro_is_48
abbrev t_Ro_is_44 : List UInt8 := 96 :: t_Ro_is_45
abbrev t_Ro_is_43 : List UInt8 := 28 :: t_Ro_is_44
abbrev t_Ro_is_40 : List UInt8 := 180 :: 0 :: 79 :: t_Ro_is_43
abbrev t_Ro_is_39 : List UInt8 := 42 :: t_Ro_is_40
abbrev t_Ro_is_36 : List UInt8 := 180 :: 0 :: 57 :: t_Ro_is_39
abbrev t_Ro_is_35 : List UInt8 := 42 :: t_Ro_is_36
abbrev t_Ro_is_32 : List UInt8 := 162 :: 0 :: 32 :: t_Ro_is_35
abbrev t_Ro_is_29 : List UInt8 := 182 :: 0 :: 100 :: t_Ro_is_32
abbrev t_Ro_is_28 : List UInt8 := 43 :: t_Ro_is_29
abbrev t_Ro_is_27 : List UInt8 := 28 :: t_Ro_is_28
abbrev t_Ro_is_26 : List UInt8 := 61 :: t_Ro_is_27
abbrev t_Ro_is_25 : List UInt8 := 3 :: t_Ro_is_26
abbrev t_Ro_is_24 : List UInt8 := 172 :: t_Ro_is_25
abbrev t_Ro_is_23 : List UInt8 := 3 :: t_Ro_is_24
abbrev t_Ro_is_20 : List UInt8 := 159 :: 0 :: 5 :: t_Ro_is_23
abbrev t_Ro_is_17 : List UInt8 := 182 :: 0 :: 100 :: t_Ro_is_20
abbrev t_Ro_is_16 : List UInt8 := 43 :: t_Ro_is_17
abbrev t_Ro_is_15 : List UInt8 := 100 :: t_Ro_is_16
abbrev t_Ro_is_12 : List UInt8 := 180 :: 0 :: 79 :: t_Ro_is_15
abbrev t_Ro_is_11 : List UInt8 := 42 :: t_Ro_is_12
abbrev t_Ro_is_8 : List UInt8 := 180 :: 0 :: 73 :: t_Ro_is_11
abbrev t_Ro_is_7 : List UInt8 := 42 :: t_Ro_is_8
abbrev t_Ro_is_4 : List UInt8 := 156 :: 0 :: 19 :: t_Ro_is_7
abbrev t_Ro_is_1 : List UInt8 := 180 :: 0 :: 64 :: t_Ro_is_4
abbrev t_Ro_is_0 : List UInt8 := 42 :: t_Ro_is_1
theorem a_Ro_is_0 : dk_at b_Ro_is 0 t_Ro_is_0 := dk_start (by decide +kernel)
theorem a_Ro_is_1 : dk_at b_Ro_is 1 t_Ro_is_1 := dk_go 1 a_Ro_is_0 rfl
theorem a_Ro_is_4 : dk_at b_Ro_is 4 t_Ro_is_4 := dk_go 3 a_Ro_is_1 rfl
theorem a_Ro_is_7 : dk_at b_Ro_is 7 t_Ro_is_7 := dk_go 3 a_Ro_is_4 rfl
theorem a_Ro_is_8 : dk_at b_Ro_is 8 t_Ro_is_8 := dk_go 1 a_Ro_is_7 rfl
theorem a_Ro_is_11 : dk_at b_Ro_is 11 t_Ro_is_11 := dk_go 3 a_Ro_is_8 rfl
theorem a_Ro_is_12 : dk_at b_Ro_is 12 t_Ro_is_12 := dk_go 1 a_Ro_is_11 rfl
theorem a_Ro_is_15 : dk_at b_Ro_is 15 t_Ro_is_15 := dk_go 3 a_Ro_is_12 rfl
theorem a_Ro_is_16 : dk_at b_Ro_is 16 t_Ro_is_16 := dk_go 1 a_Ro_is_15 rfl
theorem a_Ro_is_17 : dk_at b_Ro_is 17 t_Ro_is_17 := dk_go 1 a_Ro_is_16 rfl
theorem a_Ro_is_20 : dk_at b_Ro_is 20 t_Ro_is_20 := dk_go 3 a_Ro_is_17 rfl
theorem a_Ro_is_23 : dk_at b_Ro_is 23 t_Ro_is_23 := dk_go 3 a_Ro_is_20 rfl
theorem a_Ro_is_24 : dk_at b_Ro_is 24 t_Ro_is_24 := dk_go 1 a_Ro_is_23 rfl
theorem a_Ro_is_25 : dk_at b_Ro_is 25 t_Ro_is_25 := dk_go 1 a_Ro_is_24 rfl
theorem a_Ro_is_26 : dk_at b_Ro_is 26 t_Ro_is_26 := dk_go 1 a_Ro_is_25 rfl
theorem a_Ro_is_27 : dk_at b_Ro_is 27 t_Ro_is_27 := dk_go 1 a_Ro_is_26 rfl
theorem a_Ro_is_28 : dk_at b_Ro_is 28 t_Ro_is_28 := dk_go 1 a_Ro_is_27 rfl
theorem a_Ro_is_29 : dk_at b_Ro_is 29 t_Ro_is_29 := dk_go 1 a_Ro_is_28 rfl
theorem a_Ro_is_32 : dk_at b_Ro_is 32 t_Ro_is_32 := dk_go 3 a_Ro_is_29 rfl
theorem a_Ro_is_35 : dk_at b_Ro_is 35 t_Ro_is_35 := dk_go 3 a_Ro_is_32 rfl
theorem a_Ro_is_36 : dk_at b_Ro_is 36 t_Ro_is_36 := dk_go 1 a_Ro_is_35 rfl
theorem a_Ro_is_39 : dk_at b_Ro_is 39 t_Ro_is_39 := dk_go 3 a_Ro_is_36 rfl
theorem a_Ro_is_40 : dk_at b_Ro_is 40 t_Ro_is_40 := dk_go 1 a_Ro_is_39 rfl
theorem a_Ro_is_43 : dk_at b_Ro_is 43 t_Ro_is_43 := dk_go 3 a_Ro_is_40 rfl
theorem a_Ro_is_44 : dk_at b_Ro_is 44 t_Ro_is_44 := dk_go 1 a_Ro_is_43 rfl
theorem a_Ro_is_45 : dk_at b_Ro_is 45 t_Ro_is_45 := dk_go 1 a_Ro_is_44 rfl
theorem a_Ro_is_48 : dk_at b_Ro_is 48 t_Ro_is_48 := dk_go 3 a_Ro_is_45 rfl
theorem a_Ro_is_49 : dk_at b_Ro_is 49 t_Ro_is_49 := dk_go 1 a_Ro_is_48 rfl
theorem a_Ro_is_50 : dk_at b_Ro_is 50 t_Ro_is_50 := dk_go 1 a_Ro_is_49 rfl
theorem a_Ro_is_53 : dk_at b_Ro_is 53 t_Ro_is_53 := dk_go 3 a_Ro_is_50 rfl
theorem a_Ro_is_56 : dk_at b_Ro_is 56 t_Ro_is_56 := dk_go 3 a_Ro_is_53 rfl
theorem a_Ro_is_57 : dk_at b_Ro_is 57 t_Ro_is_57 := dk_go 1 a_Ro_is_56 rfl
theorem a_Ro_is_58 : dk_at b_Ro_is 58 t_Ro_is_58 := dk_go 1 a_Ro_is_57 rfl
theorem a_Ro_is_61 : dk_at b_Ro_is 61 t_Ro_is_61 := dk_go 3 a_Ro_is_58 rfl
theorem a_Ro_is_64 : dk_at b_Ro_is 64 t_Ro_is_64 := dk_go 3 a_Ro_is_61 rfl
theorem a_Ro_is_65 : dk_at b_Ro_is 65 t_Ro_is_65 := dk_go 1 a_Ro_is_64 rfl
theorem d_Ro_is_0 : decode b_Ro_is 0 = .ok (.aload_n 0, 1) := dk_0 a_Ro_is_0 (dko_42 _)
theorem d_Ro_is_1 : decode b_Ro_is 1 = .ok (.getfield 64, 3) := dk_U2 a_Ro_is_1 (dko_180 _) rfl
theorem d_Ro_is_4 : decode b_Ro_is 4 = .ok (.ifCond .ge 19, 3) := dk_S2 a_Ro_is_4 (dko_156 _) (by decide +kernel)
theorem d_Ro_is_7 : decode b_Ro_is 7 = .ok (.aload_n 0, 1) := dk_0 a_Ro_is_7 (dko_42 _)
theorem d_Ro_is_8 : decode b_Ro_is 8 = .ok (.getfield 73, 3) := dk_U2 a_Ro_is_8 (dko_180 _) rfl
theorem d_Ro_is_11 : decode b_Ro_is 11 = .ok (.aload_n 0, 1) := dk_0 a_Ro_is_11 (dko_42 _)
theorem d_Ro_is_12 : decode b_Ro_is 12 = .ok (.getfield 79, 3) := dk_U2 a_Ro_is_12 (dko_180 _) rfl
theorem d_Ro_is_15 : decode b_Ro_is 15 = .ok (.isub, 1) := dk_0 a_Ro_is_15 (dko_100 _)
theorem d_Ro_is_16 : decode b_Ro_is 16 = .ok (.aload_n 1, 1) := dk_0 a_Ro_is_16 (dko_43 _)
theorem d_Ro_is_17 : decode b_Ro_is 17 = .ok (.invokevirtual 100, 3) := dk_U2 a_Ro_is_17 (dko_182 _) rfl
theorem d_Ro_is_20 : decode b_Ro_is 20 = .ok (.if_icmp .eq 5, 3) := dk_S2 a_Ro_is_20 (dko_159 _) (by decide +kernel)
theorem d_Ro_is_23 : decode b_Ro_is 23 = .ok (.iconst 0, 1) := dk_0 a_Ro_is_23 (dko_3 _)
theorem d_Ro_is_24 : decode b_Ro_is 24 = .ok (.ireturn, 1) := dk_0 a_Ro_is_24 (dko_172 _)
theorem d_Ro_is_25 : decode b_Ro_is 25 = .ok (.iconst 0, 1) := dk_0 a_Ro_is_25 (dko_3 _)
theorem d_Ro_is_26 : decode b_Ro_is 26 = .ok (.istore_n 2, 1) := dk_0 a_Ro_is_26 (dko_61 _)
theorem d_Ro_is_27 : decode b_Ro_is 27 = .ok (.iload_n 2, 1) := dk_0 a_Ro_is_27 (dko_28 _)
theorem d_Ro_is_28 : decode b_Ro_is 28 = .ok (.aload_n 1, 1) := dk_0 a_Ro_is_28 (dko_43 _)
theorem d_Ro_is_29 : decode b_Ro_is 29 = .ok (.invokevirtual 100, 3) := dk_U2 a_Ro_is_29 (dko_182 _) rfl
theorem d_Ro_is_32 : decode b_Ro_is 32 = .ok (.if_icmp .ge 32, 3) := dk_S2 a_Ro_is_32 (dko_162 _) (by decide +kernel)
theorem d_Ro_is_35 : decode b_Ro_is 35 = .ok (.aload_n 0, 1) := dk_0 a_Ro_is_35 (dko_42 _)
theorem d_Ro_is_36 : decode b_Ro_is 36 = .ok (.getfield 57, 3) := dk_U2 a_Ro_is_36 (dko_180 _) rfl
theorem d_Ro_is_39 : decode b_Ro_is 39 = .ok (.aload_n 0, 1) := dk_0 a_Ro_is_39 (dko_42 _)
theorem d_Ro_is_40 : decode b_Ro_is 40 = .ok (.getfield 79, 3) := dk_U2 a_Ro_is_40 (dko_180 _) rfl
theorem d_Ro_is_43 : decode b_Ro_is 43 = .ok (.iload_n 2, 1) := dk_0 a_Ro_is_43 (dko_28 _)
theorem d_Ro_is_44 : decode b_Ro_is 44 = .ok (.iadd, 1) := dk_0 a_Ro_is_44 (dko_96 _)
theorem d_Ro_is_45 : decode b_Ro_is 45 = .ok (.invokevirtual 90, 3) := dk_U2 a_Ro_is_45 (dko_182 _) rfl
theorem d_Ro_is_48 : decode b_Ro_is 48 = .ok (.aload_n 1, 1) := dk_0 a_Ro_is_48 (dko_43 _)
theorem d_Ro_is_49 : decode b_Ro_is 49 = .ok (.iload_n 2, 1) := dk_0 a_Ro_is_49 (dko_28 _)
theorem d_Ro_is_50 : decode b_Ro_is 50 = .ok (.invokevirtual 106, 3) := dk_U2 a_Ro_is_50 (dko_182 _) rfl
theorem d_Ro_is_53 : decode b_Ro_is 53 = .ok (.if_icmp .eq 5, 3) := dk_S2 a_Ro_is_53 (dko_159 _) (by decide +kernel)
theorem d_Ro_is_56 : decode b_Ro_is 56 = .ok (.iconst 0, 1) := dk_0 a_Ro_is_56 (dko_3 _)
theorem d_Ro_is_57 : decode b_Ro_is 57 = .ok (.ireturn, 1) := dk_0 a_Ro_is_57 (dko_172 _)
theorem d_Ro_is_58 : decode b_Ro_is 58 = .ok (.iinc 2 1, 3) := dk_US a_Ro_is_58 (dko_132 _) (by decide +kernel)
theorem d_Ro_is_61 : decode b_Ro_is 61 = .ok (.goto (-34), 3) := dk_S2 a_Ro_is_61 (dko_167 _) (by decide +kernel)
theorem d_Ro_is_64 : decode b_Ro_is 64 = .ok (.iconst 1, 1) := dk_0 a_Ro_is_64 (dko_4 _)
theorem d_Ro_is_65 : decode b_Ro_is 65 = .ok (.ireturn, 1) := dk_0 a_Ro_is_65 (dko_172 _)
set_option maxHeartbeats 4000000 in
set_option maxRecDepth 100000 in
theorem ok_Ro_is (pc : Nat) : OpS mt mi_Ro_is pc (cs_Ro_is pc) := (os_n (os_n (os_n (os_n (os_n (os_l (so_aload_n d_Ro_is_0 rfl)) (os_l (so_get (C := R_Ro) (T := F_Ro) (N := 18) (j := 17) in_Ro rfl (by decide) mw_351 d_Ro_is_1))) (os_n (os_l (so_ifge d_Ro_is_4 (by decide))) (os_l (so_aload_n d_Ro_is_7 rfl)))) (os_n (os_n (os_l (so_get (C := R_Ro) (T := F_Ro) (N := 18) (j := 13) in_Ro rfl (by decide) mw_347 d_Ro_is_8)) (os_l (so_aload_n d_Ro_is_11 rfl))) (os_n (os_l (so_get (C := R_Ro) (T := F_Ro) (N := 18) (j := 12) in_Ro rfl (by decide) mw_346 d_Ro_is_12)) (os_n (os_l (so_isub d_Ro_is_15)) (os_l (so_aload_n d_Ro_is_16 rfl)))))) (os_n (os_n (os_n (os_l (so_slen mw_843 mw_585 mw_586 mw_14 mw_587 d_Ro_is_17)) (os_l (so_iceq d_Ro_is_20 (by decide)))) (os_n (os_l (so_iconst d_Ro_is_23 (by decide))) (os_l (so_zreturn rfl d_Ro_is_24)))) (os_n (os_n (os_l (so_iconst d_Ro_is_25 (by decide))) (os_l (so_istore_n d_Ro_is_26 rfl (by decide)))) (os_n (os_l (so_iload_n d_Ro_is_27 rfl)) (os_n (os_l (so_aload_n d_Ro_is_28 rfl)) (os_l (so_slen mw_843 mw_585 mw_586 mw_14 mw_587 d_Ro_is_29))))))) (os_n (os_n (os_n (os_n (os_l (so_icge d_Ro_is_32 (by decide))) (os_l (so_aload_n d_Ro_is_35 rfl))) (os_n (os_l (so_get (C := R_Ro) (T := F_Ro) (N := 18) (j := 11) in_Ro rfl (by decide) mw_345 d_Ro_is_36)) (os_l (so_aload_n d_Ro_is_39 rfl)))) (os_n (os_n (os_l (so_get (C := R_Ro) (T := F_Ro) (N := 18) (j := 12) in_Ro rfl (by decide) mw_346 d_Ro_is_40)) (os_l (so_iload_n d_Ro_is_43 rfl))) (os_n (os_l (so_iadd d_Ro_is_44)) (os_n (os_l (so_callV (iv := mi_Tp_at) rfl rfl rfl mw_819 mw_754 mw_755 mw_2 mw_756 ⟨by decide +kernel, by decide +kernel, by decide +kernel⟩ (by decide) d_Ro_is_45)) (os_l (so_aload_n d_Ro_is_48 rfl)))))) (os_n (os_n (os_n (os_l (so_iload_n d_Ro_is_49 rfl)) (os_l (so_schr mw_844 mw_595 mw_596 mw_14 mw_597 d_Ro_is_50))) (os_n (os_l (so_iceq d_Ro_is_53 (by decide))) (os_l (so_iconst d_Ro_is_56 (by decide))))) (os_n (os_n (os_l (so_zreturn rfl d_Ro_is_57)) (os_l (so_iinc d_Ro_is_58 (by decide) (by decide)))) (os_n (os_l (so_goto d_Ro_is_61 (by decide))) (os_n (os_l (so_iconst d_Ro_is_64 (by decide))) (os_l (so_zreturn rfl d_Ro_is_65))))))))
abbrev t_Ro_takes_19 : List UInt8 := 172 :: []
abbrev t_Ro_takes_18 : List UInt8 := 4 :: t_Ro_takes_19
abbrev t_Ro_takes_15 : List UInt8 := 182 :: 0 :: 76 :: t_Ro_takes_18
abbrev t_Ro_takes_14 : List UInt8 := 42 :: t_Ro_takes_15
abbrev t_Ro_takes_13 : List UInt8 := 172 :: t_Ro_takes_14
abbrev t_Ro_takes_12 : List UInt8 := 3 :: t_Ro_takes_13
abbrev t_Ro_takes_9 : List UInt8 := 182 :: 0 :: 114 :: t_Ro_takes_12
abbrev t_Ro_takes_8 : List UInt8 := 42 :: t_Ro_takes_9
abbrev t_Ro_takes_5 : List UInt8 := 154 :: 0 :: 9 :: t_Ro_takes_8
abbrev t_Ro_takes_2 : List UInt8 := 182 :: 0 :: 110 :: t_Ro_takes_5
abbrev t_Ro_takes_1 : List UInt8 := 43 :: t_Ro_takes_2
abbrev t_Ro_takes_0 : List UInt8 := 42 :: t_Ro_takes_1
theorem a_Ro_takes_0 : dk_at b_Ro_takes 0 t_Ro_takes_0 := dk_start (by decide +kernel)
theorem a_Ro_takes_1 : dk_at b_Ro_takes 1 t_Ro_takes_1 := dk_go 1 a_Ro_takes_0 rfl
theorem a_Ro_takes_2 : dk_at b_Ro_takes 2 t_Ro_takes_2 := dk_go 1 a_Ro_takes_1 rfl
theorem a_Ro_takes_5 : dk_at b_Ro_takes 5 t_Ro_takes_5 := dk_go 3 a_Ro_takes_2 rfl
theorem a_Ro_takes_8 : dk_at b_Ro_takes 8 t_Ro_takes_8 := dk_go 3 a_Ro_takes_5 rfl
theorem a_Ro_takes_9 : dk_at b_Ro_takes 9 t_Ro_takes_9 := dk_go 1 a_Ro_takes_8 rfl
theorem a_Ro_takes_12 : dk_at b_Ro_takes 12 t_Ro_takes_12 := dk_go 3 a_Ro_takes_9 rfl
theorem a_Ro_takes_13 : dk_at b_Ro_takes 13 t_Ro_takes_13 := dk_go 1 a_Ro_takes_12 rfl
theorem a_Ro_takes_14 : dk_at b_Ro_takes 14 t_Ro_takes_14 := dk_go 1 a_Ro_takes_13 rfl
theorem a_Ro_takes_15 : dk_at b_Ro_takes 15 t_Ro_takes_15 := dk_go 1 a_Ro_takes_14 rfl
theorem a_Ro_takes_18 : dk_at b_Ro_takes 18 t_Ro_takes_18 := dk_go 3 a_Ro_takes_15 rfl
theorem a_Ro_takes_19 : dk_at b_Ro_takes 19 t_Ro_takes_19 := dk_go 1 a_Ro_takes_18 rfl
theorem d_Ro_takes_0 : decode b_Ro_takes 0 = .ok (.aload_n 0, 1) := dk_0 a_Ro_takes_0 (dko_42 _)
theorem d_Ro_takes_1 : decode b_Ro_takes 1 = .ok (.aload_n 1, 1) := dk_0 a_Ro_takes_1 (dko_43 _)
theorem d_Ro_takes_2 : decode b_Ro_takes 2 = .ok (.invokevirtual 110, 3) := dk_U2 a_Ro_takes_2 (dko_182 _) rfl
theorem d_Ro_takes_5 : decode b_Ro_takes 5 = .ok (.ifCond .ne 9, 3) := dk_S2 a_Ro_takes_5 (dko_154 _) (by decide +kernel)
theorem d_Ro_takes_8 : decode b_Ro_takes 8 = .ok (.aload_n 0, 1) := dk_0 a_Ro_takes_8 (dko_42 _)
theorem d_Ro_takes_9 : decode b_Ro_takes 9 = .ok (.invokevirtual 114, 3) := dk_U2 a_Ro_takes_9 (dko_182 _) rfl
theorem d_Ro_takes_12 : decode b_Ro_takes 12 = .ok (.iconst 0, 1) := dk_0 a_Ro_takes_12 (dko_3 _)
theorem d_Ro_takes_13 : decode b_Ro_takes 13 = .ok (.ireturn, 1) := dk_0 a_Ro_takes_13 (dko_172 _)
theorem d_Ro_takes_14 : decode b_Ro_takes 14 = .ok (.aload_n 0, 1) := dk_0 a_Ro_takes_14 (dko_42 _)
theorem d_Ro_takes_15 : decode b_Ro_takes 15 = .ok (.invokevirtual 76, 3) := dk_U2 a_Ro_takes_15 (dko_182 _) rfl
theorem d_Ro_takes_18 : decode b_Ro_takes 18 = .ok (.iconst 1, 1) := dk_0 a_Ro_takes_18 (dko_4 _)
theorem d_Ro_takes_19 : decode b_Ro_takes 19 = .ok (.ireturn, 1) := dk_0 a_Ro_takes_19 (dko_172 _)
set_option maxHeartbeats 4000000 in
set_option maxRecDepth 100000 in
theorem ok_Ro_takes (pc : Nat) : OpS mt mi_Ro_takes pc (cs_Ro_takes pc) := (os_n (os_n (os_n (os_l (so_aload_n d_Ro_takes_0 rfl)) (os_n (os_l (so_aload_n d_Ro_takes_1 rfl)) (os_l (so_callV (iv := mi_Ro_is) rfl rfl rfl mw_839 mw_841 sl_13 mw_10 mw_842 ⟨by decide +kernel, by decide +kernel, by decide +kernel⟩ (by decide) d_Ro_takes_2)))) (os_n (os_l (so_ifne d_Ro_takes_5 (by decide))) (os_n (os_l (so_aload_n d_Ro_takes_8 rfl)) (os_l (so_callV (iv := mi_Ro_fail) rfl rfl rfl mw_830 mw_832 sl_11 mw_10 mw_833 ⟨by decide +kernel, by decide +kernel, by decide +kernel⟩ (by decide) d_Ro_takes_9))))) (os_n (os_n (os_l (so_iconst d_Ro_takes_12 (by decide))) (os_n (os_l (so_zreturn rfl d_Ro_takes_13)) (os_l (so_aload_n d_Ro_takes_14 rfl)))) (os_n (os_l (so_callV (iv := mi_Ro_nextWord) rfl rfl rfl mw_815 mw_817 sl_9 mw_10 mw_818 ⟨by decide +kernel, by decide +kernel, by decide +kernel⟩ (by decide) d_Ro_takes_15)) (os_n (os_l (so_iconst d_Ro_takes_18 (by decide))) (os_l (so_zreturn rfl d_Ro_takes_19))))))
abbrev t_Ro_fail_15 : List UInt8 := 177 :: []
abbrev t_Ro_fail_12 : List UInt8 := 181 :: 0 :: 64 :: t_Ro_fail_15
abbrev t_Ro_fail_9 : List UInt8 := 180 :: 0 :: 70 :: t_Ro_fail_12
abbrev t_Ro_fail_8 : List UInt8 := 42 :: t_Ro_fail_9
abbrev t_Ro_fail_7 : List UInt8 := 42 :: t_Ro_fail_8
abbrev t_Ro_fail_4 : List UInt8 := 156 :: 0 :: 11 :: t_Ro_fail_7
abbrev t_Ro_fail_1 : List UInt8 := 180 :: 0 :: 64 :: t_Ro_fail_4
abbrev t_Ro_fail_0 : List UInt8 := 42 :: t_Ro_fail_1
theorem a_Ro_fail_0 : dk_at b_Ro_fail 0 t_Ro_fail_0 := dk_start (by decide +kernel)
theorem a_Ro_fail_1 : dk_at b_Ro_fail 1 t_Ro_fail_1 := dk_go 1 a_Ro_fail_0 rfl
theorem a_Ro_fail_4 : dk_at b_Ro_fail 4 t_Ro_fail_4 := dk_go 3 a_Ro_fail_1 rfl
theorem a_Ro_fail_7 : dk_at b_Ro_fail 7 t_Ro_fail_7 := dk_go 3 a_Ro_fail_4 rfl
theorem a_Ro_fail_8 : dk_at b_Ro_fail 8 t_Ro_fail_8 := dk_go 1 a_Ro_fail_7 rfl
theorem a_Ro_fail_9 : dk_at b_Ro_fail 9 t_Ro_fail_9 := dk_go 1 a_Ro_fail_8 rfl
theorem a_Ro_fail_12 : dk_at b_Ro_fail 12 t_Ro_fail_12 := dk_go 3 a_Ro_fail_9 rfl
theorem a_Ro_fail_15 : dk_at b_Ro_fail 15 t_Ro_fail_15 := dk_go 3 a_Ro_fail_12 rfl
theorem d_Ro_fail_0 : decode b_Ro_fail 0 = .ok (.aload_n 0, 1) := dk_0 a_Ro_fail_0 (dko_42 _)
theorem d_Ro_fail_1 : decode b_Ro_fail 1 = .ok (.getfield 64, 3) := dk_U2 a_Ro_fail_1 (dko_180 _) rfl
theorem d_Ro_fail_4 : decode b_Ro_fail 4 = .ok (.ifCond .ge 11, 3) := dk_S2 a_Ro_fail_4 (dko_156 _) (by decide +kernel)
theorem d_Ro_fail_7 : decode b_Ro_fail 7 = .ok (.aload_n 0, 1) := dk_0 a_Ro_fail_7 (dko_42 _)
theorem d_Ro_fail_8 : decode b_Ro_fail 8 = .ok (.aload_n 0, 1) := dk_0 a_Ro_fail_8 (dko_42 _)
theorem d_Ro_fail_9 : decode b_Ro_fail 9 = .ok (.getfield 70, 3) := dk_U2 a_Ro_fail_9 (dko_180 _) rfl
theorem d_Ro_fail_12 : decode b_Ro_fail 12 = .ok (.putfield 64, 3) := dk_U2 a_Ro_fail_12 (dko_181 _) rfl
theorem d_Ro_fail_15 : decode b_Ro_fail 15 = .ok (.return_, 1) := dk_0 a_Ro_fail_15 (dko_177 _)
set_option maxHeartbeats 4000000 in
set_option maxRecDepth 100000 in
theorem ok_Ro_fail (pc : Nat) : OpS mt mi_Ro_fail pc (cs_Ro_fail pc) := (os_n (os_n (os_n (os_l (so_aload_n d_Ro_fail_0 rfl)) (os_l (so_get (C := R_Ro) (T := F_Ro) (N := 18) (j := 17) in_Ro rfl (by decide) mw_351 d_Ro_fail_1))) (os_n (os_l (so_ifge d_Ro_fail_4 (by decide))) (os_l (so_aload_n d_Ro_fail_7 rfl)))) (os_n (os_n (os_l (so_aload_n d_Ro_fail_8 rfl)) (os_l (so_get (C := R_Ro) (T := F_Ro) (N := 18) (j := 14) in_Ro rfl (by decide) mw_348 d_Ro_fail_9))) (os_n (os_l (so_putI (C := R_Ro) (T := F_Ro) (N := 18) (j := 17) in_Ro t_Ro_ok n_Ro rfl (by decide) mw_351 rfl (by decide +kernel) d_Ro_fail_12)) (os_l (so_return rfl d_Ro_fail_15)))))
abbrev t_Ro_numberBehind_120 : List UInt8 := 172 :: []
abbrev t_Ro_numberBehind_119 : List UInt8 := 2 :: t_Ro_numberBehind_120
abbrev t_Ro_numberBehind_116 : List UInt8 := 167 :: 0 :: 4 :: t_Ro_numberBehind_119
abbrev t_Ro_numberBehind_114 : List UInt8 := 21 :: 5 :: t_Ro_numberBehind_116
abbrev t_Ro_numberBehind_111 : List UInt8 := 163 :: 0 :: 8 :: t_Ro_numberBehind_114
abbrev t_Ro_numberBehind_110 : List UInt8 := 28 :: t_Ro_numberBehind_111
abbrev t_Ro_numberBehind_108 : List UInt8 := 21 :: 5 :: t_Ro_numberBehind_110
abbrev t_Ro_numberBehind_105 : List UInt8 := 167 :: 255 :: 205 :: t_Ro_numberBehind_108
abbrev t_Ro_numberBehind_102 : List UInt8 := 132 :: 6 :: 1 :: t_Ro_numberBehind_105
abbrev t_Ro_numberBehind_100 : List UInt8 := 54 :: 5 :: t_Ro_numberBehind_102
abbrev t_Ro_numberBehind_99 : List UInt8 := 100 :: t_Ro_numberBehind_100
abbrev t_Ro_numberBehind_97 : List UInt8 := 16 :: 48 :: t_Ro_numberBehind_99
abbrev t_Ro_numberBehind_96 : List UInt8 := 96 :: t_Ro_numberBehind_97
abbrev t_Ro_numberBehind_93 : List UInt8 := 182 :: 0 :: 90 :: t_Ro_numberBehind_96
abbrev t_Ro_numberBehind_92 : List UInt8 := 96 :: t_Ro_numberBehind_93
abbrev t_Ro_numberBehind_90 : List UInt8 := 21 :: 6 :: t_Ro_numberBehind_92
abbrev t_Ro_numberBehind_89 : List UInt8 := 29 :: t_Ro_numberBehind_90
abbrev t_Ro_numberBehind_86 : List UInt8 := 180 :: 0 :: 57 :: t_Ro_numberBehind_89
abbrev t_Ro_numberBehind_85 : List UInt8 := 42 :: t_Ro_numberBehind_86
abbrev t_Ro_numberBehind_84 : List UInt8 := 104 :: t_Ro_numberBehind_85
abbrev t_Ro_numberBehind_82 : List UInt8 := 16 :: 10 :: t_Ro_numberBehind_84
abbrev t_Ro_numberBehind_80 : List UInt8 := 21 :: 5 :: t_Ro_numberBehind_82
abbrev t_Ro_numberBehind_79 : List UInt8 := 172 :: t_Ro_numberBehind_80
abbrev t_Ro_numberBehind_78 : List UInt8 := 2 :: t_Ro_numberBehind_79
abbrev t_Ro_numberBehind_75 : List UInt8 := 154 :: 0 :: 5 :: t_Ro_numberBehind_78
abbrev t_Ro_numberBehind_72 : List UInt8 := 184 :: 0 :: 117 :: t_Ro_numberBehind_75
abbrev t_Ro_numberBehind_69 : List UInt8 := 182 :: 0 :: 90 :: t_Ro_numberBehind_72
abbrev t_Ro_numberBehind_68 : List UInt8 := 96 :: t_Ro_numberBehind_69
abbrev t_Ro_numberBehind_66 : List UInt8 := 21 :: 6 :: t_Ro_numberBehind_68
abbrev t_Ro_numberBehind_65 : List UInt8 := 29 :: t_Ro_numberBehind_66
abbrev t_Ro_numberBehind_62 : List UInt8 := 180 :: 0 :: 57 :: t_Ro_numberBehind_65
abbrev t_Ro_numberBehind_61 : List UInt8 := 42 :: t_Ro_numberBehind_62
abbrev t_Ro_numberBehind_58 : List UInt8 := 162 :: 0 :: 50 :: t_Ro_numberBehind_61
abbrev t_Ro_numberBehind_56 : List UInt8 := 21 :: 4 :: t_Ro_numberBehind_58
abbrev t_Ro_numberBehind_54 : List UInt8 := 21 :: 6 :: t_Ro_numberBehind_56
abbrev t_Ro_numberBehind_52 : List UInt8 := 54 :: 6 :: t_Ro_numberBehind_54
abbrev t_Ro_numberBehind_51 : List UInt8 := 3 :: t_Ro_numberBehind_52
abbrev t_Ro_numberBehind_49 : List UInt8 := 54 :: 5 :: t_Ro_numberBehind_51
abbrev t_Ro_numberBehind_48 : List UInt8 := 3 :: t_Ro_numberBehind_49
abbrev t_Ro_numberBehind_47 : List UInt8 := 172 :: t_Ro_numberBehind_48
abbrev t_Ro_numberBehind_46 : List UInt8 := 2 :: t_Ro_numberBehind_47
abbrev t_Ro_numberBehind_43 : List UInt8 := 160 :: 0 :: 5 :: t_Ro_numberBehind_46
abbrev t_Ro_numberBehind_41 : List UInt8 := 16 :: 48 :: t_Ro_numberBehind_43
abbrev t_Ro_numberBehind_38 : List UInt8 := 182 :: 0 :: 90 :: t_Ro_numberBehind_41
abbrev t_Ro_numberBehind_37 : List UInt8 := 29 :: t_Ro_numberBehind_38
abbrev t_Ro_numberBehind_34 : List UInt8 := 180 :: 0 :: 57 :: t_Ro_numberBehind_37
abbrev t_Ro_numberBehind_33 : List UInt8 := 42 :: t_Ro_numberBehind_34
abbrev t_Ro_numberBehind_30 : List UInt8 := 164 :: 0 :: 18 :: t_Ro_numberBehind_33
abbrev t_Ro_numberBehind_29 : List UInt8 := 4 :: t_Ro_numberBehind_30
abbrev t_Ro_numberBehind_27 : List UInt8 := 21 :: 4 :: t_Ro_numberBehind_29
abbrev t_Ro_numberBehind_24 : List UInt8 := 163 :: 0 :: 22 :: t_Ro_numberBehind_27
abbrev t_Ro_numberBehind_23 : List UInt8 := 7 :: t_Ro_numberBehind_24
abbrev t_Ro_numberBehind_21 : List UInt8 := 21 :: 4 :: t_Ro_numberBehind_23
abbrev t_Ro_numberBehind_18 : List UInt8 := 161 :: 0 :: 28 :: t_Ro_numberBehind_21
abbrev t_Ro_numberBehind_17 : List UInt8 := 4 :: t_Ro_numberBehind_18
abbrev t_Ro_numberBehind_15 : List UInt8 := 21 :: 4 :: t_Ro_numberBehind_17
abbrev t_Ro_numberBehind_13 : List UInt8 := 54 :: 4 :: t_Ro_numberBehind_15
abbrev t_Ro_numberBehind_12 : List UInt8 := 100 :: t_Ro_numberBehind_13
abbrev t_Ro_numberBehind_11 : List UInt8 := 29 :: t_Ro_numberBehind_12
abbrev t_Ro_numberBehind_8 : List UInt8 := 180 :: 0 :: 73 :: t_Ro_numberBehind_11
abbrev t_Ro_numberBehind_7 : List UInt8 := 42 :: t_Ro_numberBehind_8
abbrev t_Ro_numberBehind_6 : List UInt8 := 62 :: t_Ro_numberBehind_7
abbrev t_Ro_numberBehind_5 : List UInt8 := 96 :: t_Ro_numberBehind_6
abbrev t_Ro_numberBehind_4 : List UInt8 := 27 :: t_Ro_numberBehind_5
abbrev t_Ro_numberBehind_1 : List UInt8 := 180 :: 0 :: 79 :: t_Ro_numberBehind_4
abbrev t_Ro_numberBehind_0 : List UInt8 := 42 :: t_Ro_numberBehind_1
theorem a_Ro_numberBehind_0 : dk_at b_Ro_numberBehind 0 t_Ro_numberBehind_0 := dk_start (by decide +kernel)
theorem a_Ro_numberBehind_1 : dk_at b_Ro_numberBehind 1 t_Ro_numberBehind_1 := dk_go 1 a_Ro_numberBehind_0 rfl
theorem a_Ro_numberBehind_4 : dk_at b_Ro_numberBehind 4 t_Ro_numberBehind_4 := dk_go 3 a_Ro_numberBehind_1 rfl
theorem a_Ro_numberBehind_5 : dk_at b_Ro_numberBehind 5 t_Ro_numberBehind_5 := dk_go 1 a_Ro_numberBehind_4 rfl
theorem a_Ro_numberBehind_6 : dk_at b_Ro_numberBehind 6 t_Ro_numberBehind_6 := dk_go 1 a_Ro_numberBehind_5 rfl
theorem a_Ro_numberBehind_7 : dk_at b_Ro_numberBehind 7 t_Ro_numberBehind_7 := dk_go 1 a_Ro_numberBehind_6 rfl
theorem a_Ro_numberBehind_8 : dk_at b_Ro_numberBehind 8 t_Ro_numberBehind_8 := dk_go 1 a_Ro_numberBehind_7 rfl
theorem a_Ro_numberBehind_11 : dk_at b_Ro_numberBehind 11 t_Ro_numberBehind_11 := dk_go 3 a_Ro_numberBehind_8 rfl
theorem a_Ro_numberBehind_12 : dk_at b_Ro_numberBehind 12 t_Ro_numberBehind_12 := dk_go 1 a_Ro_numberBehind_11 rfl
theorem a_Ro_numberBehind_13 : dk_at b_Ro_numberBehind 13 t_Ro_numberBehind_13 := dk_go 1 a_Ro_numberBehind_12 rfl
theorem a_Ro_numberBehind_15 : dk_at b_Ro_numberBehind 15 t_Ro_numberBehind_15 := dk_go 2 a_Ro_numberBehind_13 rfl
theorem a_Ro_numberBehind_17 : dk_at b_Ro_numberBehind 17 t_Ro_numberBehind_17 := dk_go 2 a_Ro_numberBehind_15 rfl
theorem a_Ro_numberBehind_18 : dk_at b_Ro_numberBehind 18 t_Ro_numberBehind_18 := dk_go 1 a_Ro_numberBehind_17 rfl
theorem a_Ro_numberBehind_21 : dk_at b_Ro_numberBehind 21 t_Ro_numberBehind_21 := dk_go 3 a_Ro_numberBehind_18 rfl
theorem a_Ro_numberBehind_23 : dk_at b_Ro_numberBehind 23 t_Ro_numberBehind_23 := dk_go 2 a_Ro_numberBehind_21 rfl
theorem a_Ro_numberBehind_24 : dk_at b_Ro_numberBehind 24 t_Ro_numberBehind_24 := dk_go 1 a_Ro_numberBehind_23 rfl
theorem a_Ro_numberBehind_27 : dk_at b_Ro_numberBehind 27 t_Ro_numberBehind_27 := dk_go 3 a_Ro_numberBehind_24 rfl
theorem a_Ro_numberBehind_29 : dk_at b_Ro_numberBehind 29 t_Ro_numberBehind_29 := dk_go 2 a_Ro_numberBehind_27 rfl
theorem a_Ro_numberBehind_30 : dk_at b_Ro_numberBehind 30 t_Ro_numberBehind_30 := dk_go 1 a_Ro_numberBehind_29 rfl
theorem a_Ro_numberBehind_33 : dk_at b_Ro_numberBehind 33 t_Ro_numberBehind_33 := dk_go 3 a_Ro_numberBehind_30 rfl
theorem a_Ro_numberBehind_34 : dk_at b_Ro_numberBehind 34 t_Ro_numberBehind_34 := dk_go 1 a_Ro_numberBehind_33 rfl
theorem a_Ro_numberBehind_37 : dk_at b_Ro_numberBehind 37 t_Ro_numberBehind_37 := dk_go 3 a_Ro_numberBehind_34 rfl
theorem a_Ro_numberBehind_38 : dk_at b_Ro_numberBehind 38 t_Ro_numberBehind_38 := dk_go 1 a_Ro_numberBehind_37 rfl
theorem a_Ro_numberBehind_41 : dk_at b_Ro_numberBehind 41 t_Ro_numberBehind_41 := dk_go 3 a_Ro_numberBehind_38 rfl
theorem a_Ro_numberBehind_43 : dk_at b_Ro_numberBehind 43 t_Ro_numberBehind_43 := dk_go 2 a_Ro_numberBehind_41 rfl
theorem a_Ro_numberBehind_46 : dk_at b_Ro_numberBehind 46 t_Ro_numberBehind_46 := dk_go 3 a_Ro_numberBehind_43 rfl
theorem a_Ro_numberBehind_47 : dk_at b_Ro_numberBehind 47 t_Ro_numberBehind_47 := dk_go 1 a_Ro_numberBehind_46 rfl
theorem a_Ro_numberBehind_48 : dk_at b_Ro_numberBehind 48 t_Ro_numberBehind_48 := dk_go 1 a_Ro_numberBehind_47 rfl
theorem a_Ro_numberBehind_49 : dk_at b_Ro_numberBehind 49 t_Ro_numberBehind_49 := dk_go 1 a_Ro_numberBehind_48 rfl
theorem a_Ro_numberBehind_51 : dk_at b_Ro_numberBehind 51 t_Ro_numberBehind_51 := dk_go 2 a_Ro_numberBehind_49 rfl
theorem a_Ro_numberBehind_52 : dk_at b_Ro_numberBehind 52 t_Ro_numberBehind_52 := dk_go 1 a_Ro_numberBehind_51 rfl
theorem a_Ro_numberBehind_54 : dk_at b_Ro_numberBehind 54 t_Ro_numberBehind_54 := dk_go 2 a_Ro_numberBehind_52 rfl
theorem a_Ro_numberBehind_56 : dk_at b_Ro_numberBehind 56 t_Ro_numberBehind_56 := dk_go 2 a_Ro_numberBehind_54 rfl
theorem a_Ro_numberBehind_58 : dk_at b_Ro_numberBehind 58 t_Ro_numberBehind_58 := dk_go 2 a_Ro_numberBehind_56 rfl
theorem a_Ro_numberBehind_61 : dk_at b_Ro_numberBehind 61 t_Ro_numberBehind_61 := dk_go 3 a_Ro_numberBehind_58 rfl
theorem a_Ro_numberBehind_62 : dk_at b_Ro_numberBehind 62 t_Ro_numberBehind_62 := dk_go 1 a_Ro_numberBehind_61 rfl
theorem a_Ro_numberBehind_65 : dk_at b_Ro_numberBehind 65 t_Ro_numberBehind_65 := dk_go 3 a_Ro_numberBehind_62 rfl
theorem a_Ro_numberBehind_66 : dk_at b_Ro_numberBehind 66 t_Ro_numberBehind_66 := dk_go 1 a_Ro_numberBehind_65 rfl
theorem a_Ro_numberBehind_68 : dk_at b_Ro_numberBehind 68 t_Ro_numberBehind_68 := dk_go 2 a_Ro_numberBehind_66 rfl
theorem a_Ro_numberBehind_69 : dk_at b_Ro_numberBehind 69 t_Ro_numberBehind_69 := dk_go 1 a_Ro_numberBehind_68 rfl
theorem a_Ro_numberBehind_72 : dk_at b_Ro_numberBehind 72 t_Ro_numberBehind_72 := dk_go 3 a_Ro_numberBehind_69 rfl
theorem a_Ro_numberBehind_75 : dk_at b_Ro_numberBehind 75 t_Ro_numberBehind_75 := dk_go 3 a_Ro_numberBehind_72 rfl
theorem a_Ro_numberBehind_78 : dk_at b_Ro_numberBehind 78 t_Ro_numberBehind_78 := dk_go 3 a_Ro_numberBehind_75 rfl
theorem a_Ro_numberBehind_79 : dk_at b_Ro_numberBehind 79 t_Ro_numberBehind_79 := dk_go 1 a_Ro_numberBehind_78 rfl
theorem a_Ro_numberBehind_80 : dk_at b_Ro_numberBehind 80 t_Ro_numberBehind_80 := dk_go 1 a_Ro_numberBehind_79 rfl
theorem a_Ro_numberBehind_82 : dk_at b_Ro_numberBehind 82 t_Ro_numberBehind_82 := dk_go 2 a_Ro_numberBehind_80 rfl
theorem a_Ro_numberBehind_84 : dk_at b_Ro_numberBehind 84 t_Ro_numberBehind_84 := dk_go 2 a_Ro_numberBehind_82 rfl
theorem a_Ro_numberBehind_85 : dk_at b_Ro_numberBehind 85 t_Ro_numberBehind_85 := dk_go 1 a_Ro_numberBehind_84 rfl
theorem a_Ro_numberBehind_86 : dk_at b_Ro_numberBehind 86 t_Ro_numberBehind_86 := dk_go 1 a_Ro_numberBehind_85 rfl
theorem a_Ro_numberBehind_89 : dk_at b_Ro_numberBehind 89 t_Ro_numberBehind_89 := dk_go 3 a_Ro_numberBehind_86 rfl
theorem a_Ro_numberBehind_90 : dk_at b_Ro_numberBehind 90 t_Ro_numberBehind_90 := dk_go 1 a_Ro_numberBehind_89 rfl
theorem a_Ro_numberBehind_92 : dk_at b_Ro_numberBehind 92 t_Ro_numberBehind_92 := dk_go 2 a_Ro_numberBehind_90 rfl
theorem a_Ro_numberBehind_93 : dk_at b_Ro_numberBehind 93 t_Ro_numberBehind_93 := dk_go 1 a_Ro_numberBehind_92 rfl
theorem a_Ro_numberBehind_96 : dk_at b_Ro_numberBehind 96 t_Ro_numberBehind_96 := dk_go 3 a_Ro_numberBehind_93 rfl
theorem a_Ro_numberBehind_97 : dk_at b_Ro_numberBehind 97 t_Ro_numberBehind_97 := dk_go 1 a_Ro_numberBehind_96 rfl
theorem a_Ro_numberBehind_99 : dk_at b_Ro_numberBehind 99 t_Ro_numberBehind_99 := dk_go 2 a_Ro_numberBehind_97 rfl
theorem a_Ro_numberBehind_100 : dk_at b_Ro_numberBehind 100 t_Ro_numberBehind_100 := dk_go 1 a_Ro_numberBehind_99 rfl
theorem a_Ro_numberBehind_102 : dk_at b_Ro_numberBehind 102 t_Ro_numberBehind_102 := dk_go 2 a_Ro_numberBehind_100 rfl
theorem a_Ro_numberBehind_105 : dk_at b_Ro_numberBehind 105 t_Ro_numberBehind_105 := dk_go 3 a_Ro_numberBehind_102 rfl
theorem a_Ro_numberBehind_108 : dk_at b_Ro_numberBehind 108 t_Ro_numberBehind_108 := dk_go 3 a_Ro_numberBehind_105 rfl
theorem a_Ro_numberBehind_110 : dk_at b_Ro_numberBehind 110 t_Ro_numberBehind_110 := dk_go 2 a_Ro_numberBehind_108 rfl
theorem a_Ro_numberBehind_111 : dk_at b_Ro_numberBehind 111 t_Ro_numberBehind_111 := dk_go 1 a_Ro_numberBehind_110 rfl
theorem a_Ro_numberBehind_114 : dk_at b_Ro_numberBehind 114 t_Ro_numberBehind_114 := dk_go 3 a_Ro_numberBehind_111 rfl
theorem a_Ro_numberBehind_116 : dk_at b_Ro_numberBehind 116 t_Ro_numberBehind_116 := dk_go 2 a_Ro_numberBehind_114 rfl
theorem a_Ro_numberBehind_119 : dk_at b_Ro_numberBehind 119 t_Ro_numberBehind_119 := dk_go 3 a_Ro_numberBehind_116 rfl
theorem a_Ro_numberBehind_120 : dk_at b_Ro_numberBehind 120 t_Ro_numberBehind_120 := dk_go 1 a_Ro_numberBehind_119 rfl
theorem d_Ro_numberBehind_0 : decode b_Ro_numberBehind 0 = .ok (.aload_n 0, 1) := dk_0 a_Ro_numberBehind_0 (dko_42 _)
theorem d_Ro_numberBehind_1 : decode b_Ro_numberBehind 1 = .ok (.getfield 79, 3) := dk_U2 a_Ro_numberBehind_1 (dko_180 _) rfl
theorem d_Ro_numberBehind_4 : decode b_Ro_numberBehind 4 = .ok (.iload_n 1, 1) := dk_0 a_Ro_numberBehind_4 (dko_27 _)
theorem d_Ro_numberBehind_5 : decode b_Ro_numberBehind 5 = .ok (.iadd, 1) := dk_0 a_Ro_numberBehind_5 (dko_96 _)
theorem d_Ro_numberBehind_6 : decode b_Ro_numberBehind 6 = .ok (.istore_n 3, 1) := dk_0 a_Ro_numberBehind_6 (dko_62 _)
theorem d_Ro_numberBehind_7 : decode b_Ro_numberBehind 7 = .ok (.aload_n 0, 1) := dk_0 a_Ro_numberBehind_7 (dko_42 _)
theorem d_Ro_numberBehind_8 : decode b_Ro_numberBehind 8 = .ok (.getfield 73, 3) := dk_U2 a_Ro_numberBehind_8 (dko_180 _) rfl
theorem d_Ro_numberBehind_11 : decode b_Ro_numberBehind 11 = .ok (.iload_n 3, 1) := dk_0 a_Ro_numberBehind_11 (dko_29 _)
theorem d_Ro_numberBehind_12 : decode b_Ro_numberBehind 12 = .ok (.isub, 1) := dk_0 a_Ro_numberBehind_12 (dko_100 _)
theorem d_Ro_numberBehind_13 : decode b_Ro_numberBehind 13 = .ok (.istore 4, 2) := dk_U1 a_Ro_numberBehind_13 (dko_54 _) rfl
theorem d_Ro_numberBehind_15 : decode b_Ro_numberBehind 15 = .ok (.iload 4, 2) := dk_U1 a_Ro_numberBehind_15 (dko_21 _) rfl
theorem d_Ro_numberBehind_17 : decode b_Ro_numberBehind 17 = .ok (.iconst 1, 1) := dk_0 a_Ro_numberBehind_17 (dko_4 _)
theorem d_Ro_numberBehind_18 : decode b_Ro_numberBehind 18 = .ok (.if_icmp .lt 28, 3) := dk_S2 a_Ro_numberBehind_18 (dko_161 _) (by decide +kernel)
theorem d_Ro_numberBehind_21 : decode b_Ro_numberBehind 21 = .ok (.iload 4, 2) := dk_U1 a_Ro_numberBehind_21 (dko_21 _) rfl
theorem d_Ro_numberBehind_23 : decode b_Ro_numberBehind 23 = .ok (.iconst 4, 1) := dk_0 a_Ro_numberBehind_23 (dko_7 _)
theorem d_Ro_numberBehind_24 : decode b_Ro_numberBehind 24 = .ok (.if_icmp .gt 22, 3) := dk_S2 a_Ro_numberBehind_24 (dko_163 _) (by decide +kernel)
theorem d_Ro_numberBehind_27 : decode b_Ro_numberBehind 27 = .ok (.iload 4, 2) := dk_U1 a_Ro_numberBehind_27 (dko_21 _) rfl
theorem d_Ro_numberBehind_29 : decode b_Ro_numberBehind 29 = .ok (.iconst 1, 1) := dk_0 a_Ro_numberBehind_29 (dko_4 _)
theorem d_Ro_numberBehind_30 : decode b_Ro_numberBehind 30 = .ok (.if_icmp .le 18, 3) := dk_S2 a_Ro_numberBehind_30 (dko_164 _) (by decide +kernel)
theorem d_Ro_numberBehind_33 : decode b_Ro_numberBehind 33 = .ok (.aload_n 0, 1) := dk_0 a_Ro_numberBehind_33 (dko_42 _)
theorem d_Ro_numberBehind_34 : decode b_Ro_numberBehind 34 = .ok (.getfield 57, 3) := dk_U2 a_Ro_numberBehind_34 (dko_180 _) rfl
theorem d_Ro_numberBehind_37 : decode b_Ro_numberBehind 37 = .ok (.iload_n 3, 1) := dk_0 a_Ro_numberBehind_37 (dko_29 _)
theorem d_Ro_numberBehind_38 : decode b_Ro_numberBehind 38 = .ok (.invokevirtual 90, 3) := dk_U2 a_Ro_numberBehind_38 (dko_182 _) rfl
theorem d_Ro_numberBehind_41 : decode b_Ro_numberBehind 41 = .ok (.bipush 48, 2) := dk_S1 a_Ro_numberBehind_41 (dko_16 _) (by decide +kernel)
theorem d_Ro_numberBehind_43 : decode b_Ro_numberBehind 43 = .ok (.if_icmp .ne 5, 3) := dk_S2 a_Ro_numberBehind_43 (dko_160 _) (by decide +kernel)
theorem d_Ro_numberBehind_46 : decode b_Ro_numberBehind 46 = .ok (.iconst (-1), 1) := dk_0 a_Ro_numberBehind_46 (dko_2 _)
theorem d_Ro_numberBehind_47 : decode b_Ro_numberBehind 47 = .ok (.ireturn, 1) := dk_0 a_Ro_numberBehind_47 (dko_172 _)
theorem d_Ro_numberBehind_48 : decode b_Ro_numberBehind 48 = .ok (.iconst 0, 1) := dk_0 a_Ro_numberBehind_48 (dko_3 _)
theorem d_Ro_numberBehind_49 : decode b_Ro_numberBehind 49 = .ok (.istore 5, 2) := dk_U1 a_Ro_numberBehind_49 (dko_54 _) rfl
theorem d_Ro_numberBehind_51 : decode b_Ro_numberBehind 51 = .ok (.iconst 0, 1) := dk_0 a_Ro_numberBehind_51 (dko_3 _)
theorem d_Ro_numberBehind_52 : decode b_Ro_numberBehind 52 = .ok (.istore 6, 2) := dk_U1 a_Ro_numberBehind_52 (dko_54 _) rfl
theorem d_Ro_numberBehind_54 : decode b_Ro_numberBehind 54 = .ok (.iload 6, 2) := dk_U1 a_Ro_numberBehind_54 (dko_21 _) rfl
theorem d_Ro_numberBehind_56 : decode b_Ro_numberBehind 56 = .ok (.iload 4, 2) := dk_U1 a_Ro_numberBehind_56 (dko_21 _) rfl
theorem d_Ro_numberBehind_58 : decode b_Ro_numberBehind 58 = .ok (.if_icmp .ge 50, 3) := dk_S2 a_Ro_numberBehind_58 (dko_162 _) (by decide +kernel)
theorem d_Ro_numberBehind_61 : decode b_Ro_numberBehind 61 = .ok (.aload_n 0, 1) := dk_0 a_Ro_numberBehind_61 (dko_42 _)
theorem d_Ro_numberBehind_62 : decode b_Ro_numberBehind 62 = .ok (.getfield 57, 3) := dk_U2 a_Ro_numberBehind_62 (dko_180 _) rfl
theorem d_Ro_numberBehind_65 : decode b_Ro_numberBehind 65 = .ok (.iload_n 3, 1) := dk_0 a_Ro_numberBehind_65 (dko_29 _)
theorem d_Ro_numberBehind_66 : decode b_Ro_numberBehind 66 = .ok (.iload 6, 2) := dk_U1 a_Ro_numberBehind_66 (dko_21 _) rfl
theorem d_Ro_numberBehind_68 : decode b_Ro_numberBehind 68 = .ok (.iadd, 1) := dk_0 a_Ro_numberBehind_68 (dko_96 _)
theorem d_Ro_numberBehind_69 : decode b_Ro_numberBehind 69 = .ok (.invokevirtual 90, 3) := dk_U2 a_Ro_numberBehind_69 (dko_182 _) rfl
theorem d_Ro_numberBehind_72 : decode b_Ro_numberBehind 72 = .ok (.invokestatic 117, 3) := dk_U2 a_Ro_numberBehind_72 (dko_184 _) rfl
theorem d_Ro_numberBehind_75 : decode b_Ro_numberBehind 75 = .ok (.ifCond .ne 5, 3) := dk_S2 a_Ro_numberBehind_75 (dko_154 _) (by decide +kernel)
theorem d_Ro_numberBehind_78 : decode b_Ro_numberBehind 78 = .ok (.iconst (-1), 1) := dk_0 a_Ro_numberBehind_78 (dko_2 _)
theorem d_Ro_numberBehind_79 : decode b_Ro_numberBehind 79 = .ok (.ireturn, 1) := dk_0 a_Ro_numberBehind_79 (dko_172 _)
theorem d_Ro_numberBehind_80 : decode b_Ro_numberBehind 80 = .ok (.iload 5, 2) := dk_U1 a_Ro_numberBehind_80 (dko_21 _) rfl
theorem d_Ro_numberBehind_82 : decode b_Ro_numberBehind 82 = .ok (.bipush 10, 2) := dk_S1 a_Ro_numberBehind_82 (dko_16 _) (by decide +kernel)
theorem d_Ro_numberBehind_84 : decode b_Ro_numberBehind 84 = .ok (.imul, 1) := dk_0 a_Ro_numberBehind_84 (dko_104 _)
theorem d_Ro_numberBehind_85 : decode b_Ro_numberBehind 85 = .ok (.aload_n 0, 1) := dk_0 a_Ro_numberBehind_85 (dko_42 _)
theorem d_Ro_numberBehind_86 : decode b_Ro_numberBehind 86 = .ok (.getfield 57, 3) := dk_U2 a_Ro_numberBehind_86 (dko_180 _) rfl
theorem d_Ro_numberBehind_89 : decode b_Ro_numberBehind 89 = .ok (.iload_n 3, 1) := dk_0 a_Ro_numberBehind_89 (dko_29 _)
theorem d_Ro_numberBehind_90 : decode b_Ro_numberBehind 90 = .ok (.iload 6, 2) := dk_U1 a_Ro_numberBehind_90 (dko_21 _) rfl
theorem d_Ro_numberBehind_92 : decode b_Ro_numberBehind 92 = .ok (.iadd, 1) := dk_0 a_Ro_numberBehind_92 (dko_96 _)
theorem d_Ro_numberBehind_93 : decode b_Ro_numberBehind 93 = .ok (.invokevirtual 90, 3) := dk_U2 a_Ro_numberBehind_93 (dko_182 _) rfl
theorem d_Ro_numberBehind_96 : decode b_Ro_numberBehind 96 = .ok (.iadd, 1) := dk_0 a_Ro_numberBehind_96 (dko_96 _)
theorem d_Ro_numberBehind_97 : decode b_Ro_numberBehind 97 = .ok (.bipush 48, 2) := dk_S1 a_Ro_numberBehind_97 (dko_16 _) (by decide +kernel)
theorem d_Ro_numberBehind_99 : decode b_Ro_numberBehind 99 = .ok (.isub, 1) := dk_0 a_Ro_numberBehind_99 (dko_100 _)
theorem d_Ro_numberBehind_100 : decode b_Ro_numberBehind 100 = .ok (.istore 5, 2) := dk_U1 a_Ro_numberBehind_100 (dko_54 _) rfl
theorem d_Ro_numberBehind_102 : decode b_Ro_numberBehind 102 = .ok (.iinc 6 1, 3) := dk_US a_Ro_numberBehind_102 (dko_132 _) (by decide +kernel)
theorem d_Ro_numberBehind_105 : decode b_Ro_numberBehind 105 = .ok (.goto (-51), 3) := dk_S2 a_Ro_numberBehind_105 (dko_167 _) (by decide +kernel)
theorem d_Ro_numberBehind_108 : decode b_Ro_numberBehind 108 = .ok (.iload 5, 2) := dk_U1 a_Ro_numberBehind_108 (dko_21 _) rfl
theorem d_Ro_numberBehind_110 : decode b_Ro_numberBehind 110 = .ok (.iload_n 2, 1) := dk_0 a_Ro_numberBehind_110 (dko_28 _)
theorem d_Ro_numberBehind_111 : decode b_Ro_numberBehind 111 = .ok (.if_icmp .gt 8, 3) := dk_S2 a_Ro_numberBehind_111 (dko_163 _) (by decide +kernel)
theorem d_Ro_numberBehind_114 : decode b_Ro_numberBehind 114 = .ok (.iload 5, 2) := dk_U1 a_Ro_numberBehind_114 (dko_21 _) rfl
theorem d_Ro_numberBehind_116 : decode b_Ro_numberBehind 116 = .ok (.goto 4, 3) := dk_S2 a_Ro_numberBehind_116 (dko_167 _) (by decide +kernel)
theorem d_Ro_numberBehind_119 : decode b_Ro_numberBehind 119 = .ok (.iconst (-1), 1) := dk_0 a_Ro_numberBehind_119 (dko_2 _)
theorem d_Ro_numberBehind_120 : decode b_Ro_numberBehind 120 = .ok (.ireturn, 1) := dk_0 a_Ro_numberBehind_120 (dko_172 _)
set_option maxHeartbeats 4000000 in
set_option maxRecDepth 100000 in
theorem ok_Ro_numberBehind (pc : Nat) : OpS mt mi_Ro_numberBehind pc (cs_Ro_numberBehind pc) := (os_n (os_n (os_n (os_n (os_n (os_n (os_l (so_aload_n d_Ro_numberBehind_0 rfl)) (os_l (so_get (C := R_Ro) (T := F_Ro) (N := 18) (j := 12) in_Ro rfl (by decide) mw_346 d_Ro_numberBehind_1))) (os_n (os_l (so_iload_n d_Ro_numberBehind_4 rfl)) (os_l (so_iadd d_Ro_numberBehind_5)))) (os_n (os_n (os_l (so_istore_n d_Ro_numberBehind_6 rfl (by decide))) (os_l (so_aload_n d_Ro_numberBehind_7 rfl))) (os_n (os_l (so_get (C := R_Ro) (T := F_Ro) (N := 18) (j := 13) in_Ro rfl (by decide) mw_347 d_Ro_numberBehind_8)) (os_l (so_iload_n d_Ro_numberBehind_11 rfl))))) (os_n (os_n (os_n (os_l (so_isub d_Ro_numberBehind_12)) (os_l (so_istore d_Ro_numberBehind_13 (by decide)))) (os_n (os_l (so_iload d_Ro_numberBehind_15)) (os_l (so_iconst d_Ro_numberBehind_17 (by decide))))) (os_n (os_n (os_l (so_iclt d_Ro_numberBehind_18 (by decide))) (os_l (so_iload d_Ro_numberBehind_21))) (os_n (os_l (so_iconst d_Ro_numberBehind_23 (by decide))) (os_l (so_icgt d_Ro_numberBehind_24 (by decide))))))) (os_n (os_n (os_n (os_n (os_l (so_iload d_Ro_numberBehind_27)) (os_l (so_iconst d_Ro_numberBehind_29 (by decide)))) (os_n (os_l (so_icle d_Ro_numberBehind_30 (by decide))) (os_l (so_aload_n d_Ro_numberBehind_33 rfl)))) (os_n (os_n (os_l (so_get (C := R_Ro) (T := F_Ro) (N := 18) (j := 11) in_Ro rfl (by decide) mw_345 d_Ro_numberBehind_34)) (os_l (so_iload_n d_Ro_numberBehind_37 rfl))) (os_n (os_l (so_callV (iv := mi_Tp_at) rfl rfl rfl mw_819 mw_754 mw_755 mw_2 mw_756 ⟨by decide +kernel, by decide +kernel, by decide +kernel⟩ (by decide) d_Ro_numberBehind_38)) (os_l (so_bipush d_Ro_numberBehind_41 (by decide)))))) (os_n (os_n (os_n (os_l (so_icne d_Ro_numberBehind_43 (by decide))) (os_l (so_iconst d_Ro_numberBehind_46 (by decide)))) (os_n (os_l (so_ireturn rfl d_Ro_numberBehind_47)) (os_l (so_iconst d_Ro_numberBehind_48 (by decide))))) (os_n (os_n (os_l (so_istore d_Ro_numberBehind_49 (by decide))) (os_l (so_iconst d_Ro_numberBehind_51 (by decide)))) (os_n (os_l (so_istore d_Ro_numberBehind_52 (by decide))) (os_n (os_l (so_iload d_Ro_numberBehind_54)) (os_l (so_iload d_Ro_numberBehind_56)))))))) (os_n (os_n (os_n (os_n (os_n (os_l (so_icge d_Ro_numberBehind_58 (by decide))) (os_l (so_aload_n d_Ro_numberBehind_61 rfl))) (os_n (os_l (so_get (C := R_Ro) (T := F_Ro) (N := 18) (j := 11) in_Ro rfl (by decide) mw_345 d_Ro_numberBehind_62)) (os_l (so_iload_n d_Ro_numberBehind_65 rfl)))) (os_n (os_n (os_l (so_iload d_Ro_numberBehind_66)) (os_l (so_iadd d_Ro_numberBehind_68))) (os_n (os_l (so_callV (iv := mi_Tp_at) rfl rfl rfl mw_819 mw_754 mw_755 mw_2 mw_756 ⟨by decide +kernel, by decide +kernel, by decide +kernel⟩ (by decide) d_Ro_numberBehind_69)) (os_l (so_callS (iv := mi_Tp_isDigit) rfl mw_854 mw_778 mw_2 mw_779 ⟨by decide +kernel, by decide +kernel, by decide +kernel⟩ (by decide) d_Ro_numberBehind_72))))) (os_n (os_n (os_n (os_l (so_ifne d_Ro_numberBehind_75 (by decide))) (os_l (so_iconst d_Ro_numberBehind_78 (by decide)))) (os_n (os_l (so_ireturn rfl d_Ro_numberBehind_79)) (os_l (so_iload d_Ro_numberBehind_80)))) (os_n (os_n (os_l (so_bipush d_Ro_numberBehind_82 (by decide))) (os_l (so_imul d_Ro_numberBehind_84))) (os_n (os_l (so_aload_n d_Ro_numberBehind_85 rfl)) (os_l (so_get (C := R_Ro) (T := F_Ro) (N := 18) (j := 11) in_Ro rfl (by decide) mw_345 d_Ro_numberBehind_86)))))) (os_n (os_n (os_n (os_n (os_l (so_iload_n d_Ro_numberBehind_89 rfl)) (os_l (so_iload d_Ro_numberBehind_90))) (os_n (os_l (so_iadd d_Ro_numberBehind_92)) (os_l (so_callV (iv := mi_Tp_at) rfl rfl rfl mw_819 mw_754 mw_755 mw_2 mw_756 ⟨by decide +kernel, by decide +kernel, by decide +kernel⟩ (by decide) d_Ro_numberBehind_93)))) (os_n (os_n (os_l (so_iadd d_Ro_numberBehind_96)) (os_l (so_bipush d_Ro_numberBehind_97 (by decide)))) (os_n (os_l (so_isub d_Ro_numberBehind_99)) (os_l (so_istore d_Ro_numberBehind_100 (by decide)))))) (os_n (os_n (os_n (os_l (so_iinc d_Ro_numberBehind_102 (by decide) (by decide))) (os_l (so_goto d_Ro_numberBehind_105 (by decide)))) (os_n (os_l (so_iload d_Ro_numberBehind_108)) (os_l (so_iload_n d_Ro_numberBehind_110 rfl)))) (os_n (os_n (os_l (so_icgt d_Ro_numberBehind_111 (by decide))) (os_l (so_iload d_Ro_numberBehind_114))) (os_n (os_l (so_goto d_Ro_numberBehind_116 (by decide))) (os_n (os_l (so_iconst d_Ro_numberBehind_119 (by decide))) (os_l (so_ireturn rfl d_Ro_numberBehind_120)))))))))
abbrev t_Ro_readRow_215 : List UInt8 := 177 :: []
abbrev t_Ro_readRow_214 : List UInt8 := 79 :: t_Ro_readRow_215
abbrev t_Ro_readRow_211 : List UInt8 := 180 :: 0 :: 61 :: t_Ro_readRow_214
abbrev t_Ro_readRow_210 : List UInt8 := 42 :: t_Ro_readRow_211
abbrev t_Ro_readRow_207 : List UInt8 := 180 :: 0 :: 37 :: t_Ro_readRow_210
abbrev t_Ro_readRow_206 : List UInt8 := 42 :: t_Ro_readRow_207
abbrev t_Ro_readRow_203 : List UInt8 := 180 :: 0 :: 31 :: t_Ro_readRow_206
abbrev t_Ro_readRow_202 : List UInt8 := 42 :: t_Ro_readRow_203
abbrev t_Ro_readRow_199 : List UInt8 := 181 :: 0 :: 37 :: t_Ro_readRow_202
abbrev t_Ro_readRow_198 : List UInt8 := 96 :: t_Ro_readRow_199
abbrev t_Ro_readRow_197 : List UInt8 := 4 :: t_Ro_readRow_198
abbrev t_Ro_readRow_194 : List UInt8 := 180 :: 0 :: 37 :: t_Ro_readRow_197
abbrev t_Ro_readRow_193 : List UInt8 := 89 :: t_Ro_readRow_194
abbrev t_Ro_readRow_192 : List UInt8 := 42 :: t_Ro_readRow_193
abbrev t_Ro_readRow_191 : List UInt8 := 87 :: t_Ro_readRow_192
abbrev t_Ro_readRow_188 : List UInt8 := 182 :: 0 :: 122 :: t_Ro_readRow_191
abbrev t_Ro_readRow_186 : List UInt8 := 18 :: 142 :: t_Ro_readRow_188
abbrev t_Ro_readRow_185 : List UInt8 := 42 :: t_Ro_readRow_186
abbrev t_Ro_readRow_182 : List UInt8 := 182 :: 0 :: 76 :: t_Ro_readRow_185
abbrev t_Ro_readRow_181 : List UInt8 := 42 :: t_Ro_readRow_182
abbrev t_Ro_readRow_178 : List UInt8 := 153 :: 0 :: 7 :: t_Ro_readRow_181
abbrev t_Ro_readRow_177 : List UInt8 := 51 :: t_Ro_readRow_178
abbrev t_Ro_readRow_174 : List UInt8 := 180 :: 0 :: 37 :: t_Ro_readRow_177
abbrev t_Ro_readRow_173 : List UInt8 := 42 :: t_Ro_readRow_174
abbrev t_Ro_readRow_170 : List UInt8 := 180 :: 0 :: 28 :: t_Ro_readRow_173
abbrev t_Ro_readRow_169 : List UInt8 := 42 :: t_Ro_readRow_170
abbrev t_Ro_readRow_168 : List UInt8 := 84 :: t_Ro_readRow_169
abbrev t_Ro_readRow_165 : List UInt8 := 182 :: 0 :: 110 :: t_Ro_readRow_168
abbrev t_Ro_readRow_163 : List UInt8 := 18 :: 141 :: t_Ro_readRow_165
abbrev t_Ro_readRow_162 : List UInt8 := 42 :: t_Ro_readRow_163
abbrev t_Ro_readRow_159 : List UInt8 := 180 :: 0 :: 37 :: t_Ro_readRow_162
abbrev t_Ro_readRow_158 : List UInt8 := 42 :: t_Ro_readRow_159
abbrev t_Ro_readRow_155 : List UInt8 := 180 :: 0 :: 28 :: t_Ro_readRow_158
abbrev t_Ro_readRow_154 : List UInt8 := 42 :: t_Ro_readRow_155
abbrev t_Ro_readRow_151 : List UInt8 := 182 :: 0 :: 76 :: t_Ro_readRow_154
abbrev t_Ro_readRow_150 : List UInt8 := 42 :: t_Ro_readRow_151
abbrev t_Ro_readRow_147 : List UInt8 := 182 :: 0 :: 114 :: t_Ro_readRow_150
abbrev t_Ro_readRow_146 : List UInt8 := 42 :: t_Ro_readRow_147
abbrev t_Ro_readRow_143 : List UInt8 := 156 :: 0 :: 7 :: t_Ro_readRow_146
abbrev t_Ro_readRow_142 : List UInt8 := 46 :: t_Ro_readRow_143
abbrev t_Ro_readRow_139 : List UInt8 := 180 :: 0 :: 37 :: t_Ro_readRow_142
abbrev t_Ro_readRow_138 : List UInt8 := 42 :: t_Ro_readRow_139
abbrev t_Ro_readRow_135 : List UInt8 := 180 :: 0 :: 25 :: t_Ro_readRow_138
abbrev t_Ro_readRow_134 : List UInt8 := 42 :: t_Ro_readRow_135
abbrev t_Ro_readRow_133 : List UInt8 := 79 :: t_Ro_readRow_134
abbrev t_Ro_readRow_130 : List UInt8 := 182 :: 0 :: 138 :: t_Ro_readRow_133
abbrev t_Ro_readRow_127 : List UInt8 := 17 :: 14 :: 16 :: t_Ro_readRow_130
abbrev t_Ro_readRow_126 : List UInt8 := 3 :: t_Ro_readRow_127
abbrev t_Ro_readRow_125 : List UInt8 := 42 :: t_Ro_readRow_126
abbrev t_Ro_readRow_122 : List UInt8 := 180 :: 0 :: 37 :: t_Ro_readRow_125
abbrev t_Ro_readRow_121 : List UInt8 := 42 :: t_Ro_readRow_122
abbrev t_Ro_readRow_118 : List UInt8 := 180 :: 0 :: 25 :: t_Ro_readRow_121
abbrev t_Ro_readRow_117 : List UInt8 := 42 :: t_Ro_readRow_118
abbrev t_Ro_readRow_114 : List UInt8 := 182 :: 0 :: 76 :: t_Ro_readRow_117
abbrev t_Ro_readRow_113 : List UInt8 := 42 :: t_Ro_readRow_114
abbrev t_Ro_readRow_110 : List UInt8 := 153 :: 0 :: 44 :: t_Ro_readRow_113
abbrev t_Ro_readRow_107 : List UInt8 := 182 :: 0 :: 110 :: t_Ro_readRow_110
abbrev t_Ro_readRow_105 : List UInt8 := 18 :: 136 :: t_Ro_readRow_107
abbrev t_Ro_readRow_104 : List UInt8 := 42 :: t_Ro_readRow_105
abbrev t_Ro_readRow_101 : List UInt8 := 182 :: 0 :: 133 :: t_Ro_readRow_104
abbrev t_Ro_readRow_100 : List UInt8 := 42 :: t_Ro_readRow_101
abbrev t_Ro_readRow_97 : List UInt8 := 181 :: 0 :: 130 :: t_Ro_readRow_100
abbrev t_Ro_readRow_96 : List UInt8 := 3 :: t_Ro_readRow_97
abbrev t_Ro_readRow_95 : List UInt8 := 42 :: t_Ro_readRow_96
abbrev t_Ro_readRow_94 : List UInt8 := 79 :: t_Ro_readRow_95
abbrev t_Ro_readRow_91 : List UInt8 := 180 :: 0 :: 61 :: t_Ro_readRow_94
abbrev t_Ro_readRow_90 : List UInt8 := 42 :: t_Ro_readRow_91
abbrev t_Ro_readRow_87 : List UInt8 := 180 :: 0 :: 37 :: t_Ro_readRow_90
abbrev t_Ro_readRow_86 : List UInt8 := 42 :: t_Ro_readRow_87
abbrev t_Ro_readRow_83 : List UInt8 := 180 :: 0 :: 31 :: t_Ro_readRow_86
abbrev t_Ro_readRow_82 : List UInt8 := 42 :: t_Ro_readRow_83
abbrev t_Ro_readRow_81 : List UInt8 := 87 :: t_Ro_readRow_82
abbrev t_Ro_readRow_78 : List UInt8 := 182 :: 0 :: 122 :: t_Ro_readRow_81
abbrev t_Ro_readRow_76 : List UInt8 := 18 :: 128 :: t_Ro_readRow_78
abbrev t_Ro_readRow_75 : List UInt8 := 42 :: t_Ro_readRow_76
abbrev t_Ro_readRow_72 : List UInt8 := 182 :: 0 :: 125 :: t_Ro_readRow_75
abbrev t_Ro_readRow_71 : List UInt8 := 42 :: t_Ro_readRow_72
abbrev t_Ro_readRow_70 : List UInt8 := 87 :: t_Ro_readRow_71
abbrev t_Ro_readRow_67 : List UInt8 := 182 :: 0 :: 122 :: t_Ro_readRow_70
abbrev t_Ro_readRow_65 : List UInt8 := 18 :: 120 :: t_Ro_readRow_67
abbrev t_Ro_readRow_64 : List UInt8 := 42 :: t_Ro_readRow_65
abbrev t_Ro_readRow_63 : List UInt8 := 79 :: t_Ro_readRow_64
abbrev t_Ro_readRow_62 : List UInt8 := 3 :: t_Ro_readRow_63
abbrev t_Ro_readRow_59 : List UInt8 := 180 :: 0 :: 37 :: t_Ro_readRow_62
abbrev t_Ro_readRow_58 : List UInt8 := 42 :: t_Ro_readRow_59
abbrev t_Ro_readRow_55 : List UInt8 := 180 :: 0 :: 25 :: t_Ro_readRow_58
abbrev t_Ro_readRow_54 : List UInt8 := 42 :: t_Ro_readRow_55
abbrev t_Ro_readRow_53 : List UInt8 := 79 :: t_Ro_readRow_54
abbrev t_Ro_readRow_52 : List UInt8 := 3 :: t_Ro_readRow_53
abbrev t_Ro_readRow_49 : List UInt8 := 180 :: 0 :: 37 :: t_Ro_readRow_52
abbrev t_Ro_readRow_48 : List UInt8 := 42 :: t_Ro_readRow_49
abbrev t_Ro_readRow_45 : List UInt8 := 180 :: 0 :: 22 :: t_Ro_readRow_48
abbrev t_Ro_readRow_44 : List UInt8 := 42 :: t_Ro_readRow_45
abbrev t_Ro_readRow_43 : List UInt8 := 79 :: t_Ro_readRow_44
abbrev t_Ro_readRow_42 : List UInt8 := 3 :: t_Ro_readRow_43
abbrev t_Ro_readRow_39 : List UInt8 := 180 :: 0 :: 37 :: t_Ro_readRow_42
abbrev t_Ro_readRow_38 : List UInt8 := 42 :: t_Ro_readRow_39
abbrev t_Ro_readRow_35 : List UInt8 := 180 :: 0 :: 19 :: t_Ro_readRow_38
abbrev t_Ro_readRow_34 : List UInt8 := 42 :: t_Ro_readRow_35
abbrev t_Ro_readRow_33 : List UInt8 := 84 :: t_Ro_readRow_34
abbrev t_Ro_readRow_32 : List UInt8 := 3 :: t_Ro_readRow_33
abbrev t_Ro_readRow_29 : List UInt8 := 180 :: 0 :: 37 :: t_Ro_readRow_32
abbrev t_Ro_readRow_28 : List UInt8 := 42 :: t_Ro_readRow_29
abbrev t_Ro_readRow_25 : List UInt8 := 180 :: 0 :: 15 :: t_Ro_readRow_28
abbrev t_Ro_readRow_24 : List UInt8 := 42 :: t_Ro_readRow_25
abbrev t_Ro_readRow_23 : List UInt8 := 79 :: t_Ro_readRow_24
abbrev t_Ro_readRow_22 : List UInt8 := 3 :: t_Ro_readRow_23
abbrev t_Ro_readRow_19 : List UInt8 := 180 :: 0 :: 37 :: t_Ro_readRow_22
abbrev t_Ro_readRow_18 : List UInt8 := 42 :: t_Ro_readRow_19
abbrev t_Ro_readRow_15 : List UInt8 := 180 :: 0 :: 9 :: t_Ro_readRow_18
abbrev t_Ro_readRow_14 : List UInt8 := 42 :: t_Ro_readRow_15
abbrev t_Ro_readRow_13 : List UInt8 := 177 :: t_Ro_readRow_14
abbrev t_Ro_readRow_10 : List UInt8 := 182 :: 0 :: 114 :: t_Ro_readRow_13
abbrev t_Ro_readRow_9 : List UInt8 := 42 :: t_Ro_readRow_10
abbrev t_Ro_readRow_6 : List UInt8 := 161 :: 0 :: 8 :: t_Ro_readRow_9
abbrev t_Ro_readRow_4 : List UInt8 := 16 :: 40 :: t_Ro_readRow_6
abbrev t_Ro_readRow_1 : List UInt8 := 180 :: 0 :: 37 :: t_Ro_readRow_4
abbrev t_Ro_readRow_0 : List UInt8 := 42 :: t_Ro_readRow_1
theorem a_Ro_readRow_0 : dk_at b_Ro_readRow 0 t_Ro_readRow_0 := dk_start (by decide +kernel)
theorem a_Ro_readRow_1 : dk_at b_Ro_readRow 1 t_Ro_readRow_1 := dk_go 1 a_Ro_readRow_0 rfl
theorem a_Ro_readRow_4 : dk_at b_Ro_readRow 4 t_Ro_readRow_4 := dk_go 3 a_Ro_readRow_1 rfl
theorem a_Ro_readRow_6 : dk_at b_Ro_readRow 6 t_Ro_readRow_6 := dk_go 2 a_Ro_readRow_4 rfl
theorem a_Ro_readRow_9 : dk_at b_Ro_readRow 9 t_Ro_readRow_9 := dk_go 3 a_Ro_readRow_6 rfl
theorem a_Ro_readRow_10 : dk_at b_Ro_readRow 10 t_Ro_readRow_10 := dk_go 1 a_Ro_readRow_9 rfl
theorem a_Ro_readRow_13 : dk_at b_Ro_readRow 13 t_Ro_readRow_13 := dk_go 3 a_Ro_readRow_10 rfl
theorem a_Ro_readRow_14 : dk_at b_Ro_readRow 14 t_Ro_readRow_14 := dk_go 1 a_Ro_readRow_13 rfl
theorem a_Ro_readRow_15 : dk_at b_Ro_readRow 15 t_Ro_readRow_15 := dk_go 1 a_Ro_readRow_14 rfl
theorem a_Ro_readRow_18 : dk_at b_Ro_readRow 18 t_Ro_readRow_18 := dk_go 3 a_Ro_readRow_15 rfl
theorem a_Ro_readRow_19 : dk_at b_Ro_readRow 19 t_Ro_readRow_19 := dk_go 1 a_Ro_readRow_18 rfl
theorem a_Ro_readRow_22 : dk_at b_Ro_readRow 22 t_Ro_readRow_22 := dk_go 3 a_Ro_readRow_19 rfl
theorem a_Ro_readRow_23 : dk_at b_Ro_readRow 23 t_Ro_readRow_23 := dk_go 1 a_Ro_readRow_22 rfl
theorem a_Ro_readRow_24 : dk_at b_Ro_readRow 24 t_Ro_readRow_24 := dk_go 1 a_Ro_readRow_23 rfl
theorem a_Ro_readRow_25 : dk_at b_Ro_readRow 25 t_Ro_readRow_25 := dk_go 1 a_Ro_readRow_24 rfl
theorem a_Ro_readRow_28 : dk_at b_Ro_readRow 28 t_Ro_readRow_28 := dk_go 3 a_Ro_readRow_25 rfl
theorem a_Ro_readRow_29 : dk_at b_Ro_readRow 29 t_Ro_readRow_29 := dk_go 1 a_Ro_readRow_28 rfl
theorem a_Ro_readRow_32 : dk_at b_Ro_readRow 32 t_Ro_readRow_32 := dk_go 3 a_Ro_readRow_29 rfl
theorem a_Ro_readRow_33 : dk_at b_Ro_readRow 33 t_Ro_readRow_33 := dk_go 1 a_Ro_readRow_32 rfl
theorem a_Ro_readRow_34 : dk_at b_Ro_readRow 34 t_Ro_readRow_34 := dk_go 1 a_Ro_readRow_33 rfl
theorem a_Ro_readRow_35 : dk_at b_Ro_readRow 35 t_Ro_readRow_35 := dk_go 1 a_Ro_readRow_34 rfl
theorem a_Ro_readRow_38 : dk_at b_Ro_readRow 38 t_Ro_readRow_38 := dk_go 3 a_Ro_readRow_35 rfl
theorem a_Ro_readRow_39 : dk_at b_Ro_readRow 39 t_Ro_readRow_39 := dk_go 1 a_Ro_readRow_38 rfl
theorem a_Ro_readRow_42 : dk_at b_Ro_readRow 42 t_Ro_readRow_42 := dk_go 3 a_Ro_readRow_39 rfl
theorem a_Ro_readRow_43 : dk_at b_Ro_readRow 43 t_Ro_readRow_43 := dk_go 1 a_Ro_readRow_42 rfl
theorem a_Ro_readRow_44 : dk_at b_Ro_readRow 44 t_Ro_readRow_44 := dk_go 1 a_Ro_readRow_43 rfl
theorem a_Ro_readRow_45 : dk_at b_Ro_readRow 45 t_Ro_readRow_45 := dk_go 1 a_Ro_readRow_44 rfl
theorem a_Ro_readRow_48 : dk_at b_Ro_readRow 48 t_Ro_readRow_48 := dk_go 3 a_Ro_readRow_45 rfl
theorem a_Ro_readRow_49 : dk_at b_Ro_readRow 49 t_Ro_readRow_49 := dk_go 1 a_Ro_readRow_48 rfl
theorem a_Ro_readRow_52 : dk_at b_Ro_readRow 52 t_Ro_readRow_52 := dk_go 3 a_Ro_readRow_49 rfl
theorem a_Ro_readRow_53 : dk_at b_Ro_readRow 53 t_Ro_readRow_53 := dk_go 1 a_Ro_readRow_52 rfl
theorem a_Ro_readRow_54 : dk_at b_Ro_readRow 54 t_Ro_readRow_54 := dk_go 1 a_Ro_readRow_53 rfl
theorem a_Ro_readRow_55 : dk_at b_Ro_readRow 55 t_Ro_readRow_55 := dk_go 1 a_Ro_readRow_54 rfl
theorem a_Ro_readRow_58 : dk_at b_Ro_readRow 58 t_Ro_readRow_58 := dk_go 3 a_Ro_readRow_55 rfl
theorem a_Ro_readRow_59 : dk_at b_Ro_readRow 59 t_Ro_readRow_59 := dk_go 1 a_Ro_readRow_58 rfl
theorem a_Ro_readRow_62 : dk_at b_Ro_readRow 62 t_Ro_readRow_62 := dk_go 3 a_Ro_readRow_59 rfl
theorem a_Ro_readRow_63 : dk_at b_Ro_readRow 63 t_Ro_readRow_63 := dk_go 1 a_Ro_readRow_62 rfl
theorem a_Ro_readRow_64 : dk_at b_Ro_readRow 64 t_Ro_readRow_64 := dk_go 1 a_Ro_readRow_63 rfl
theorem a_Ro_readRow_65 : dk_at b_Ro_readRow 65 t_Ro_readRow_65 := dk_go 1 a_Ro_readRow_64 rfl
theorem a_Ro_readRow_67 : dk_at b_Ro_readRow 67 t_Ro_readRow_67 := dk_go 2 a_Ro_readRow_65 rfl
theorem a_Ro_readRow_70 : dk_at b_Ro_readRow 70 t_Ro_readRow_70 := dk_go 3 a_Ro_readRow_67 rfl
theorem a_Ro_readRow_71 : dk_at b_Ro_readRow 71 t_Ro_readRow_71 := dk_go 1 a_Ro_readRow_70 rfl
theorem a_Ro_readRow_72 : dk_at b_Ro_readRow 72 t_Ro_readRow_72 := dk_go 1 a_Ro_readRow_71 rfl
theorem a_Ro_readRow_75 : dk_at b_Ro_readRow 75 t_Ro_readRow_75 := dk_go 3 a_Ro_readRow_72 rfl
theorem a_Ro_readRow_76 : dk_at b_Ro_readRow 76 t_Ro_readRow_76 := dk_go 1 a_Ro_readRow_75 rfl
theorem a_Ro_readRow_78 : dk_at b_Ro_readRow 78 t_Ro_readRow_78 := dk_go 2 a_Ro_readRow_76 rfl
theorem a_Ro_readRow_81 : dk_at b_Ro_readRow 81 t_Ro_readRow_81 := dk_go 3 a_Ro_readRow_78 rfl
theorem a_Ro_readRow_82 : dk_at b_Ro_readRow 82 t_Ro_readRow_82 := dk_go 1 a_Ro_readRow_81 rfl
theorem a_Ro_readRow_83 : dk_at b_Ro_readRow 83 t_Ro_readRow_83 := dk_go 1 a_Ro_readRow_82 rfl
theorem a_Ro_readRow_86 : dk_at b_Ro_readRow 86 t_Ro_readRow_86 := dk_go 3 a_Ro_readRow_83 rfl
theorem a_Ro_readRow_87 : dk_at b_Ro_readRow 87 t_Ro_readRow_87 := dk_go 1 a_Ro_readRow_86 rfl
theorem a_Ro_readRow_90 : dk_at b_Ro_readRow 90 t_Ro_readRow_90 := dk_go 3 a_Ro_readRow_87 rfl
theorem a_Ro_readRow_91 : dk_at b_Ro_readRow 91 t_Ro_readRow_91 := dk_go 1 a_Ro_readRow_90 rfl
theorem a_Ro_readRow_94 : dk_at b_Ro_readRow 94 t_Ro_readRow_94 := dk_go 3 a_Ro_readRow_91 rfl
theorem a_Ro_readRow_95 : dk_at b_Ro_readRow 95 t_Ro_readRow_95 := dk_go 1 a_Ro_readRow_94 rfl
theorem a_Ro_readRow_96 : dk_at b_Ro_readRow 96 t_Ro_readRow_96 := dk_go 1 a_Ro_readRow_95 rfl
theorem a_Ro_readRow_97 : dk_at b_Ro_readRow 97 t_Ro_readRow_97 := dk_go 1 a_Ro_readRow_96 rfl
theorem a_Ro_readRow_100 : dk_at b_Ro_readRow 100 t_Ro_readRow_100 := dk_go 3 a_Ro_readRow_97 rfl
theorem a_Ro_readRow_101 : dk_at b_Ro_readRow 101 t_Ro_readRow_101 := dk_go 1 a_Ro_readRow_100 rfl
theorem a_Ro_readRow_104 : dk_at b_Ro_readRow 104 t_Ro_readRow_104 := dk_go 3 a_Ro_readRow_101 rfl
theorem a_Ro_readRow_105 : dk_at b_Ro_readRow 105 t_Ro_readRow_105 := dk_go 1 a_Ro_readRow_104 rfl
theorem a_Ro_readRow_107 : dk_at b_Ro_readRow 107 t_Ro_readRow_107 := dk_go 2 a_Ro_readRow_105 rfl
theorem a_Ro_readRow_110 : dk_at b_Ro_readRow 110 t_Ro_readRow_110 := dk_go 3 a_Ro_readRow_107 rfl
theorem a_Ro_readRow_113 : dk_at b_Ro_readRow 113 t_Ro_readRow_113 := dk_go 3 a_Ro_readRow_110 rfl
theorem a_Ro_readRow_114 : dk_at b_Ro_readRow 114 t_Ro_readRow_114 := dk_go 1 a_Ro_readRow_113 rfl
theorem a_Ro_readRow_117 : dk_at b_Ro_readRow 117 t_Ro_readRow_117 := dk_go 3 a_Ro_readRow_114 rfl
theorem a_Ro_readRow_118 : dk_at b_Ro_readRow 118 t_Ro_readRow_118 := dk_go 1 a_Ro_readRow_117 rfl
theorem a_Ro_readRow_121 : dk_at b_Ro_readRow 121 t_Ro_readRow_121 := dk_go 3 a_Ro_readRow_118 rfl
theorem a_Ro_readRow_122 : dk_at b_Ro_readRow 122 t_Ro_readRow_122 := dk_go 1 a_Ro_readRow_121 rfl
theorem a_Ro_readRow_125 : dk_at b_Ro_readRow 125 t_Ro_readRow_125 := dk_go 3 a_Ro_readRow_122 rfl
theorem a_Ro_readRow_126 : dk_at b_Ro_readRow 126 t_Ro_readRow_126 := dk_go 1 a_Ro_readRow_125 rfl
theorem a_Ro_readRow_127 : dk_at b_Ro_readRow 127 t_Ro_readRow_127 := dk_go 1 a_Ro_readRow_126 rfl
theorem a_Ro_readRow_130 : dk_at b_Ro_readRow 130 t_Ro_readRow_130 := dk_go 3 a_Ro_readRow_127 rfl
theorem a_Ro_readRow_133 : dk_at b_Ro_readRow 133 t_Ro_readRow_133 := dk_go 3 a_Ro_readRow_130 rfl
theorem a_Ro_readRow_134 : dk_at b_Ro_readRow 134 t_Ro_readRow_134 := dk_go 1 a_Ro_readRow_133 rfl
theorem a_Ro_readRow_135 : dk_at b_Ro_readRow 135 t_Ro_readRow_135 := dk_go 1 a_Ro_readRow_134 rfl
theorem a_Ro_readRow_138 : dk_at b_Ro_readRow 138 t_Ro_readRow_138 := dk_go 3 a_Ro_readRow_135 rfl
theorem a_Ro_readRow_139 : dk_at b_Ro_readRow 139 t_Ro_readRow_139 := dk_go 1 a_Ro_readRow_138 rfl
theorem a_Ro_readRow_142 : dk_at b_Ro_readRow 142 t_Ro_readRow_142 := dk_go 3 a_Ro_readRow_139 rfl
theorem a_Ro_readRow_143 : dk_at b_Ro_readRow 143 t_Ro_readRow_143 := dk_go 1 a_Ro_readRow_142 rfl
theorem a_Ro_readRow_146 : dk_at b_Ro_readRow 146 t_Ro_readRow_146 := dk_go 3 a_Ro_readRow_143 rfl
theorem a_Ro_readRow_147 : dk_at b_Ro_readRow 147 t_Ro_readRow_147 := dk_go 1 a_Ro_readRow_146 rfl
theorem a_Ro_readRow_150 : dk_at b_Ro_readRow 150 t_Ro_readRow_150 := dk_go 3 a_Ro_readRow_147 rfl
theorem a_Ro_readRow_151 : dk_at b_Ro_readRow 151 t_Ro_readRow_151 := dk_go 1 a_Ro_readRow_150 rfl
theorem a_Ro_readRow_154 : dk_at b_Ro_readRow 154 t_Ro_readRow_154 := dk_go 3 a_Ro_readRow_151 rfl
theorem a_Ro_readRow_155 : dk_at b_Ro_readRow 155 t_Ro_readRow_155 := dk_go 1 a_Ro_readRow_154 rfl
theorem a_Ro_readRow_158 : dk_at b_Ro_readRow 158 t_Ro_readRow_158 := dk_go 3 a_Ro_readRow_155 rfl
theorem a_Ro_readRow_159 : dk_at b_Ro_readRow 159 t_Ro_readRow_159 := dk_go 1 a_Ro_readRow_158 rfl
theorem a_Ro_readRow_162 : dk_at b_Ro_readRow 162 t_Ro_readRow_162 := dk_go 3 a_Ro_readRow_159 rfl
theorem a_Ro_readRow_163 : dk_at b_Ro_readRow 163 t_Ro_readRow_163 := dk_go 1 a_Ro_readRow_162 rfl
theorem a_Ro_readRow_165 : dk_at b_Ro_readRow 165 t_Ro_readRow_165 := dk_go 2 a_Ro_readRow_163 rfl
theorem a_Ro_readRow_168 : dk_at b_Ro_readRow 168 t_Ro_readRow_168 := dk_go 3 a_Ro_readRow_165 rfl
theorem a_Ro_readRow_169 : dk_at b_Ro_readRow 169 t_Ro_readRow_169 := dk_go 1 a_Ro_readRow_168 rfl
theorem a_Ro_readRow_170 : dk_at b_Ro_readRow 170 t_Ro_readRow_170 := dk_go 1 a_Ro_readRow_169 rfl
theorem a_Ro_readRow_173 : dk_at b_Ro_readRow 173 t_Ro_readRow_173 := dk_go 3 a_Ro_readRow_170 rfl
theorem a_Ro_readRow_174 : dk_at b_Ro_readRow 174 t_Ro_readRow_174 := dk_go 1 a_Ro_readRow_173 rfl
theorem a_Ro_readRow_177 : dk_at b_Ro_readRow 177 t_Ro_readRow_177 := dk_go 3 a_Ro_readRow_174 rfl
theorem a_Ro_readRow_178 : dk_at b_Ro_readRow 178 t_Ro_readRow_178 := dk_go 1 a_Ro_readRow_177 rfl
theorem a_Ro_readRow_181 : dk_at b_Ro_readRow 181 t_Ro_readRow_181 := dk_go 3 a_Ro_readRow_178 rfl
theorem a_Ro_readRow_182 : dk_at b_Ro_readRow 182 t_Ro_readRow_182 := dk_go 1 a_Ro_readRow_181 rfl
theorem a_Ro_readRow_185 : dk_at b_Ro_readRow 185 t_Ro_readRow_185 := dk_go 3 a_Ro_readRow_182 rfl
theorem a_Ro_readRow_186 : dk_at b_Ro_readRow 186 t_Ro_readRow_186 := dk_go 1 a_Ro_readRow_185 rfl
theorem a_Ro_readRow_188 : dk_at b_Ro_readRow 188 t_Ro_readRow_188 := dk_go 2 a_Ro_readRow_186 rfl
theorem a_Ro_readRow_191 : dk_at b_Ro_readRow 191 t_Ro_readRow_191 := dk_go 3 a_Ro_readRow_188 rfl
theorem a_Ro_readRow_192 : dk_at b_Ro_readRow 192 t_Ro_readRow_192 := dk_go 1 a_Ro_readRow_191 rfl
theorem a_Ro_readRow_193 : dk_at b_Ro_readRow 193 t_Ro_readRow_193 := dk_go 1 a_Ro_readRow_192 rfl
theorem a_Ro_readRow_194 : dk_at b_Ro_readRow 194 t_Ro_readRow_194 := dk_go 1 a_Ro_readRow_193 rfl
theorem a_Ro_readRow_197 : dk_at b_Ro_readRow 197 t_Ro_readRow_197 := dk_go 3 a_Ro_readRow_194 rfl
theorem a_Ro_readRow_198 : dk_at b_Ro_readRow 198 t_Ro_readRow_198 := dk_go 1 a_Ro_readRow_197 rfl
theorem a_Ro_readRow_199 : dk_at b_Ro_readRow 199 t_Ro_readRow_199 := dk_go 1 a_Ro_readRow_198 rfl
theorem a_Ro_readRow_202 : dk_at b_Ro_readRow 202 t_Ro_readRow_202 := dk_go 3 a_Ro_readRow_199 rfl
theorem a_Ro_readRow_203 : dk_at b_Ro_readRow 203 t_Ro_readRow_203 := dk_go 1 a_Ro_readRow_202 rfl
theorem a_Ro_readRow_206 : dk_at b_Ro_readRow 206 t_Ro_readRow_206 := dk_go 3 a_Ro_readRow_203 rfl
theorem a_Ro_readRow_207 : dk_at b_Ro_readRow 207 t_Ro_readRow_207 := dk_go 1 a_Ro_readRow_206 rfl
theorem a_Ro_readRow_210 : dk_at b_Ro_readRow 210 t_Ro_readRow_210 := dk_go 3 a_Ro_readRow_207 rfl
theorem a_Ro_readRow_211 : dk_at b_Ro_readRow 211 t_Ro_readRow_211 := dk_go 1 a_Ro_readRow_210 rfl
theorem a_Ro_readRow_214 : dk_at b_Ro_readRow 214 t_Ro_readRow_214 := dk_go 3 a_Ro_readRow_211 rfl
theorem a_Ro_readRow_215 : dk_at b_Ro_readRow 215 t_Ro_readRow_215 := dk_go 1 a_Ro_readRow_214 rfl
theorem d_Ro_readRow_0 : decode b_Ro_readRow 0 = .ok (.aload_n 0, 1) := dk_0 a_Ro_readRow_0 (dko_42 _)
theorem d_Ro_readRow_1 : decode b_Ro_readRow 1 = .ok (.getfield 37, 3) := dk_U2 a_Ro_readRow_1 (dko_180 _) rfl
theorem d_Ro_readRow_4 : decode b_Ro_readRow 4 = .ok (.bipush 40, 2) := dk_S1 a_Ro_readRow_4 (dko_16 _) (by decide +kernel)
theorem d_Ro_readRow_6 : decode b_Ro_readRow 6 = .ok (.if_icmp .lt 8, 3) := dk_S2 a_Ro_readRow_6 (dko_161 _) (by decide +kernel)
theorem d_Ro_readRow_9 : decode b_Ro_readRow 9 = .ok (.aload_n 0, 1) := dk_0 a_Ro_readRow_9 (dko_42 _)
theorem d_Ro_readRow_10 : decode b_Ro_readRow 10 = .ok (.invokevirtual 114, 3) := dk_U2 a_Ro_readRow_10 (dko_182 _) rfl
theorem d_Ro_readRow_13 : decode b_Ro_readRow 13 = .ok (.return_, 1) := dk_0 a_Ro_readRow_13 (dko_177 _)
theorem d_Ro_readRow_14 : decode b_Ro_readRow 14 = .ok (.aload_n 0, 1) := dk_0 a_Ro_readRow_14 (dko_42 _)
theorem d_Ro_readRow_15 : decode b_Ro_readRow 15 = .ok (.getfield 9, 3) := dk_U2 a_Ro_readRow_15 (dko_180 _) rfl
theorem d_Ro_readRow_18 : decode b_Ro_readRow 18 = .ok (.aload_n 0, 1) := dk_0 a_Ro_readRow_18 (dko_42 _)
theorem d_Ro_readRow_19 : decode b_Ro_readRow 19 = .ok (.getfield 37, 3) := dk_U2 a_Ro_readRow_19 (dko_180 _) rfl
theorem d_Ro_readRow_22 : decode b_Ro_readRow 22 = .ok (.iconst 0, 1) := dk_0 a_Ro_readRow_22 (dko_3 _)
theorem d_Ro_readRow_23 : decode b_Ro_readRow 23 = .ok (.iastore, 1) := dk_0 a_Ro_readRow_23 (dko_79 _)
theorem d_Ro_readRow_24 : decode b_Ro_readRow 24 = .ok (.aload_n 0, 1) := dk_0 a_Ro_readRow_24 (dko_42 _)
theorem d_Ro_readRow_25 : decode b_Ro_readRow 25 = .ok (.getfield 15, 3) := dk_U2 a_Ro_readRow_25 (dko_180 _) rfl
theorem d_Ro_readRow_28 : decode b_Ro_readRow 28 = .ok (.aload_n 0, 1) := dk_0 a_Ro_readRow_28 (dko_42 _)
theorem d_Ro_readRow_29 : decode b_Ro_readRow 29 = .ok (.getfield 37, 3) := dk_U2 a_Ro_readRow_29 (dko_180 _) rfl
theorem d_Ro_readRow_32 : decode b_Ro_readRow 32 = .ok (.iconst 0, 1) := dk_0 a_Ro_readRow_32 (dko_3 _)
theorem d_Ro_readRow_33 : decode b_Ro_readRow 33 = .ok (.bastore, 1) := dk_0 a_Ro_readRow_33 (dko_84 _)
theorem d_Ro_readRow_34 : decode b_Ro_readRow 34 = .ok (.aload_n 0, 1) := dk_0 a_Ro_readRow_34 (dko_42 _)
theorem d_Ro_readRow_35 : decode b_Ro_readRow 35 = .ok (.getfield 19, 3) := dk_U2 a_Ro_readRow_35 (dko_180 _) rfl
theorem d_Ro_readRow_38 : decode b_Ro_readRow 38 = .ok (.aload_n 0, 1) := dk_0 a_Ro_readRow_38 (dko_42 _)
theorem d_Ro_readRow_39 : decode b_Ro_readRow 39 = .ok (.getfield 37, 3) := dk_U2 a_Ro_readRow_39 (dko_180 _) rfl
theorem d_Ro_readRow_42 : decode b_Ro_readRow 42 = .ok (.iconst 0, 1) := dk_0 a_Ro_readRow_42 (dko_3 _)
theorem d_Ro_readRow_43 : decode b_Ro_readRow 43 = .ok (.iastore, 1) := dk_0 a_Ro_readRow_43 (dko_79 _)
theorem d_Ro_readRow_44 : decode b_Ro_readRow 44 = .ok (.aload_n 0, 1) := dk_0 a_Ro_readRow_44 (dko_42 _)
theorem d_Ro_readRow_45 : decode b_Ro_readRow 45 = .ok (.getfield 22, 3) := dk_U2 a_Ro_readRow_45 (dko_180 _) rfl
theorem d_Ro_readRow_48 : decode b_Ro_readRow 48 = .ok (.aload_n 0, 1) := dk_0 a_Ro_readRow_48 (dko_42 _)
theorem d_Ro_readRow_49 : decode b_Ro_readRow 49 = .ok (.getfield 37, 3) := dk_U2 a_Ro_readRow_49 (dko_180 _) rfl
theorem d_Ro_readRow_52 : decode b_Ro_readRow 52 = .ok (.iconst 0, 1) := dk_0 a_Ro_readRow_52 (dko_3 _)
theorem d_Ro_readRow_53 : decode b_Ro_readRow 53 = .ok (.iastore, 1) := dk_0 a_Ro_readRow_53 (dko_79 _)
theorem d_Ro_readRow_54 : decode b_Ro_readRow 54 = .ok (.aload_n 0, 1) := dk_0 a_Ro_readRow_54 (dko_42 _)
theorem d_Ro_readRow_55 : decode b_Ro_readRow 55 = .ok (.getfield 25, 3) := dk_U2 a_Ro_readRow_55 (dko_180 _) rfl
theorem d_Ro_readRow_58 : decode b_Ro_readRow 58 = .ok (.aload_n 0, 1) := dk_0 a_Ro_readRow_58 (dko_42 _)
theorem d_Ro_readRow_59 : decode b_Ro_readRow 59 = .ok (.getfield 37, 3) := dk_U2 a_Ro_readRow_59 (dko_180 _) rfl
theorem d_Ro_readRow_62 : decode b_Ro_readRow 62 = .ok (.iconst 0, 1) := dk_0 a_Ro_readRow_62 (dko_3 _)
theorem d_Ro_readRow_63 : decode b_Ro_readRow 63 = .ok (.iastore, 1) := dk_0 a_Ro_readRow_63 (dko_79 _)
theorem d_Ro_readRow_64 : decode b_Ro_readRow 64 = .ok (.aload_n 0, 1) := dk_0 a_Ro_readRow_64 (dko_42 _)
theorem d_Ro_readRow_65 : decode b_Ro_readRow 65 = .ok (.ldc 120, 2) := dk_U1 a_Ro_readRow_65 (dko_18 _) rfl
theorem d_Ro_readRow_67 : decode b_Ro_readRow 67 = .ok (.invokevirtual 122, 3) := dk_U2 a_Ro_readRow_67 (dko_182 _) rfl
theorem d_Ro_readRow_70 : decode b_Ro_readRow 70 = .ok (.pop, 1) := dk_0 a_Ro_readRow_70 (dko_87 _)
theorem d_Ro_readRow_71 : decode b_Ro_readRow 71 = .ok (.aload_n 0, 1) := dk_0 a_Ro_readRow_71 (dko_42 _)
theorem d_Ro_readRow_72 : decode b_Ro_readRow 72 = .ok (.invokevirtual 125, 3) := dk_U2 a_Ro_readRow_72 (dko_182 _) rfl
theorem d_Ro_readRow_75 : decode b_Ro_readRow 75 = .ok (.aload_n 0, 1) := dk_0 a_Ro_readRow_75 (dko_42 _)
theorem d_Ro_readRow_76 : decode b_Ro_readRow 76 = .ok (.ldc 128, 2) := dk_U1 a_Ro_readRow_76 (dko_18 _) rfl
theorem d_Ro_readRow_78 : decode b_Ro_readRow 78 = .ok (.invokevirtual 122, 3) := dk_U2 a_Ro_readRow_78 (dko_182 _) rfl
theorem d_Ro_readRow_81 : decode b_Ro_readRow 81 = .ok (.pop, 1) := dk_0 a_Ro_readRow_81 (dko_87 _)
theorem d_Ro_readRow_82 : decode b_Ro_readRow 82 = .ok (.aload_n 0, 1) := dk_0 a_Ro_readRow_82 (dko_42 _)
theorem d_Ro_readRow_83 : decode b_Ro_readRow 83 = .ok (.getfield 31, 3) := dk_U2 a_Ro_readRow_83 (dko_180 _) rfl
theorem d_Ro_readRow_86 : decode b_Ro_readRow 86 = .ok (.aload_n 0, 1) := dk_0 a_Ro_readRow_86 (dko_42 _)
theorem d_Ro_readRow_87 : decode b_Ro_readRow 87 = .ok (.getfield 37, 3) := dk_U2 a_Ro_readRow_87 (dko_180 _) rfl
theorem d_Ro_readRow_90 : decode b_Ro_readRow 90 = .ok (.aload_n 0, 1) := dk_0 a_Ro_readRow_90 (dko_42 _)
theorem d_Ro_readRow_91 : decode b_Ro_readRow 91 = .ok (.getfield 61, 3) := dk_U2 a_Ro_readRow_91 (dko_180 _) rfl
theorem d_Ro_readRow_94 : decode b_Ro_readRow 94 = .ok (.iastore, 1) := dk_0 a_Ro_readRow_94 (dko_79 _)
theorem d_Ro_readRow_95 : decode b_Ro_readRow 95 = .ok (.aload_n 0, 1) := dk_0 a_Ro_readRow_95 (dko_42 _)
theorem d_Ro_readRow_96 : decode b_Ro_readRow 96 = .ok (.iconst 0, 1) := dk_0 a_Ro_readRow_96 (dko_3 _)
theorem d_Ro_readRow_97 : decode b_Ro_readRow 97 = .ok (.putfield 130, 3) := dk_U2 a_Ro_readRow_97 (dko_181 _) rfl
theorem d_Ro_readRow_100 : decode b_Ro_readRow 100 = .ok (.aload_n 0, 1) := dk_0 a_Ro_readRow_100 (dko_42 _)
theorem d_Ro_readRow_101 : decode b_Ro_readRow 101 = .ok (.invokevirtual 133, 3) := dk_U2 a_Ro_readRow_101 (dko_182 _) rfl
theorem d_Ro_readRow_104 : decode b_Ro_readRow 104 = .ok (.aload_n 0, 1) := dk_0 a_Ro_readRow_104 (dko_42 _)
theorem d_Ro_readRow_105 : decode b_Ro_readRow 105 = .ok (.ldc 136, 2) := dk_U1 a_Ro_readRow_105 (dko_18 _) rfl
theorem d_Ro_readRow_107 : decode b_Ro_readRow 107 = .ok (.invokevirtual 110, 3) := dk_U2 a_Ro_readRow_107 (dko_182 _) rfl
theorem d_Ro_readRow_110 : decode b_Ro_readRow 110 = .ok (.ifCond .eq 44, 3) := dk_S2 a_Ro_readRow_110 (dko_153 _) (by decide +kernel)
theorem d_Ro_readRow_113 : decode b_Ro_readRow 113 = .ok (.aload_n 0, 1) := dk_0 a_Ro_readRow_113 (dko_42 _)
theorem d_Ro_readRow_114 : decode b_Ro_readRow 114 = .ok (.invokevirtual 76, 3) := dk_U2 a_Ro_readRow_114 (dko_182 _) rfl
theorem d_Ro_readRow_117 : decode b_Ro_readRow 117 = .ok (.aload_n 0, 1) := dk_0 a_Ro_readRow_117 (dko_42 _)
theorem d_Ro_readRow_118 : decode b_Ro_readRow 118 = .ok (.getfield 25, 3) := dk_U2 a_Ro_readRow_118 (dko_180 _) rfl
theorem d_Ro_readRow_121 : decode b_Ro_readRow 121 = .ok (.aload_n 0, 1) := dk_0 a_Ro_readRow_121 (dko_42 _)
theorem d_Ro_readRow_122 : decode b_Ro_readRow 122 = .ok (.getfield 37, 3) := dk_U2 a_Ro_readRow_122 (dko_180 _) rfl
theorem d_Ro_readRow_125 : decode b_Ro_readRow 125 = .ok (.aload_n 0, 1) := dk_0 a_Ro_readRow_125 (dko_42 _)
theorem d_Ro_readRow_126 : decode b_Ro_readRow 126 = .ok (.iconst 0, 1) := dk_0 a_Ro_readRow_126 (dko_3 _)
theorem d_Ro_readRow_127 : decode b_Ro_readRow 127 = .ok (.sipush 3600, 3) := dk_S2 a_Ro_readRow_127 (dko_17 _) (by decide +kernel)
theorem d_Ro_readRow_130 : decode b_Ro_readRow 130 = .ok (.invokevirtual 138, 3) := dk_U2 a_Ro_readRow_130 (dko_182 _) rfl
theorem d_Ro_readRow_133 : decode b_Ro_readRow 133 = .ok (.iastore, 1) := dk_0 a_Ro_readRow_133 (dko_79 _)
theorem d_Ro_readRow_134 : decode b_Ro_readRow 134 = .ok (.aload_n 0, 1) := dk_0 a_Ro_readRow_134 (dko_42 _)
theorem d_Ro_readRow_135 : decode b_Ro_readRow 135 = .ok (.getfield 25, 3) := dk_U2 a_Ro_readRow_135 (dko_180 _) rfl
theorem d_Ro_readRow_138 : decode b_Ro_readRow 138 = .ok (.aload_n 0, 1) := dk_0 a_Ro_readRow_138 (dko_42 _)
theorem d_Ro_readRow_139 : decode b_Ro_readRow 139 = .ok (.getfield 37, 3) := dk_U2 a_Ro_readRow_139 (dko_180 _) rfl
theorem d_Ro_readRow_142 : decode b_Ro_readRow 142 = .ok (.iaload, 1) := dk_0 a_Ro_readRow_142 (dko_46 _)
theorem d_Ro_readRow_143 : decode b_Ro_readRow 143 = .ok (.ifCond .ge 7, 3) := dk_S2 a_Ro_readRow_143 (dko_156 _) (by decide +kernel)
theorem d_Ro_readRow_146 : decode b_Ro_readRow 146 = .ok (.aload_n 0, 1) := dk_0 a_Ro_readRow_146 (dko_42 _)
theorem d_Ro_readRow_147 : decode b_Ro_readRow 147 = .ok (.invokevirtual 114, 3) := dk_U2 a_Ro_readRow_147 (dko_182 _) rfl
theorem d_Ro_readRow_150 : decode b_Ro_readRow 150 = .ok (.aload_n 0, 1) := dk_0 a_Ro_readRow_150 (dko_42 _)
theorem d_Ro_readRow_151 : decode b_Ro_readRow 151 = .ok (.invokevirtual 76, 3) := dk_U2 a_Ro_readRow_151 (dko_182 _) rfl
theorem d_Ro_readRow_154 : decode b_Ro_readRow 154 = .ok (.aload_n 0, 1) := dk_0 a_Ro_readRow_154 (dko_42 _)
theorem d_Ro_readRow_155 : decode b_Ro_readRow 155 = .ok (.getfield 28, 3) := dk_U2 a_Ro_readRow_155 (dko_180 _) rfl
theorem d_Ro_readRow_158 : decode b_Ro_readRow 158 = .ok (.aload_n 0, 1) := dk_0 a_Ro_readRow_158 (dko_42 _)
theorem d_Ro_readRow_159 : decode b_Ro_readRow 159 = .ok (.getfield 37, 3) := dk_U2 a_Ro_readRow_159 (dko_180 _) rfl
theorem d_Ro_readRow_162 : decode b_Ro_readRow 162 = .ok (.aload_n 0, 1) := dk_0 a_Ro_readRow_162 (dko_42 _)
theorem d_Ro_readRow_163 : decode b_Ro_readRow 163 = .ok (.ldc 141, 2) := dk_U1 a_Ro_readRow_163 (dko_18 _) rfl
theorem d_Ro_readRow_165 : decode b_Ro_readRow 165 = .ok (.invokevirtual 110, 3) := dk_U2 a_Ro_readRow_165 (dko_182 _) rfl
theorem d_Ro_readRow_168 : decode b_Ro_readRow 168 = .ok (.bastore, 1) := dk_0 a_Ro_readRow_168 (dko_84 _)
theorem d_Ro_readRow_169 : decode b_Ro_readRow 169 = .ok (.aload_n 0, 1) := dk_0 a_Ro_readRow_169 (dko_42 _)
theorem d_Ro_readRow_170 : decode b_Ro_readRow 170 = .ok (.getfield 28, 3) := dk_U2 a_Ro_readRow_170 (dko_180 _) rfl
theorem d_Ro_readRow_173 : decode b_Ro_readRow 173 = .ok (.aload_n 0, 1) := dk_0 a_Ro_readRow_173 (dko_42 _)
theorem d_Ro_readRow_174 : decode b_Ro_readRow 174 = .ok (.getfield 37, 3) := dk_U2 a_Ro_readRow_174 (dko_180 _) rfl
theorem d_Ro_readRow_177 : decode b_Ro_readRow 177 = .ok (.baload, 1) := dk_0 a_Ro_readRow_177 (dko_51 _)
theorem d_Ro_readRow_178 : decode b_Ro_readRow 178 = .ok (.ifCond .eq 7, 3) := dk_S2 a_Ro_readRow_178 (dko_153 _) (by decide +kernel)
theorem d_Ro_readRow_181 : decode b_Ro_readRow 181 = .ok (.aload_n 0, 1) := dk_0 a_Ro_readRow_181 (dko_42 _)
theorem d_Ro_readRow_182 : decode b_Ro_readRow 182 = .ok (.invokevirtual 76, 3) := dk_U2 a_Ro_readRow_182 (dko_182 _) rfl
theorem d_Ro_readRow_185 : decode b_Ro_readRow 185 = .ok (.aload_n 0, 1) := dk_0 a_Ro_readRow_185 (dko_42 _)
theorem d_Ro_readRow_186 : decode b_Ro_readRow 186 = .ok (.ldc 142, 2) := dk_U1 a_Ro_readRow_186 (dko_18 _) rfl
theorem d_Ro_readRow_188 : decode b_Ro_readRow 188 = .ok (.invokevirtual 122, 3) := dk_U2 a_Ro_readRow_188 (dko_182 _) rfl
theorem d_Ro_readRow_191 : decode b_Ro_readRow 191 = .ok (.pop, 1) := dk_0 a_Ro_readRow_191 (dko_87 _)
theorem d_Ro_readRow_192 : decode b_Ro_readRow 192 = .ok (.aload_n 0, 1) := dk_0 a_Ro_readRow_192 (dko_42 _)
theorem d_Ro_readRow_193 : decode b_Ro_readRow 193 = .ok (.dup, 1) := dk_0 a_Ro_readRow_193 (dko_89 _)
theorem d_Ro_readRow_194 : decode b_Ro_readRow 194 = .ok (.getfield 37, 3) := dk_U2 a_Ro_readRow_194 (dko_180 _) rfl
theorem d_Ro_readRow_197 : decode b_Ro_readRow 197 = .ok (.iconst 1, 1) := dk_0 a_Ro_readRow_197 (dko_4 _)
theorem d_Ro_readRow_198 : decode b_Ro_readRow 198 = .ok (.iadd, 1) := dk_0 a_Ro_readRow_198 (dko_96 _)
theorem d_Ro_readRow_199 : decode b_Ro_readRow 199 = .ok (.putfield 37, 3) := dk_U2 a_Ro_readRow_199 (dko_181 _) rfl
theorem d_Ro_readRow_202 : decode b_Ro_readRow 202 = .ok (.aload_n 0, 1) := dk_0 a_Ro_readRow_202 (dko_42 _)
theorem d_Ro_readRow_203 : decode b_Ro_readRow 203 = .ok (.getfield 31, 3) := dk_U2 a_Ro_readRow_203 (dko_180 _) rfl
theorem d_Ro_readRow_206 : decode b_Ro_readRow 206 = .ok (.aload_n 0, 1) := dk_0 a_Ro_readRow_206 (dko_42 _)
theorem d_Ro_readRow_207 : decode b_Ro_readRow 207 = .ok (.getfield 37, 3) := dk_U2 a_Ro_readRow_207 (dko_180 _) rfl
theorem d_Ro_readRow_210 : decode b_Ro_readRow 210 = .ok (.aload_n 0, 1) := dk_0 a_Ro_readRow_210 (dko_42 _)
theorem d_Ro_readRow_211 : decode b_Ro_readRow 211 = .ok (.getfield 61, 3) := dk_U2 a_Ro_readRow_211 (dko_180 _) rfl
theorem d_Ro_readRow_214 : decode b_Ro_readRow 214 = .ok (.iastore, 1) := dk_0 a_Ro_readRow_214 (dko_79 _)
theorem d_Ro_readRow_215 : decode b_Ro_readRow 215 = .ok (.return_, 1) := dk_0 a_Ro_readRow_215 (dko_177 _)
set_option maxHeartbeats 4000000 in
set_option maxRecDepth 100000 in
theorem ok_Ro_readRow (pc : Nat) : OpS mt mi_Ro_readRow pc (cs_Ro_readRow pc) := (os_n (os_n (os_n (os_n (os_n (os_n (os_l (so_aload_n d_Ro_readRow_0 rfl)) (os_n (os_l (so_get (C := R_Ro) (T := F_Ro) (N := 18) (j := 0) in_Ro rfl (by decide) mw_329 d_Ro_readRow_1)) (os_l (so_bipush d_Ro_readRow_4 (by decide))))) (os_n (os_n (os_l (so_iclt d_Ro_readRow_6 (by decide))) (os_l (so_aload_n d_Ro_readRow_9 rfl))) (os_n (os_l (so_callV (iv := mi_Ro_fail) rfl rfl rfl mw_830 mw_832 sl_11 mw_10 mw_833 ⟨by decide +kernel, by decide +kernel, by decide +kernel⟩ (by decide) d_Ro_readRow_10)) (os_l (so_return rfl d_Ro_readRow_13))))) (os_n (os_n (os_l (so_aload_n d_Ro_readRow_14 rfl)) (os_n (os_l (so_get (C := R_Ro) (T := F_Ro) (N := 18) (j := 2) in_Ro rfl (by decide) mw_333 d_Ro_readRow_15)) (os_l (so_aload_n d_Ro_readRow_18 rfl)))) (os_n (os_n (os_l (so_get (C := R_Ro) (T := F_Ro) (N := 18) (j := 0) in_Ro rfl (by decide) mw_329 d_Ro_readRow_19)) (os_l (so_iconst d_Ro_readRow_22 (by decide)))) (os_n (os_l (so_iastore d_Ro_readRow_23)) (os_l (so_aload_n d_Ro_readRow_24 rfl)))))) (os_n (os_n (os_n (os_l (so_get (C := R_Ro) (T := F_Ro) (N := 18) (j := 3) in_Ro rfl (by decide) mw_335 d_Ro_readRow_25)) (os_n (os_l (so_aload_n d_Ro_readRow_28 rfl)) (os_l (so_get (C := R_Ro) (T := F_Ro) (N := 18) (j := 0) in_Ro rfl (by decide) mw_329 d_Ro_readRow_29)))) (os_n (os_n (os_l (so_iconst d_Ro_readRow_32 (by decide))) (os_l (so_bastore d_Ro_readRow_33))) (os_n (os_l (so_aload_n d_Ro_readRow_34 rfl)) (os_l (so_get (C := R_Ro) (T := F_Ro) (N := 18) (j := 4) in_Ro rfl (by decide) mw_337 d_Ro_readRow_35))))) (os_n (os_n (os_n (os_l (so_aload_n d_Ro_readRow_38 rfl)) (os_l (so_get (C := R_Ro) (T := F_Ro) (N := 18) (j := 0) in_Ro rfl (by decide) mw_329 d_Ro_readRow_39))) (os_n (os_l (so_iconst d_Ro_readRow_42 (by decide))) (os_l (so_iastore d_Ro_readRow_43)))) (os_n (os_n (os_l (so_aload_n d_Ro_readRow_44 rfl)) (os_l (so_get (C := R_Ro) (T := F_Ro) (N := 18) (j := 5) in_Ro rfl (by decide) mw_339 d_Ro_readRow_45))) (os_n (os_l (so_aload_n d_Ro_readRow_48 rfl)) (os_l (so_get (C := R_Ro) (T := F_Ro) (N := 18) (j := 0) in_Ro rfl (by decide) mw_329 d_Ro_readRow_49))))))) (os_n (os_n (os_n (os_n (os_l (so_iconst d_Ro_readRow_52 (by decide))) (os_n (os_l (so_iastore d_Ro_readRow_53)) (os_l (so_aload_n d_Ro_readRow_54 rfl)))) (os_n (os_n (os_l (so_get (C := R_Ro) (T := F_Ro) (N := 18) (j := 6) in_Ro rfl (by decide) mw_340 d_Ro_readRow_55)) (os_l (so_aload_n d_Ro_readRow_58 rfl))) (os_n (os_l (so_get (C := R_Ro) (T := F_Ro) (N := 18) (j := 0) in_Ro rfl (by decide) mw_329 d_Ro_readRow_59)) (os_l (so_iconst d_Ro_readRow_62 (by decide)))))) (os_n (os_n (os_n (os_l (so_iastore d_Ro_readRow_63)) (os_l (so_aload_n d_Ro_readRow_64 rfl))) (os_n (os_l (so_ldcS (k := 6) (idx := 0) (q := ("BreweryHouse$Rows", 120, "bar")) (by decide +kernel) rfl d_Ro_readRow_65)) (os_l (so_callV (iv := mi_Ro_takes) rfl rfl rfl mw_835 mw_837 sl_12 mw_10 mw_838 ⟨by decide +kernel, by decide +kernel, by decide +kernel⟩ (by decide) d_Ro_readRow_67)))) (os_n (os_n (os_l (so_pop d_Ro_readRow_70)) (os_l (so_aload_n d_Ro_readRow_71 rfl))) (os_n (os_l (so_callV (iv := mi_Ro_readActs) rfl rfl rfl mw_845 mw_847 sl_14 mw_10 mw_848 ⟨by decide +kernel, by decide +kernel, by decide +kernel⟩ (by decide) d_Ro_readRow_72)) (os_l (so_aload_n d_Ro_readRow_75 rfl)))))) (os_n (os_n (os_n (os_l (so_ldcS (k := 7) (idx := 0) (q := ("BreweryHouse$Rows", 128, "when")) (by decide +kernel) rfl d_Ro_readRow_76)) (os_n (os_l (so_callV (iv := mi_Ro_takes) rfl rfl rfl mw_835 mw_837 sl_12 mw_10 mw_838 ⟨by decide +kernel, by decide +kernel, by decide +kernel⟩ (by decide) d_Ro_readRow_78)) (os_l (so_pop d_Ro_readRow_81)))) (os_n (os_n (os_l (so_aload_n d_Ro_readRow_82 rfl)) (os_l (so_get (C := R_Ro) (T := F_Ro) (N := 18) (j := 8) in_Ro rfl (by decide) mw_342 d_Ro_readRow_83))) (os_n (os_l (so_aload_n d_Ro_readRow_86 rfl)) (os_l (so_get (C := R_Ro) (T := F_Ro) (N := 18) (j := 0) in_Ro rfl (by decide) mw_329 d_Ro_readRow_87))))) (os_n (os_n (os_n (os_l (so_aload_n d_Ro_readRow_90 rfl)) (os_l (so_get (C := R_Ro) (T := F_Ro) (N := 18) (j := 10) in_Ro rfl (by decide) mw_344 d_Ro_readRow_91))) (os_n (os_l (so_iastore d_Ro_readRow_94)) (os_l (so_aload_n d_Ro_readRow_95 rfl)))) (os_n (os_n (os_l (so_iconst d_Ro_readRow_96 (by decide))) (os_l (so_putI (C := R_Ro) (T := F_Ro) (N := 18) (j := 16) in_Ro t_Ro_ok n_Ro rfl (by decide) mw_350 rfl (by decide +kernel) d_Ro_readRow_97))) (os_n (os_l (so_aload_n d_Ro_readRow_100 rfl)) (os_l (so_callV (iv := mi_Ro_readOr) rfl rfl rfl mw_855 mw_857 sl_16 mw_10 mw_858 ⟨by decide +kernel, by decide +kernel, by decide +kernel⟩ (by decide) d_Ro_readRow_101)))))))) (os_n (os_n (os_n (os_n (os_n (os_l (so_aload_n d_Ro_readRow_104 rfl)) (os_n (os_l (so_ldcS (k := 13) (idx := 0) (q := ("BreweryHouse$Rows", 136, "for")) (by decide +kernel) rfl d_Ro_readRow_105)) (os_l (so_callV (iv := mi_Ro_is) rfl rfl rfl mw_839 mw_841 sl_13 mw_10 mw_842 ⟨by decide +kernel, by decide +kernel, by decide +kernel⟩ (by decide) d_Ro_readRow_107)))) (os_n (os_n (os_l (so_ifeq d_Ro_readRow_110 (by decide))) (os_l (so_aload_n d_Ro_readRow_113 rfl))) (os_n (os_l (so_callV (iv := mi_Ro_nextWord) rfl rfl rfl mw_815 mw_817 sl_9 mw_10 mw_818 ⟨by decide +kernel, by decide +kernel, by decide +kernel⟩ (by decide) d_Ro_readRow_114)) (os_l (so_aload_n d_Ro_readRow_117 rfl))))) (os_n (os_n (os_l (so_get (C := R_Ro) (T := F_Ro) (N := 18) (j := 6) in_Ro rfl (by decide) mw_340 d_Ro_readRow_118)) (os_n (os_l (so_aload_n d_Ro_readRow_121 rfl)) (os_l (so_get (C := R_Ro) (T := F_Ro) (N := 18) (j := 0) in_Ro rfl (by decide) mw_329 d_Ro_readRow_122)))) (os_n (os_n (os_l (so_aload_n d_Ro_readRow_125 rfl)) (os_l (so_iconst d_Ro_readRow_126 (by decide)))) (os_n (os_l (so_sipush d_Ro_readRow_127 (by decide))) (os_l (so_callV (iv := mi_Ro_numberBehind) rfl rfl rfl mw_850 mw_852 sl_15 mw_10 mw_853 ⟨by decide +kernel, by decide +kernel, by decide +kernel⟩ (by decide) d_Ro_readRow_130)))))) (os_n (os_n (os_n (os_l (so_iastore d_Ro_readRow_133)) (os_n (os_l (so_aload_n d_Ro_readRow_134 rfl)) (os_l (so_get (C := R_Ro) (T := F_Ro) (N := 18) (j := 6) in_Ro rfl (by decide) mw_340 d_Ro_readRow_135)))) (os_n (os_n (os_l (so_aload_n d_Ro_readRow_138 rfl)) (os_l (so_get (C := R_Ro) (T := F_Ro) (N := 18) (j := 0) in_Ro rfl (by decide) mw_329 d_Ro_readRow_139))) (os_n (os_l (so_iaload d_Ro_readRow_142)) (os_l (so_ifge d_Ro_readRow_143 (by decide)))))) (os_n (os_n (os_n (os_l (so_aload_n d_Ro_readRow_146 rfl)) (os_l (so_callV (iv := mi_Ro_fail) rfl rfl rfl mw_830 mw_832 sl_11 mw_10 mw_833 ⟨by decide +kernel, by decide +kernel, by decide +kernel⟩ (by decide) d_Ro_readRow_147))) (os_n (os_l (so_aload_n d_Ro_readRow_150 rfl)) (os_l (so_callV (iv := mi_Ro_nextWord) rfl rfl rfl mw_815 mw_817 sl_9 mw_10 mw_818 ⟨by decide +kernel, by decide +kernel, by decide +kernel⟩ (by decide) d_Ro_readRow_151)))) (os_n (os_n (os_l (so_aload_n d_Ro_readRow_154 rfl)) (os_l (so_get (C := R_Ro) (T := F_Ro) (N := 18) (j := 7) in_Ro rfl (by decide) mw_341 d_Ro_readRow_155))) (os_n (os_l (so_aload_n d_Ro_readRow_158 rfl)) (os_l (so_get (C := R_Ro) (T := F_Ro) (N := 18) (j := 0) in_Ro rfl (by decide) mw_329 d_Ro_readRow_159))))))) (os_n (os_n (os_n (os_n (os_l (so_aload_n d_Ro_readRow_162 rfl)) (os_n (os_l (so_ldcS (k := 14) (idx := 0) (q := ("BreweryHouse$Rows", 141, "latched")) (by decide +kernel) rfl d_Ro_readRow_163)) (os_l (so_callV (iv := mi_Ro_is) rfl rfl rfl mw_839 mw_841 sl_13 mw_10 mw_842 ⟨by decide +kernel, by decide +kernel, by decide +kernel⟩ (by decide) d_Ro_readRow_165)))) (os_n (os_n (os_l (so_bastore d_Ro_readRow_168)) (os_l (so_aload_n d_Ro_readRow_169 rfl))) (os_n (os_l (so_get (C := R_Ro) (T := F_Ro) (N := 18) (j := 7) in_Ro rfl (by decide) mw_341 d_Ro_readRow_170)) (os_l (so_aload_n d_Ro_readRow_173 rfl))))) (os_n (os_n (os_n (os_l (so_get (C := R_Ro) (T := F_Ro) (N := 18) (j := 0) in_Ro rfl (by decide) mw_329 d_Ro_readRow_174)) (os_l (so_baload d_Ro_readRow_177))) (os_n (os_l (so_ifeq d_Ro_readRow_178 (by decide))) (os_l (so_aload_n d_Ro_readRow_181 rfl)))) (os_n (os_n (os_l (so_callV (iv := mi_Ro_nextWord) rfl rfl rfl mw_815 mw_817 sl_9 mw_10 mw_818 ⟨by decide +kernel, by decide +kernel, by decide +kernel⟩ (by decide) d_Ro_readRow_182)) (os_l (so_aload_n d_Ro_readRow_185 rfl))) (os_n (os_l (so_ldcS (k := 15) (idx := 0) (q := ("BreweryHouse$Rows", 142, ";")) (by decide +kernel) rfl d_Ro_readRow_186)) (os_l (so_callV (iv := mi_Ro_takes) rfl rfl rfl mw_835 mw_837 sl_12 mw_10 mw_838 ⟨by decide +kernel, by decide +kernel, by decide +kernel⟩ (by decide) d_Ro_readRow_188)))))) (os_n (os_n (os_n (os_l (so_pop d_Ro_readRow_191)) (os_n (os_l (so_aload_n d_Ro_readRow_192 rfl)) (os_l (so_dup d_Ro_readRow_193)))) (os_n (os_n (os_l (so_get (C := R_Ro) (T := F_Ro) (N := 18) (j := 0) in_Ro rfl (by decide) mw_329 d_Ro_readRow_194)) (os_l (so_iconst d_Ro_readRow_197 (by decide)))) (os_n (os_l (so_iadd d_Ro_readRow_198)) (os_l (so_putI (C := R_Ro) (T := F_Ro) (N := 18) (j := 0) in_Ro t_Ro_ok n_Ro rfl (by decide) mw_329 rfl (by decide +kernel) d_Ro_readRow_199))))) (os_n (os_n (os_n (os_l (so_aload_n d_Ro_readRow_202 rfl)) (os_l (so_get (C := R_Ro) (T := F_Ro) (N := 18) (j := 8) in_Ro rfl (by decide) mw_342 d_Ro_readRow_203))) (os_n (os_l (so_aload_n d_Ro_readRow_206 rfl)) (os_l (so_get (C := R_Ro) (T := F_Ro) (N := 18) (j := 0) in_Ro rfl (by decide) mw_329 d_Ro_readRow_207)))) (os_n (os_n (os_l (so_aload_n d_Ro_readRow_210 rfl)) (os_l (so_get (C := R_Ro) (T := F_Ro) (N := 18) (j := 10) in_Ro rfl (by decide) mw_344 d_Ro_readRow_211))) (os_n (os_l (so_iastore d_Ro_readRow_214)) (os_l (so_return rfl d_Ro_readRow_215)))))))))
abbrev t_Ro_readActs_113 : List UInt8 := 177 :: []
abbrev t_Ro_readActs_110 : List UInt8 := 167 :: 255 :: 148 :: t_Ro_readActs_113
abbrev t_Ro_readActs_107 : List UInt8 := 132 :: 1 :: 1 :: t_Ro_readActs_110
abbrev t_Ro_readActs_104 : List UInt8 := 182 :: 0 :: 76 :: t_Ro_readActs_107
abbrev t_Ro_readActs_103 : List UInt8 := 42 :: t_Ro_readActs_104
abbrev t_Ro_readActs_102 : List UInt8 := 79 :: t_Ro_readActs_103
abbrev t_Ro_readActs_101 : List UInt8 := 128 :: t_Ro_readActs_102
abbrev t_Ro_readActs_100 : List UInt8 := 120 :: t_Ro_readActs_101
abbrev t_Ro_readActs_99 : List UInt8 := 28 :: t_Ro_readActs_100
abbrev t_Ro_readActs_98 : List UInt8 := 4 :: t_Ro_readActs_99
abbrev t_Ro_readActs_97 : List UInt8 := 46 :: t_Ro_readActs_98
abbrev t_Ro_readActs_96 : List UInt8 := 92 :: t_Ro_readActs_97
abbrev t_Ro_readActs_93 : List UInt8 := 180 :: 0 :: 37 :: t_Ro_readActs_96
abbrev t_Ro_readActs_92 : List UInt8 := 42 :: t_Ro_readActs_93
abbrev t_Ro_readActs_89 : List UInt8 := 180 :: 0 :: 22 :: t_Ro_readActs_92
abbrev t_Ro_readActs_88 : List UInt8 := 42 :: t_Ro_readActs_89
abbrev t_Ro_readActs_87 : List UInt8 := 177 :: t_Ro_readActs_88
abbrev t_Ro_readActs_84 : List UInt8 := 182 :: 0 :: 114 :: t_Ro_readActs_87
abbrev t_Ro_readActs_83 : List UInt8 := 42 :: t_Ro_readActs_84
abbrev t_Ro_readActs_80 : List UInt8 := 153 :: 0 :: 8 :: t_Ro_readActs_83
abbrev t_Ro_readActs_79 : List UInt8 := 126 :: t_Ro_readActs_80
abbrev t_Ro_readActs_78 : List UInt8 := 4 :: t_Ro_readActs_79
abbrev t_Ro_readActs_77 : List UInt8 := 124 :: t_Ro_readActs_78
abbrev t_Ro_readActs_76 : List UInt8 := 28 :: t_Ro_readActs_77
abbrev t_Ro_readActs_75 : List UInt8 := 46 :: t_Ro_readActs_76
abbrev t_Ro_readActs_72 : List UInt8 := 180 :: 0 :: 37 :: t_Ro_readActs_75
abbrev t_Ro_readActs_71 : List UInt8 := 42 :: t_Ro_readActs_72
abbrev t_Ro_readActs_68 : List UInt8 := 180 :: 0 :: 22 :: t_Ro_readActs_71
abbrev t_Ro_readActs_67 : List UInt8 := 42 :: t_Ro_readActs_68
abbrev t_Ro_readActs_64 : List UInt8 := 159 :: 0 :: 19 :: t_Ro_readActs_67
abbrev t_Ro_readActs_62 : List UInt8 := 16 :: 8 :: t_Ro_readActs_64
abbrev t_Ro_readActs_61 : List UInt8 := 27 :: t_Ro_readActs_62
abbrev t_Ro_readActs_58 : List UInt8 := 155 :: 0 :: 25 :: t_Ro_readActs_61
abbrev t_Ro_readActs_57 : List UInt8 := 28 :: t_Ro_readActs_58
abbrev t_Ro_readActs_56 : List UInt8 := 61 :: t_Ro_readActs_57
abbrev t_Ro_readActs_55 : List UInt8 := 2 :: t_Ro_readActs_56
abbrev t_Ro_readActs_52 : List UInt8 := 167 :: 0 :: 4 :: t_Ro_readActs_55
abbrev t_Ro_readActs_49 : List UInt8 := 182 :: 0 :: 138 :: t_Ro_readActs_52
abbrev t_Ro_readActs_47 : List UInt8 := 16 :: 31 :: t_Ro_readActs_49
abbrev t_Ro_readActs_46 : List UInt8 := 4 :: t_Ro_readActs_47
abbrev t_Ro_readActs_45 : List UInt8 := 42 :: t_Ro_readActs_46
abbrev t_Ro_readActs_42 : List UInt8 := 160 :: 0 :: 13 :: t_Ro_readActs_45
abbrev t_Ro_readActs_40 : List UInt8 := 16 :: 97 :: t_Ro_readActs_42
abbrev t_Ro_readActs_37 : List UInt8 := 182 :: 0 :: 90 :: t_Ro_readActs_40
abbrev t_Ro_readActs_34 : List UInt8 := 180 :: 0 :: 79 :: t_Ro_readActs_37
abbrev t_Ro_readActs_33 : List UInt8 := 42 :: t_Ro_readActs_34
abbrev t_Ro_readActs_30 : List UInt8 := 180 :: 0 :: 57 :: t_Ro_readActs_33
abbrev t_Ro_readActs_29 : List UInt8 := 42 :: t_Ro_readActs_30
abbrev t_Ro_readActs_28 : List UInt8 := 177 :: t_Ro_readActs_29
abbrev t_Ro_readActs_25 : List UInt8 := 153 :: 0 :: 4 :: t_Ro_readActs_28
abbrev t_Ro_readActs_22 : List UInt8 := 182 :: 0 :: 110 :: t_Ro_readActs_25
abbrev t_Ro_readActs_20 : List UInt8 := 18 :: 128 :: t_Ro_readActs_22
abbrev t_Ro_readActs_19 : List UInt8 := 42 :: t_Ro_readActs_20
abbrev t_Ro_readActs_16 : List UInt8 := 158 :: 0 :: 13 :: t_Ro_readActs_19
abbrev t_Ro_readActs_15 : List UInt8 := 27 :: t_Ro_readActs_16
abbrev t_Ro_readActs_12 : List UInt8 := 156 :: 0 :: 101 :: t_Ro_readActs_15
abbrev t_Ro_readActs_9 : List UInt8 := 180 :: 0 :: 64 :: t_Ro_readActs_12
abbrev t_Ro_readActs_8 : List UInt8 := 42 :: t_Ro_readActs_9
abbrev t_Ro_readActs_5 : List UInt8 := 163 :: 0 :: 108 :: t_Ro_readActs_8
abbrev t_Ro_readActs_3 : List UInt8 := 16 :: 8 :: t_Ro_readActs_5
abbrev t_Ro_readActs_2 : List UInt8 := 27 :: t_Ro_readActs_3
abbrev t_Ro_readActs_1 : List UInt8 := 60 :: t_Ro_readActs_2
abbrev t_Ro_readActs_0 : List UInt8 := 3 :: t_Ro_readActs_1
theorem a_Ro_readActs_0 : dk_at b_Ro_readActs 0 t_Ro_readActs_0 := dk_start (by decide +kernel)
theorem a_Ro_readActs_1 : dk_at b_Ro_readActs 1 t_Ro_readActs_1 := dk_go 1 a_Ro_readActs_0 rfl
theorem a_Ro_readActs_2 : dk_at b_Ro_readActs 2 t_Ro_readActs_2 := dk_go 1 a_Ro_readActs_1 rfl
theorem a_Ro_readActs_3 : dk_at b_Ro_readActs 3 t_Ro_readActs_3 := dk_go 1 a_Ro_readActs_2 rfl
theorem a_Ro_readActs_5 : dk_at b_Ro_readActs 5 t_Ro_readActs_5 := dk_go 2 a_Ro_readActs_3 rfl
theorem a_Ro_readActs_8 : dk_at b_Ro_readActs 8 t_Ro_readActs_8 := dk_go 3 a_Ro_readActs_5 rfl
theorem a_Ro_readActs_9 : dk_at b_Ro_readActs 9 t_Ro_readActs_9 := dk_go 1 a_Ro_readActs_8 rfl
theorem a_Ro_readActs_12 : dk_at b_Ro_readActs 12 t_Ro_readActs_12 := dk_go 3 a_Ro_readActs_9 rfl
theorem a_Ro_readActs_15 : dk_at b_Ro_readActs 15 t_Ro_readActs_15 := dk_go 3 a_Ro_readActs_12 rfl
theorem a_Ro_readActs_16 : dk_at b_Ro_readActs 16 t_Ro_readActs_16 := dk_go 1 a_Ro_readActs_15 rfl
theorem a_Ro_readActs_19 : dk_at b_Ro_readActs 19 t_Ro_readActs_19 := dk_go 3 a_Ro_readActs_16 rfl
theorem a_Ro_readActs_20 : dk_at b_Ro_readActs 20 t_Ro_readActs_20 := dk_go 1 a_Ro_readActs_19 rfl
theorem a_Ro_readActs_22 : dk_at b_Ro_readActs 22 t_Ro_readActs_22 := dk_go 2 a_Ro_readActs_20 rfl
theorem a_Ro_readActs_25 : dk_at b_Ro_readActs 25 t_Ro_readActs_25 := dk_go 3 a_Ro_readActs_22 rfl
theorem a_Ro_readActs_28 : dk_at b_Ro_readActs 28 t_Ro_readActs_28 := dk_go 3 a_Ro_readActs_25 rfl
theorem a_Ro_readActs_29 : dk_at b_Ro_readActs 29 t_Ro_readActs_29 := dk_go 1 a_Ro_readActs_28 rfl
theorem a_Ro_readActs_30 : dk_at b_Ro_readActs 30 t_Ro_readActs_30 := dk_go 1 a_Ro_readActs_29 rfl
theorem a_Ro_readActs_33 : dk_at b_Ro_readActs 33 t_Ro_readActs_33 := dk_go 3 a_Ro_readActs_30 rfl
theorem a_Ro_readActs_34 : dk_at b_Ro_readActs 34 t_Ro_readActs_34 := dk_go 1 a_Ro_readActs_33 rfl
theorem a_Ro_readActs_37 : dk_at b_Ro_readActs 37 t_Ro_readActs_37 := dk_go 3 a_Ro_readActs_34 rfl
theorem a_Ro_readActs_40 : dk_at b_Ro_readActs 40 t_Ro_readActs_40 := dk_go 3 a_Ro_readActs_37 rfl
theorem a_Ro_readActs_42 : dk_at b_Ro_readActs 42 t_Ro_readActs_42 := dk_go 2 a_Ro_readActs_40 rfl
theorem a_Ro_readActs_45 : dk_at b_Ro_readActs 45 t_Ro_readActs_45 := dk_go 3 a_Ro_readActs_42 rfl
theorem a_Ro_readActs_46 : dk_at b_Ro_readActs 46 t_Ro_readActs_46 := dk_go 1 a_Ro_readActs_45 rfl
theorem a_Ro_readActs_47 : dk_at b_Ro_readActs 47 t_Ro_readActs_47 := dk_go 1 a_Ro_readActs_46 rfl
theorem a_Ro_readActs_49 : dk_at b_Ro_readActs 49 t_Ro_readActs_49 := dk_go 2 a_Ro_readActs_47 rfl
theorem a_Ro_readActs_52 : dk_at b_Ro_readActs 52 t_Ro_readActs_52 := dk_go 3 a_Ro_readActs_49 rfl
theorem a_Ro_readActs_55 : dk_at b_Ro_readActs 55 t_Ro_readActs_55 := dk_go 3 a_Ro_readActs_52 rfl
theorem a_Ro_readActs_56 : dk_at b_Ro_readActs 56 t_Ro_readActs_56 := dk_go 1 a_Ro_readActs_55 rfl
theorem a_Ro_readActs_57 : dk_at b_Ro_readActs 57 t_Ro_readActs_57 := dk_go 1 a_Ro_readActs_56 rfl
theorem a_Ro_readActs_58 : dk_at b_Ro_readActs 58 t_Ro_readActs_58 := dk_go 1 a_Ro_readActs_57 rfl
theorem a_Ro_readActs_61 : dk_at b_Ro_readActs 61 t_Ro_readActs_61 := dk_go 3 a_Ro_readActs_58 rfl
theorem a_Ro_readActs_62 : dk_at b_Ro_readActs 62 t_Ro_readActs_62 := dk_go 1 a_Ro_readActs_61 rfl
theorem a_Ro_readActs_64 : dk_at b_Ro_readActs 64 t_Ro_readActs_64 := dk_go 2 a_Ro_readActs_62 rfl
theorem a_Ro_readActs_67 : dk_at b_Ro_readActs 67 t_Ro_readActs_67 := dk_go 3 a_Ro_readActs_64 rfl
theorem a_Ro_readActs_68 : dk_at b_Ro_readActs 68 t_Ro_readActs_68 := dk_go 1 a_Ro_readActs_67 rfl
theorem a_Ro_readActs_71 : dk_at b_Ro_readActs 71 t_Ro_readActs_71 := dk_go 3 a_Ro_readActs_68 rfl
theorem a_Ro_readActs_72 : dk_at b_Ro_readActs 72 t_Ro_readActs_72 := dk_go 1 a_Ro_readActs_71 rfl
theorem a_Ro_readActs_75 : dk_at b_Ro_readActs 75 t_Ro_readActs_75 := dk_go 3 a_Ro_readActs_72 rfl
theorem a_Ro_readActs_76 : dk_at b_Ro_readActs 76 t_Ro_readActs_76 := dk_go 1 a_Ro_readActs_75 rfl
theorem a_Ro_readActs_77 : dk_at b_Ro_readActs 77 t_Ro_readActs_77 := dk_go 1 a_Ro_readActs_76 rfl
theorem a_Ro_readActs_78 : dk_at b_Ro_readActs 78 t_Ro_readActs_78 := dk_go 1 a_Ro_readActs_77 rfl
theorem a_Ro_readActs_79 : dk_at b_Ro_readActs 79 t_Ro_readActs_79 := dk_go 1 a_Ro_readActs_78 rfl
theorem a_Ro_readActs_80 : dk_at b_Ro_readActs 80 t_Ro_readActs_80 := dk_go 1 a_Ro_readActs_79 rfl
theorem a_Ro_readActs_83 : dk_at b_Ro_readActs 83 t_Ro_readActs_83 := dk_go 3 a_Ro_readActs_80 rfl
theorem a_Ro_readActs_84 : dk_at b_Ro_readActs 84 t_Ro_readActs_84 := dk_go 1 a_Ro_readActs_83 rfl
theorem a_Ro_readActs_87 : dk_at b_Ro_readActs 87 t_Ro_readActs_87 := dk_go 3 a_Ro_readActs_84 rfl
theorem a_Ro_readActs_88 : dk_at b_Ro_readActs 88 t_Ro_readActs_88 := dk_go 1 a_Ro_readActs_87 rfl
theorem a_Ro_readActs_89 : dk_at b_Ro_readActs 89 t_Ro_readActs_89 := dk_go 1 a_Ro_readActs_88 rfl
theorem a_Ro_readActs_92 : dk_at b_Ro_readActs 92 t_Ro_readActs_92 := dk_go 3 a_Ro_readActs_89 rfl
theorem a_Ro_readActs_93 : dk_at b_Ro_readActs 93 t_Ro_readActs_93 := dk_go 1 a_Ro_readActs_92 rfl
theorem a_Ro_readActs_96 : dk_at b_Ro_readActs 96 t_Ro_readActs_96 := dk_go 3 a_Ro_readActs_93 rfl
theorem a_Ro_readActs_97 : dk_at b_Ro_readActs 97 t_Ro_readActs_97 := dk_go 1 a_Ro_readActs_96 rfl
theorem a_Ro_readActs_98 : dk_at b_Ro_readActs 98 t_Ro_readActs_98 := dk_go 1 a_Ro_readActs_97 rfl
theorem a_Ro_readActs_99 : dk_at b_Ro_readActs 99 t_Ro_readActs_99 := dk_go 1 a_Ro_readActs_98 rfl
theorem a_Ro_readActs_100 : dk_at b_Ro_readActs 100 t_Ro_readActs_100 := dk_go 1 a_Ro_readActs_99 rfl
theorem a_Ro_readActs_101 : dk_at b_Ro_readActs 101 t_Ro_readActs_101 := dk_go 1 a_Ro_readActs_100 rfl
theorem a_Ro_readActs_102 : dk_at b_Ro_readActs 102 t_Ro_readActs_102 := dk_go 1 a_Ro_readActs_101 rfl
theorem a_Ro_readActs_103 : dk_at b_Ro_readActs 103 t_Ro_readActs_103 := dk_go 1 a_Ro_readActs_102 rfl
theorem a_Ro_readActs_104 : dk_at b_Ro_readActs 104 t_Ro_readActs_104 := dk_go 1 a_Ro_readActs_103 rfl
theorem a_Ro_readActs_107 : dk_at b_Ro_readActs 107 t_Ro_readActs_107 := dk_go 3 a_Ro_readActs_104 rfl
theorem a_Ro_readActs_110 : dk_at b_Ro_readActs 110 t_Ro_readActs_110 := dk_go 3 a_Ro_readActs_107 rfl
theorem a_Ro_readActs_113 : dk_at b_Ro_readActs 113 t_Ro_readActs_113 := dk_go 3 a_Ro_readActs_110 rfl
theorem d_Ro_readActs_0 : decode b_Ro_readActs 0 = .ok (.iconst 0, 1) := dk_0 a_Ro_readActs_0 (dko_3 _)
theorem d_Ro_readActs_1 : decode b_Ro_readActs 1 = .ok (.istore_n 1, 1) := dk_0 a_Ro_readActs_1 (dko_60 _)
theorem d_Ro_readActs_2 : decode b_Ro_readActs 2 = .ok (.iload_n 1, 1) := dk_0 a_Ro_readActs_2 (dko_27 _)
theorem d_Ro_readActs_3 : decode b_Ro_readActs 3 = .ok (.bipush 8, 2) := dk_S1 a_Ro_readActs_3 (dko_16 _) (by decide +kernel)
theorem d_Ro_readActs_5 : decode b_Ro_readActs 5 = .ok (.if_icmp .gt 108, 3) := dk_S2 a_Ro_readActs_5 (dko_163 _) (by decide +kernel)
theorem d_Ro_readActs_8 : decode b_Ro_readActs 8 = .ok (.aload_n 0, 1) := dk_0 a_Ro_readActs_8 (dko_42 _)
theorem d_Ro_readActs_9 : decode b_Ro_readActs 9 = .ok (.getfield 64, 3) := dk_U2 a_Ro_readActs_9 (dko_180 _) rfl
theorem d_Ro_readActs_12 : decode b_Ro_readActs 12 = .ok (.ifCond .ge 101, 3) := dk_S2 a_Ro_readActs_12 (dko_156 _) (by decide +kernel)
theorem d_Ro_readActs_15 : decode b_Ro_readActs 15 = .ok (.iload_n 1, 1) := dk_0 a_Ro_readActs_15 (dko_27 _)
theorem d_Ro_readActs_16 : decode b_Ro_readActs 16 = .ok (.ifCond .le 13, 3) := dk_S2 a_Ro_readActs_16 (dko_158 _) (by decide +kernel)
theorem d_Ro_readActs_19 : decode b_Ro_readActs 19 = .ok (.aload_n 0, 1) := dk_0 a_Ro_readActs_19 (dko_42 _)
theorem d_Ro_readActs_20 : decode b_Ro_readActs 20 = .ok (.ldc 128, 2) := dk_U1 a_Ro_readActs_20 (dko_18 _) rfl
theorem d_Ro_readActs_22 : decode b_Ro_readActs 22 = .ok (.invokevirtual 110, 3) := dk_U2 a_Ro_readActs_22 (dko_182 _) rfl
theorem d_Ro_readActs_25 : decode b_Ro_readActs 25 = .ok (.ifCond .eq 4, 3) := dk_S2 a_Ro_readActs_25 (dko_153 _) (by decide +kernel)
theorem d_Ro_readActs_28 : decode b_Ro_readActs 28 = .ok (.return_, 1) := dk_0 a_Ro_readActs_28 (dko_177 _)
theorem d_Ro_readActs_29 : decode b_Ro_readActs 29 = .ok (.aload_n 0, 1) := dk_0 a_Ro_readActs_29 (dko_42 _)
theorem d_Ro_readActs_30 : decode b_Ro_readActs 30 = .ok (.getfield 57, 3) := dk_U2 a_Ro_readActs_30 (dko_180 _) rfl
theorem d_Ro_readActs_33 : decode b_Ro_readActs 33 = .ok (.aload_n 0, 1) := dk_0 a_Ro_readActs_33 (dko_42 _)
theorem d_Ro_readActs_34 : decode b_Ro_readActs 34 = .ok (.getfield 79, 3) := dk_U2 a_Ro_readActs_34 (dko_180 _) rfl
theorem d_Ro_readActs_37 : decode b_Ro_readActs 37 = .ok (.invokevirtual 90, 3) := dk_U2 a_Ro_readActs_37 (dko_182 _) rfl
theorem d_Ro_readActs_40 : decode b_Ro_readActs 40 = .ok (.bipush 97, 2) := dk_S1 a_Ro_readActs_40 (dko_16 _) (by decide +kernel)
theorem d_Ro_readActs_42 : decode b_Ro_readActs 42 = .ok (.if_icmp .ne 13, 3) := dk_S2 a_Ro_readActs_42 (dko_160 _) (by decide +kernel)
theorem d_Ro_readActs_45 : decode b_Ro_readActs 45 = .ok (.aload_n 0, 1) := dk_0 a_Ro_readActs_45 (dko_42 _)
theorem d_Ro_readActs_46 : decode b_Ro_readActs 46 = .ok (.iconst 1, 1) := dk_0 a_Ro_readActs_46 (dko_4 _)
theorem d_Ro_readActs_47 : decode b_Ro_readActs 47 = .ok (.bipush 31, 2) := dk_S1 a_Ro_readActs_47 (dko_16 _) (by decide +kernel)
theorem d_Ro_readActs_49 : decode b_Ro_readActs 49 = .ok (.invokevirtual 138, 3) := dk_U2 a_Ro_readActs_49 (dko_182 _) rfl
theorem d_Ro_readActs_52 : decode b_Ro_readActs 52 = .ok (.goto 4, 3) := dk_S2 a_Ro_readActs_52 (dko_167 _) (by decide +kernel)
theorem d_Ro_readActs_55 : decode b_Ro_readActs 55 = .ok (.iconst (-1), 1) := dk_0 a_Ro_readActs_55 (dko_2 _)
theorem d_Ro_readActs_56 : decode b_Ro_readActs 56 = .ok (.istore_n 2, 1) := dk_0 a_Ro_readActs_56 (dko_61 _)
theorem d_Ro_readActs_57 : decode b_Ro_readActs 57 = .ok (.iload_n 2, 1) := dk_0 a_Ro_readActs_57 (dko_28 _)
theorem d_Ro_readActs_58 : decode b_Ro_readActs 58 = .ok (.ifCond .lt 25, 3) := dk_S2 a_Ro_readActs_58 (dko_155 _) (by decide +kernel)
theorem d_Ro_readActs_61 : decode b_Ro_readActs 61 = .ok (.iload_n 1, 1) := dk_0 a_Ro_readActs_61 (dko_27 _)
theorem d_Ro_readActs_62 : decode b_Ro_readActs 62 = .ok (.bipush 8, 2) := dk_S1 a_Ro_readActs_62 (dko_16 _) (by decide +kernel)
theorem d_Ro_readActs_64 : decode b_Ro_readActs 64 = .ok (.if_icmp .eq 19, 3) := dk_S2 a_Ro_readActs_64 (dko_159 _) (by decide +kernel)
theorem d_Ro_readActs_67 : decode b_Ro_readActs 67 = .ok (.aload_n 0, 1) := dk_0 a_Ro_readActs_67 (dko_42 _)
theorem d_Ro_readActs_68 : decode b_Ro_readActs 68 = .ok (.getfield 22, 3) := dk_U2 a_Ro_readActs_68 (dko_180 _) rfl
theorem d_Ro_readActs_71 : decode b_Ro_readActs 71 = .ok (.aload_n 0, 1) := dk_0 a_Ro_readActs_71 (dko_42 _)
theorem d_Ro_readActs_72 : decode b_Ro_readActs 72 = .ok (.getfield 37, 3) := dk_U2 a_Ro_readActs_72 (dko_180 _) rfl
theorem d_Ro_readActs_75 : decode b_Ro_readActs 75 = .ok (.iaload, 1) := dk_0 a_Ro_readActs_75 (dko_46 _)
theorem d_Ro_readActs_76 : decode b_Ro_readActs 76 = .ok (.iload_n 2, 1) := dk_0 a_Ro_readActs_76 (dko_28 _)
theorem d_Ro_readActs_77 : decode b_Ro_readActs 77 = .ok (.iushr, 1) := dk_0 a_Ro_readActs_77 (dko_124 _)
theorem d_Ro_readActs_78 : decode b_Ro_readActs 78 = .ok (.iconst 1, 1) := dk_0 a_Ro_readActs_78 (dko_4 _)
theorem d_Ro_readActs_79 : decode b_Ro_readActs 79 = .ok (.iand, 1) := dk_0 a_Ro_readActs_79 (dko_126 _)
theorem d_Ro_readActs_80 : decode b_Ro_readActs 80 = .ok (.ifCond .eq 8, 3) := dk_S2 a_Ro_readActs_80 (dko_153 _) (by decide +kernel)
theorem d_Ro_readActs_83 : decode b_Ro_readActs 83 = .ok (.aload_n 0, 1) := dk_0 a_Ro_readActs_83 (dko_42 _)
theorem d_Ro_readActs_84 : decode b_Ro_readActs 84 = .ok (.invokevirtual 114, 3) := dk_U2 a_Ro_readActs_84 (dko_182 _) rfl
theorem d_Ro_readActs_87 : decode b_Ro_readActs 87 = .ok (.return_, 1) := dk_0 a_Ro_readActs_87 (dko_177 _)
theorem d_Ro_readActs_88 : decode b_Ro_readActs 88 = .ok (.aload_n 0, 1) := dk_0 a_Ro_readActs_88 (dko_42 _)
theorem d_Ro_readActs_89 : decode b_Ro_readActs 89 = .ok (.getfield 22, 3) := dk_U2 a_Ro_readActs_89 (dko_180 _) rfl
theorem d_Ro_readActs_92 : decode b_Ro_readActs 92 = .ok (.aload_n 0, 1) := dk_0 a_Ro_readActs_92 (dko_42 _)
theorem d_Ro_readActs_93 : decode b_Ro_readActs 93 = .ok (.getfield 37, 3) := dk_U2 a_Ro_readActs_93 (dko_180 _) rfl
theorem d_Ro_readActs_96 : decode b_Ro_readActs 96 = .ok (.dup2, 1) := dk_0 a_Ro_readActs_96 (dko_92 _)
theorem d_Ro_readActs_97 : decode b_Ro_readActs 97 = .ok (.iaload, 1) := dk_0 a_Ro_readActs_97 (dko_46 _)
theorem d_Ro_readActs_98 : decode b_Ro_readActs 98 = .ok (.iconst 1, 1) := dk_0 a_Ro_readActs_98 (dko_4 _)
theorem d_Ro_readActs_99 : decode b_Ro_readActs 99 = .ok (.iload_n 2, 1) := dk_0 a_Ro_readActs_99 (dko_28 _)
theorem d_Ro_readActs_100 : decode b_Ro_readActs 100 = .ok (.ishl, 1) := dk_0 a_Ro_readActs_100 (dko_120 _)
theorem d_Ro_readActs_101 : decode b_Ro_readActs 101 = .ok (.ior, 1) := dk_0 a_Ro_readActs_101 (dko_128 _)
theorem d_Ro_readActs_102 : decode b_Ro_readActs 102 = .ok (.iastore, 1) := dk_0 a_Ro_readActs_102 (dko_79 _)
theorem d_Ro_readActs_103 : decode b_Ro_readActs 103 = .ok (.aload_n 0, 1) := dk_0 a_Ro_readActs_103 (dko_42 _)
theorem d_Ro_readActs_104 : decode b_Ro_readActs 104 = .ok (.invokevirtual 76, 3) := dk_U2 a_Ro_readActs_104 (dko_182 _) rfl
theorem d_Ro_readActs_107 : decode b_Ro_readActs 107 = .ok (.iinc 1 1, 3) := dk_US a_Ro_readActs_107 (dko_132 _) (by decide +kernel)
theorem d_Ro_readActs_110 : decode b_Ro_readActs 110 = .ok (.goto (-108), 3) := dk_S2 a_Ro_readActs_110 (dko_167 _) (by decide +kernel)
theorem d_Ro_readActs_113 : decode b_Ro_readActs 113 = .ok (.return_, 1) := dk_0 a_Ro_readActs_113 (dko_177 _)
set_option maxHeartbeats 4000000 in
set_option maxRecDepth 100000 in
theorem ok_Ro_readActs (pc : Nat) : OpS mt mi_Ro_readActs pc (cs_Ro_readActs pc) := (os_n (os_n (os_n (os_n (os_n (os_l (so_iconst d_Ro_readActs_0 (by decide))) (os_n (os_l (so_istore_n d_Ro_readActs_1 rfl (by decide))) (os_l (so_iload_n d_Ro_readActs_2 rfl)))) (os_n (os_n (os_l (so_bipush d_Ro_readActs_3 (by decide))) (os_l (so_icgt d_Ro_readActs_5 (by decide)))) (os_n (os_l (so_aload_n d_Ro_readActs_8 rfl)) (os_l (so_get (C := R_Ro) (T := F_Ro) (N := 18) (j := 17) in_Ro rfl (by decide) mw_351 d_Ro_readActs_9))))) (os_n (os_n (os_n (os_l (so_ifge d_Ro_readActs_12 (by decide))) (os_l (so_iload_n d_Ro_readActs_15 rfl))) (os_n (os_l (so_ifle d_Ro_readActs_16 (by decide))) (os_l (so_aload_n d_Ro_readActs_19 rfl)))) (os_n (os_n (os_l (so_ldcS (k := 7) (idx := 0) (q := ("BreweryHouse$Rows", 128, "when")) (by decide +kernel) rfl d_Ro_readActs_20)) (os_l (so_callV (iv := mi_Ro_is) rfl rfl rfl mw_839 mw_841 sl_13 mw_10 mw_842 ⟨by decide +kernel, by decide +kernel, by decide +kernel⟩ (by decide) d_Ro_readActs_22))) (os_n (os_l (so_ifeq d_Ro_readActs_25 (by decide))) (os_l (so_return rfl d_Ro_readActs_28)))))) (os_n (os_n (os_n (os_n (os_l (so_aload_n d_Ro_readActs_29 rfl)) (os_l (so_get (C := R_Ro) (T := F_Ro) (N := 18) (j := 11) in_Ro rfl (by decide) mw_345 d_Ro_readActs_30))) (os_n (os_l (so_aload_n d_Ro_readActs_33 rfl)) (os_l (so_get (C := R_Ro) (T := F_Ro) (N := 18) (j := 12) in_Ro rfl (by decide) mw_346 d_Ro_readActs_34)))) (os_n (os_n (os_l (so_callV (iv := mi_Tp_at) rfl rfl rfl mw_819 mw_754 mw_755 mw_2 mw_756 ⟨by decide +kernel, by decide +kernel, by decide +kernel⟩ (by decide) d_Ro_readActs_37)) (os_l (so_bipush d_Ro_readActs_40 (by decide)))) (os_n (os_l (so_icne d_Ro_readActs_42 (by decide))) (os_l (so_aload_n d_Ro_readActs_45 rfl))))) (os_n (os_n (os_n (os_l (so_iconst d_Ro_readActs_46 (by decide))) (os_l (so_bipush d_Ro_readActs_47 (by decide)))) (os_n (os_l (so_callV (iv := mi_Ro_numberBehind) rfl rfl rfl mw_850 mw_852 sl_15 mw_10 mw_853 ⟨by decide +kernel, by decide +kernel, by decide +kernel⟩ (by decide) d_Ro_readActs_49)) (os_l (so_goto d_Ro_readActs_52 (by decide))))) (os_n (os_n (os_l (so_iconst d_Ro_readActs_55 (by decide))) (os_l (so_istore_n d_Ro_readActs_56 rfl (by decide)))) (os_n (os_l (so_iload_n d_Ro_readActs_57 rfl)) (os_l (so_iflt d_Ro_readActs_58 (by decide)))))))) (os_n (os_n (os_n (os_n (os_n (os_l (so_iload_n d_Ro_readActs_61 rfl)) (os_l (so_bipush d_Ro_readActs_62 (by decide)))) (os_n (os_l (so_iceq d_Ro_readActs_64 (by decide))) (os_l (so_aload_n d_Ro_readActs_67 rfl)))) (os_n (os_n (os_l (so_get (C := R_Ro) (T := F_Ro) (N := 18) (j := 5) in_Ro rfl (by decide) mw_339 d_Ro_readActs_68)) (os_l (so_aload_n d_Ro_readActs_71 rfl))) (os_n (os_l (so_get (C := R_Ro) (T := F_Ro) (N := 18) (j := 0) in_Ro rfl (by decide) mw_329 d_Ro_readActs_72)) (os_l (so_iaload d_Ro_readActs_75))))) (os_n (os_n (os_n (os_l (so_iload_n d_Ro_readActs_76 rfl)) (os_l (so_iushr d_Ro_readActs_77))) (os_n (os_l (so_iconst d_Ro_readActs_78 (by decide))) (os_l (so_iand d_Ro_readActs_79)))) (os_n (os_n (os_l (so_ifeq d_Ro_readActs_80 (by decide))) (os_l (so_aload_n d_Ro_readActs_83 rfl))) (os_n (os_l (so_callV (iv := mi_Ro_fail) rfl rfl rfl mw_830 mw_832 sl_11 mw_10 mw_833 ⟨by decide +kernel, by decide +kernel, by decide +kernel⟩ (by decide) d_Ro_readActs_84)) (os_l (so_return rfl d_Ro_readActs_87)))))) (os_n (os_n (os_n (os_n (os_l (so_aload_n d_Ro_readActs_88 rfl)) (os_l (so_get (C := R_Ro) (T := F_Ro) (N := 18) (j := 5) in_Ro rfl (by decide) mw_339 d_Ro_readActs_89))) (os_n (os_l (so_aload_n d_Ro_readActs_92 rfl)) (os_l (so_get (C := R_Ro) (T := F_Ro) (N := 18) (j := 0) in_Ro rfl (by decide) mw_329 d_Ro_readActs_93)))) (os_n (os_n (os_l (so_dup2 d_Ro_readActs_96)) (os_l (so_iaload d_Ro_readActs_97))) (os_n (os_l (so_iconst d_Ro_readActs_98 (by decide))) (os_l (so_iload_n d_Ro_readActs_99 rfl))))) (os_n (os_n (os_n (os_l (so_ishl d_Ro_readActs_100)) (os_l (so_ior d_Ro_readActs_101))) (os_n (os_l (so_iastore d_Ro_readActs_102)) (os_l (so_aload_n d_Ro_readActs_103 rfl)))) (os_n (os_n (os_l (so_callV (iv := mi_Ro_nextWord) rfl rfl rfl mw_815 mw_817 sl_9 mw_10 mw_818 ⟨by decide +kernel, by decide +kernel, by decide +kernel⟩ (by decide) d_Ro_readActs_104)) (os_l (so_iinc d_Ro_readActs_107 (by decide) (by decide)))) (os_n (os_l (so_goto d_Ro_readActs_110 (by decide))) (os_l (so_return rfl d_Ro_readActs_113))))))))
abbrev t_Ro_readOr_42 : List UInt8 := 177 :: []
abbrev t_Ro_readOr_39 : List UInt8 := 167 :: 255 :: 223 :: t_Ro_readOr_42
abbrev t_Ro_readOr_36 : List UInt8 := 132 :: 1 :: 1 :: t_Ro_readOr_39
abbrev t_Ro_readOr_33 : List UInt8 := 182 :: 0 :: 149 :: t_Ro_readOr_36
abbrev t_Ro_readOr_31 : List UInt8 := 16 :: 18 :: t_Ro_readOr_33
abbrev t_Ro_readOr_30 : List UInt8 := 42 :: t_Ro_readOr_31
abbrev t_Ro_readOr_27 : List UInt8 := 182 :: 0 :: 144 :: t_Ro_readOr_30
abbrev t_Ro_readOr_26 : List UInt8 := 42 :: t_Ro_readOr_27
abbrev t_Ro_readOr_23 : List UInt8 := 182 :: 0 :: 76 :: t_Ro_readOr_26
abbrev t_Ro_readOr_22 : List UInt8 := 42 :: t_Ro_readOr_23
abbrev t_Ro_readOr_19 : List UInt8 := 153 :: 0 :: 23 :: t_Ro_readOr_22
abbrev t_Ro_readOr_16 : List UInt8 := 182 :: 0 :: 110 :: t_Ro_readOr_19
abbrev t_Ro_readOr_14 : List UInt8 := 18 :: 147 :: t_Ro_readOr_16
abbrev t_Ro_readOr_13 : List UInt8 := 42 :: t_Ro_readOr_14
abbrev t_Ro_readOr_10 : List UInt8 := 162 :: 0 :: 32 :: t_Ro_readOr_13
abbrev t_Ro_readOr_7 : List UInt8 := 17 :: 15 :: 160 :: t_Ro_readOr_10
abbrev t_Ro_readOr_6 : List UInt8 := 27 :: t_Ro_readOr_7
abbrev t_Ro_readOr_5 : List UInt8 := 60 :: t_Ro_readOr_6
abbrev t_Ro_readOr_4 : List UInt8 := 3 :: t_Ro_readOr_5
abbrev t_Ro_readOr_1 : List UInt8 := 182 :: 0 :: 144 :: t_Ro_readOr_4
abbrev t_Ro_readOr_0 : List UInt8 := 42 :: t_Ro_readOr_1
theorem a_Ro_readOr_0 : dk_at b_Ro_readOr 0 t_Ro_readOr_0 := dk_start (by decide +kernel)
theorem a_Ro_readOr_1 : dk_at b_Ro_readOr 1 t_Ro_readOr_1 := dk_go 1 a_Ro_readOr_0 rfl
theorem a_Ro_readOr_4 : dk_at b_Ro_readOr 4 t_Ro_readOr_4 := dk_go 3 a_Ro_readOr_1 rfl
theorem a_Ro_readOr_5 : dk_at b_Ro_readOr 5 t_Ro_readOr_5 := dk_go 1 a_Ro_readOr_4 rfl
theorem a_Ro_readOr_6 : dk_at b_Ro_readOr 6 t_Ro_readOr_6 := dk_go 1 a_Ro_readOr_5 rfl
theorem a_Ro_readOr_7 : dk_at b_Ro_readOr 7 t_Ro_readOr_7 := dk_go 1 a_Ro_readOr_6 rfl
theorem a_Ro_readOr_10 : dk_at b_Ro_readOr 10 t_Ro_readOr_10 := dk_go 3 a_Ro_readOr_7 rfl
theorem a_Ro_readOr_13 : dk_at b_Ro_readOr 13 t_Ro_readOr_13 := dk_go 3 a_Ro_readOr_10 rfl
theorem a_Ro_readOr_14 : dk_at b_Ro_readOr 14 t_Ro_readOr_14 := dk_go 1 a_Ro_readOr_13 rfl
theorem a_Ro_readOr_16 : dk_at b_Ro_readOr 16 t_Ro_readOr_16 := dk_go 2 a_Ro_readOr_14 rfl
theorem a_Ro_readOr_19 : dk_at b_Ro_readOr 19 t_Ro_readOr_19 := dk_go 3 a_Ro_readOr_16 rfl
theorem a_Ro_readOr_22 : dk_at b_Ro_readOr 22 t_Ro_readOr_22 := dk_go 3 a_Ro_readOr_19 rfl
theorem a_Ro_readOr_23 : dk_at b_Ro_readOr 23 t_Ro_readOr_23 := dk_go 1 a_Ro_readOr_22 rfl
theorem a_Ro_readOr_26 : dk_at b_Ro_readOr 26 t_Ro_readOr_26 := dk_go 3 a_Ro_readOr_23 rfl
theorem a_Ro_readOr_27 : dk_at b_Ro_readOr 27 t_Ro_readOr_27 := dk_go 1 a_Ro_readOr_26 rfl
theorem a_Ro_readOr_30 : dk_at b_Ro_readOr 30 t_Ro_readOr_30 := dk_go 3 a_Ro_readOr_27 rfl
theorem a_Ro_readOr_31 : dk_at b_Ro_readOr 31 t_Ro_readOr_31 := dk_go 1 a_Ro_readOr_30 rfl
theorem a_Ro_readOr_33 : dk_at b_Ro_readOr 33 t_Ro_readOr_33 := dk_go 2 a_Ro_readOr_31 rfl
theorem a_Ro_readOr_36 : dk_at b_Ro_readOr 36 t_Ro_readOr_36 := dk_go 3 a_Ro_readOr_33 rfl
theorem a_Ro_readOr_39 : dk_at b_Ro_readOr 39 t_Ro_readOr_39 := dk_go 3 a_Ro_readOr_36 rfl
theorem a_Ro_readOr_42 : dk_at b_Ro_readOr 42 t_Ro_readOr_42 := dk_go 3 a_Ro_readOr_39 rfl
theorem d_Ro_readOr_0 : decode b_Ro_readOr 0 = .ok (.aload_n 0, 1) := dk_0 a_Ro_readOr_0 (dko_42 _)
theorem d_Ro_readOr_1 : decode b_Ro_readOr 1 = .ok (.invokevirtual 144, 3) := dk_U2 a_Ro_readOr_1 (dko_182 _) rfl
theorem d_Ro_readOr_4 : decode b_Ro_readOr 4 = .ok (.iconst 0, 1) := dk_0 a_Ro_readOr_4 (dko_3 _)
theorem d_Ro_readOr_5 : decode b_Ro_readOr 5 = .ok (.istore_n 1, 1) := dk_0 a_Ro_readOr_5 (dko_60 _)
theorem d_Ro_readOr_6 : decode b_Ro_readOr 6 = .ok (.iload_n 1, 1) := dk_0 a_Ro_readOr_6 (dko_27 _)
theorem d_Ro_readOr_7 : decode b_Ro_readOr 7 = .ok (.sipush 4000, 3) := dk_S2 a_Ro_readOr_7 (dko_17 _) (by decide +kernel)
theorem d_Ro_readOr_10 : decode b_Ro_readOr 10 = .ok (.if_icmp .ge 32, 3) := dk_S2 a_Ro_readOr_10 (dko_162 _) (by decide +kernel)
theorem d_Ro_readOr_13 : decode b_Ro_readOr 13 = .ok (.aload_n 0, 1) := dk_0 a_Ro_readOr_13 (dko_42 _)
theorem d_Ro_readOr_14 : decode b_Ro_readOr 14 = .ok (.ldc 147, 2) := dk_U1 a_Ro_readOr_14 (dko_18 _) rfl
theorem d_Ro_readOr_16 : decode b_Ro_readOr 16 = .ok (.invokevirtual 110, 3) := dk_U2 a_Ro_readOr_16 (dko_182 _) rfl
theorem d_Ro_readOr_19 : decode b_Ro_readOr 19 = .ok (.ifCond .eq 23, 3) := dk_S2 a_Ro_readOr_19 (dko_153 _) (by decide +kernel)
theorem d_Ro_readOr_22 : decode b_Ro_readOr 22 = .ok (.aload_n 0, 1) := dk_0 a_Ro_readOr_22 (dko_42 _)
theorem d_Ro_readOr_23 : decode b_Ro_readOr 23 = .ok (.invokevirtual 76, 3) := dk_U2 a_Ro_readOr_23 (dko_182 _) rfl
theorem d_Ro_readOr_26 : decode b_Ro_readOr 26 = .ok (.aload_n 0, 1) := dk_0 a_Ro_readOr_26 (dko_42 _)
theorem d_Ro_readOr_27 : decode b_Ro_readOr 27 = .ok (.invokevirtual 144, 3) := dk_U2 a_Ro_readOr_27 (dko_182 _) rfl
theorem d_Ro_readOr_30 : decode b_Ro_readOr 30 = .ok (.aload_n 0, 1) := dk_0 a_Ro_readOr_30 (dko_42 _)
theorem d_Ro_readOr_31 : decode b_Ro_readOr 31 = .ok (.bipush 18, 2) := dk_S1 a_Ro_readOr_31 (dko_16 _) (by decide +kernel)
theorem d_Ro_readOr_33 : decode b_Ro_readOr 33 = .ok (.invokevirtual 149, 3) := dk_U2 a_Ro_readOr_33 (dko_182 _) rfl
theorem d_Ro_readOr_36 : decode b_Ro_readOr 36 = .ok (.iinc 1 1, 3) := dk_US a_Ro_readOr_36 (dko_132 _) (by decide +kernel)
theorem d_Ro_readOr_39 : decode b_Ro_readOr 39 = .ok (.goto (-33), 3) := dk_S2 a_Ro_readOr_39 (dko_167 _) (by decide +kernel)
theorem d_Ro_readOr_42 : decode b_Ro_readOr 42 = .ok (.return_, 1) := dk_0 a_Ro_readOr_42 (dko_177 _)
set_option maxHeartbeats 4000000 in
set_option maxRecDepth 100000 in
theorem ok_Ro_readOr (pc : Nat) : OpS mt mi_Ro_readOr pc (cs_Ro_readOr pc) := (os_n (os_n (os_n (os_n (os_l (so_aload_n d_Ro_readOr_0 rfl)) (os_l (so_callV (iv := mi_Ro_readAnd) rfl rfl rfl mw_859 mw_861 sl_17 mw_10 mw_862 ⟨by decide +kernel, by decide +kernel, by decide +kernel⟩ (by decide) d_Ro_readOr_1))) (os_n (os_l (so_iconst d_Ro_readOr_4 (by decide))) (os_n (os_l (so_istore_n d_Ro_readOr_5 rfl (by decide))) (os_l (so_iload_n d_Ro_readOr_6 rfl))))) (os_n (os_n (os_l (so_sipush d_Ro_readOr_7 (by decide))) (os_l (so_icge d_Ro_readOr_10 (by decide)))) (os_n (os_l (so_aload_n d_Ro_readOr_13 rfl)) (os_n (os_l (so_ldcS (k := 12) (idx := 0) (q := ("BreweryHouse$Rows", 147, "or")) (by decide +kernel) rfl d_Ro_readOr_14)) (os_l (so_callV (iv := mi_Ro_is) rfl rfl rfl mw_839 mw_841 sl_13 mw_10 mw_842 ⟨by decide +kernel, by decide +kernel, by decide +kernel⟩ (by decide) d_Ro_readOr_16)))))) (os_n (os_n (os_n (os_l (so_ifeq d_Ro_readOr_19 (by decide))) (os_l (so_aload_n d_Ro_readOr_22 rfl))) (os_n (os_l (so_callV (iv := mi_Ro_nextWord) rfl rfl rfl mw_815 mw_817 sl_9 mw_10 mw_818 ⟨by decide +kernel, by decide +kernel, by decide +kernel⟩ (by decide) d_Ro_readOr_23)) (os_n (os_l (so_aload_n d_Ro_readOr_26 rfl)) (os_l (so_callV (iv := mi_Ro_readAnd) rfl rfl rfl mw_859 mw_861 sl_17 mw_10 mw_862 ⟨by decide +kernel, by decide +kernel, by decide +kernel⟩ (by decide) d_Ro_readOr_27))))) (os_n (os_n (os_l (so_aload_n d_Ro_readOr_30 rfl)) (os_n (os_l (so_bipush d_Ro_readOr_31 (by decide))) (os_l (so_callV (iv := mi_Ro_put) rfl rfl rfl mw_869 mw_871 sl_19 mw_10 mw_872 ⟨by decide +kernel, by decide +kernel, by decide +kernel⟩ (by decide) d_Ro_readOr_33)))) (os_n (os_l (so_iinc d_Ro_readOr_36 (by decide) (by decide))) (os_n (os_l (so_goto d_Ro_readOr_39 (by decide))) (os_l (so_return rfl d_Ro_readOr_42)))))))
abbrev t_Ro_readAnd_42 : List UInt8 := 177 :: []
abbrev t_Ro_readAnd_39 : List UInt8 := 167 :: 255 :: 223 :: t_Ro_readAnd_42
abbrev t_Ro_readAnd_36 : List UInt8 := 132 :: 1 :: 1 :: t_Ro_readAnd_39
abbrev t_Ro_readAnd_33 : List UInt8 := 182 :: 0 :: 149 :: t_Ro_readAnd_36
abbrev t_Ro_readAnd_31 : List UInt8 := 16 :: 17 :: t_Ro_readAnd_33
abbrev t_Ro_readAnd_30 : List UInt8 := 42 :: t_Ro_readAnd_31
abbrev t_Ro_readAnd_27 : List UInt8 := 182 :: 0 :: 153 :: t_Ro_readAnd_30
abbrev t_Ro_readAnd_26 : List UInt8 := 42 :: t_Ro_readAnd_27
abbrev t_Ro_readAnd_23 : List UInt8 := 182 :: 0 :: 76 :: t_Ro_readAnd_26
abbrev t_Ro_readAnd_22 : List UInt8 := 42 :: t_Ro_readAnd_23
abbrev t_Ro_readAnd_19 : List UInt8 := 153 :: 0 :: 23 :: t_Ro_readAnd_22
abbrev t_Ro_readAnd_16 : List UInt8 := 182 :: 0 :: 110 :: t_Ro_readAnd_19
abbrev t_Ro_readAnd_14 : List UInt8 := 18 :: 156 :: t_Ro_readAnd_16
abbrev t_Ro_readAnd_13 : List UInt8 := 42 :: t_Ro_readAnd_14
abbrev t_Ro_readAnd_10 : List UInt8 := 162 :: 0 :: 32 :: t_Ro_readAnd_13
abbrev t_Ro_readAnd_7 : List UInt8 := 17 :: 15 :: 160 :: t_Ro_readAnd_10
abbrev t_Ro_readAnd_6 : List UInt8 := 27 :: t_Ro_readAnd_7
abbrev t_Ro_readAnd_5 : List UInt8 := 60 :: t_Ro_readAnd_6
abbrev t_Ro_readAnd_4 : List UInt8 := 3 :: t_Ro_readAnd_5
abbrev t_Ro_readAnd_1 : List UInt8 := 182 :: 0 :: 153 :: t_Ro_readAnd_4
abbrev t_Ro_readAnd_0 : List UInt8 := 42 :: t_Ro_readAnd_1
theorem a_Ro_readAnd_0 : dk_at b_Ro_readAnd 0 t_Ro_readAnd_0 := dk_start (by decide +kernel)
theorem a_Ro_readAnd_1 : dk_at b_Ro_readAnd 1 t_Ro_readAnd_1 := dk_go 1 a_Ro_readAnd_0 rfl
theorem a_Ro_readAnd_4 : dk_at b_Ro_readAnd 4 t_Ro_readAnd_4 := dk_go 3 a_Ro_readAnd_1 rfl
theorem a_Ro_readAnd_5 : dk_at b_Ro_readAnd 5 t_Ro_readAnd_5 := dk_go 1 a_Ro_readAnd_4 rfl
theorem a_Ro_readAnd_6 : dk_at b_Ro_readAnd 6 t_Ro_readAnd_6 := dk_go 1 a_Ro_readAnd_5 rfl
theorem a_Ro_readAnd_7 : dk_at b_Ro_readAnd 7 t_Ro_readAnd_7 := dk_go 1 a_Ro_readAnd_6 rfl
theorem a_Ro_readAnd_10 : dk_at b_Ro_readAnd 10 t_Ro_readAnd_10 := dk_go 3 a_Ro_readAnd_7 rfl
theorem a_Ro_readAnd_13 : dk_at b_Ro_readAnd 13 t_Ro_readAnd_13 := dk_go 3 a_Ro_readAnd_10 rfl
theorem a_Ro_readAnd_14 : dk_at b_Ro_readAnd 14 t_Ro_readAnd_14 := dk_go 1 a_Ro_readAnd_13 rfl
theorem a_Ro_readAnd_16 : dk_at b_Ro_readAnd 16 t_Ro_readAnd_16 := dk_go 2 a_Ro_readAnd_14 rfl
theorem a_Ro_readAnd_19 : dk_at b_Ro_readAnd 19 t_Ro_readAnd_19 := dk_go 3 a_Ro_readAnd_16 rfl
theorem a_Ro_readAnd_22 : dk_at b_Ro_readAnd 22 t_Ro_readAnd_22 := dk_go 3 a_Ro_readAnd_19 rfl
theorem a_Ro_readAnd_23 : dk_at b_Ro_readAnd 23 t_Ro_readAnd_23 := dk_go 1 a_Ro_readAnd_22 rfl
theorem a_Ro_readAnd_26 : dk_at b_Ro_readAnd 26 t_Ro_readAnd_26 := dk_go 3 a_Ro_readAnd_23 rfl
theorem a_Ro_readAnd_27 : dk_at b_Ro_readAnd 27 t_Ro_readAnd_27 := dk_go 1 a_Ro_readAnd_26 rfl
theorem a_Ro_readAnd_30 : dk_at b_Ro_readAnd 30 t_Ro_readAnd_30 := dk_go 3 a_Ro_readAnd_27 rfl
theorem a_Ro_readAnd_31 : dk_at b_Ro_readAnd 31 t_Ro_readAnd_31 := dk_go 1 a_Ro_readAnd_30 rfl
theorem a_Ro_readAnd_33 : dk_at b_Ro_readAnd 33 t_Ro_readAnd_33 := dk_go 2 a_Ro_readAnd_31 rfl
theorem a_Ro_readAnd_36 : dk_at b_Ro_readAnd 36 t_Ro_readAnd_36 := dk_go 3 a_Ro_readAnd_33 rfl
theorem a_Ro_readAnd_39 : dk_at b_Ro_readAnd 39 t_Ro_readAnd_39 := dk_go 3 a_Ro_readAnd_36 rfl
theorem a_Ro_readAnd_42 : dk_at b_Ro_readAnd 42 t_Ro_readAnd_42 := dk_go 3 a_Ro_readAnd_39 rfl
theorem d_Ro_readAnd_0 : decode b_Ro_readAnd 0 = .ok (.aload_n 0, 1) := dk_0 a_Ro_readAnd_0 (dko_42 _)
theorem d_Ro_readAnd_1 : decode b_Ro_readAnd 1 = .ok (.invokevirtual 153, 3) := dk_U2 a_Ro_readAnd_1 (dko_182 _) rfl
theorem d_Ro_readAnd_4 : decode b_Ro_readAnd 4 = .ok (.iconst 0, 1) := dk_0 a_Ro_readAnd_4 (dko_3 _)
theorem d_Ro_readAnd_5 : decode b_Ro_readAnd 5 = .ok (.istore_n 1, 1) := dk_0 a_Ro_readAnd_5 (dko_60 _)
theorem d_Ro_readAnd_6 : decode b_Ro_readAnd 6 = .ok (.iload_n 1, 1) := dk_0 a_Ro_readAnd_6 (dko_27 _)
theorem d_Ro_readAnd_7 : decode b_Ro_readAnd 7 = .ok (.sipush 4000, 3) := dk_S2 a_Ro_readAnd_7 (dko_17 _) (by decide +kernel)
theorem d_Ro_readAnd_10 : decode b_Ro_readAnd 10 = .ok (.if_icmp .ge 32, 3) := dk_S2 a_Ro_readAnd_10 (dko_162 _) (by decide +kernel)
theorem d_Ro_readAnd_13 : decode b_Ro_readAnd 13 = .ok (.aload_n 0, 1) := dk_0 a_Ro_readAnd_13 (dko_42 _)
theorem d_Ro_readAnd_14 : decode b_Ro_readAnd 14 = .ok (.ldc 156, 2) := dk_U1 a_Ro_readAnd_14 (dko_18 _) rfl
theorem d_Ro_readAnd_16 : decode b_Ro_readAnd 16 = .ok (.invokevirtual 110, 3) := dk_U2 a_Ro_readAnd_16 (dko_182 _) rfl
theorem d_Ro_readAnd_19 : decode b_Ro_readAnd 19 = .ok (.ifCond .eq 23, 3) := dk_S2 a_Ro_readAnd_19 (dko_153 _) (by decide +kernel)
theorem d_Ro_readAnd_22 : decode b_Ro_readAnd 22 = .ok (.aload_n 0, 1) := dk_0 a_Ro_readAnd_22 (dko_42 _)
theorem d_Ro_readAnd_23 : decode b_Ro_readAnd 23 = .ok (.invokevirtual 76, 3) := dk_U2 a_Ro_readAnd_23 (dko_182 _) rfl
theorem d_Ro_readAnd_26 : decode b_Ro_readAnd 26 = .ok (.aload_n 0, 1) := dk_0 a_Ro_readAnd_26 (dko_42 _)
theorem d_Ro_readAnd_27 : decode b_Ro_readAnd 27 = .ok (.invokevirtual 153, 3) := dk_U2 a_Ro_readAnd_27 (dko_182 _) rfl
theorem d_Ro_readAnd_30 : decode b_Ro_readAnd 30 = .ok (.aload_n 0, 1) := dk_0 a_Ro_readAnd_30 (dko_42 _)
theorem d_Ro_readAnd_31 : decode b_Ro_readAnd 31 = .ok (.bipush 17, 2) := dk_S1 a_Ro_readAnd_31 (dko_16 _) (by decide +kernel)
theorem d_Ro_readAnd_33 : decode b_Ro_readAnd 33 = .ok (.invokevirtual 149, 3) := dk_U2 a_Ro_readAnd_33 (dko_182 _) rfl
theorem d_Ro_readAnd_36 : decode b_Ro_readAnd 36 = .ok (.iinc 1 1, 3) := dk_US a_Ro_readAnd_36 (dko_132 _) (by decide +kernel)
theorem d_Ro_readAnd_39 : decode b_Ro_readAnd 39 = .ok (.goto (-33), 3) := dk_S2 a_Ro_readAnd_39 (dko_167 _) (by decide +kernel)
theorem d_Ro_readAnd_42 : decode b_Ro_readAnd 42 = .ok (.return_, 1) := dk_0 a_Ro_readAnd_42 (dko_177 _)
set_option maxHeartbeats 4000000 in
set_option maxRecDepth 100000 in
theorem ok_Ro_readAnd (pc : Nat) : OpS mt mi_Ro_readAnd pc (cs_Ro_readAnd pc) := (os_n (os_n (os_n (os_n (os_l (so_aload_n d_Ro_readAnd_0 rfl)) (os_l (so_callV (iv := mi_Ro_readPart) rfl rfl rfl mw_863 mw_865 sl_18 mw_10 mw_866 ⟨by decide +kernel, by decide +kernel, by decide +kernel⟩ (by decide) d_Ro_readAnd_1))) (os_n (os_l (so_iconst d_Ro_readAnd_4 (by decide))) (os_n (os_l (so_istore_n d_Ro_readAnd_5 rfl (by decide))) (os_l (so_iload_n d_Ro_readAnd_6 rfl))))) (os_n (os_n (os_l (so_sipush d_Ro_readAnd_7 (by decide))) (os_l (so_icge d_Ro_readAnd_10 (by decide)))) (os_n (os_l (so_aload_n d_Ro_readAnd_13 rfl)) (os_n (os_l (so_ldcS (k := 11) (idx := 0) (q := ("BreweryHouse$Rows", 156, "and")) (by decide +kernel) rfl d_Ro_readAnd_14)) (os_l (so_callV (iv := mi_Ro_is) rfl rfl rfl mw_839 mw_841 sl_13 mw_10 mw_842 ⟨by decide +kernel, by decide +kernel, by decide +kernel⟩ (by decide) d_Ro_readAnd_16)))))) (os_n (os_n (os_n (os_l (so_ifeq d_Ro_readAnd_19 (by decide))) (os_l (so_aload_n d_Ro_readAnd_22 rfl))) (os_n (os_l (so_callV (iv := mi_Ro_nextWord) rfl rfl rfl mw_815 mw_817 sl_9 mw_10 mw_818 ⟨by decide +kernel, by decide +kernel, by decide +kernel⟩ (by decide) d_Ro_readAnd_23)) (os_n (os_l (so_aload_n d_Ro_readAnd_26 rfl)) (os_l (so_callV (iv := mi_Ro_readPart) rfl rfl rfl mw_863 mw_865 sl_18 mw_10 mw_866 ⟨by decide +kernel, by decide +kernel, by decide +kernel⟩ (by decide) d_Ro_readAnd_27))))) (os_n (os_n (os_l (so_aload_n d_Ro_readAnd_30 rfl)) (os_n (os_l (so_bipush d_Ro_readAnd_31 (by decide))) (os_l (so_callV (iv := mi_Ro_put) rfl rfl rfl mw_869 mw_871 sl_19 mw_10 mw_872 ⟨by decide +kernel, by decide +kernel, by decide +kernel⟩ (by decide) d_Ro_readAnd_33)))) (os_n (os_l (so_iinc d_Ro_readAnd_36 (by decide) (by decide))) (os_n (os_l (so_goto d_Ro_readAnd_39 (by decide))) (os_l (so_return rfl d_Ro_readAnd_42)))))))
abbrev t_Ro_readPart_159 : List UInt8 := 177 :: []
abbrev t_Ro_readPart_156 : List UInt8 := 182 :: 0 :: 76 :: t_Ro_readPart_159
abbrev t_Ro_readPart_155 : List UInt8 := 42 :: t_Ro_readPart_156
abbrev t_Ro_readPart_152 : List UInt8 := 182 :: 0 :: 149 :: t_Ro_readPart_155
abbrev t_Ro_readPart_151 : List UInt8 := 28 :: t_Ro_readPart_152
abbrev t_Ro_readPart_150 : List UInt8 := 42 :: t_Ro_readPart_151
abbrev t_Ro_readPart_147 : List UInt8 := 181 :: 0 :: 130 :: t_Ro_readPart_150
abbrev t_Ro_readPart_146 : List UInt8 := 96 :: t_Ro_readPart_147
abbrev t_Ro_readPart_145 : List UInt8 := 4 :: t_Ro_readPart_146
abbrev t_Ro_readPart_142 : List UInt8 := 180 :: 0 :: 130 :: t_Ro_readPart_145
abbrev t_Ro_readPart_141 : List UInt8 := 89 :: t_Ro_readPart_142
abbrev t_Ro_readPart_140 : List UInt8 := 42 :: t_Ro_readPart_141
abbrev t_Ro_readPart_139 : List UInt8 := 177 :: t_Ro_readPart_140
abbrev t_Ro_readPart_136 : List UInt8 := 182 :: 0 :: 114 :: t_Ro_readPart_139
abbrev t_Ro_readPart_135 : List UInt8 := 42 :: t_Ro_readPart_136
abbrev t_Ro_readPart_132 : List UInt8 := 161 :: 0 :: 8 :: t_Ro_readPart_135
abbrev t_Ro_readPart_130 : List UInt8 := 16 :: 32 :: t_Ro_readPart_132
abbrev t_Ro_readPart_127 : List UInt8 := 180 :: 0 :: 130 :: t_Ro_readPart_130
abbrev t_Ro_readPart_126 : List UInt8 := 42 :: t_Ro_readPart_127
abbrev t_Ro_readPart_123 : List UInt8 := 155 :: 0 :: 12 :: t_Ro_readPart_126
abbrev t_Ro_readPart_122 : List UInt8 := 28 :: t_Ro_readPart_123
abbrev t_Ro_readPart_119 : List UInt8 := 156 :: 0 :: 16 :: t_Ro_readPart_122
abbrev t_Ro_readPart_116 : List UInt8 := 180 :: 0 :: 64 :: t_Ro_readPart_119
abbrev t_Ro_readPart_115 : List UInt8 := 42 :: t_Ro_readPart_116
abbrev t_Ro_readPart_114 : List UInt8 := 61 :: t_Ro_readPart_115
abbrev t_Ro_readPart_113 : List UInt8 := 2 :: t_Ro_readPart_114
abbrev t_Ro_readPart_110 : List UInt8 := 167 :: 0 :: 4 :: t_Ro_readPart_113
abbrev t_Ro_readPart_107 : List UInt8 := 182 :: 0 :: 138 :: t_Ro_readPart_110
abbrev t_Ro_readPart_105 : List UInt8 := 16 :: 15 :: t_Ro_readPart_107
abbrev t_Ro_readPart_104 : List UInt8 := 4 :: t_Ro_readPart_105
abbrev t_Ro_readPart_103 : List UInt8 := 42 :: t_Ro_readPart_104
abbrev t_Ro_readPart_100 : List UInt8 := 160 :: 0 :: 13 :: t_Ro_readPart_103
abbrev t_Ro_readPart_98 : List UInt8 := 16 :: 99 :: t_Ro_readPart_100
abbrev t_Ro_readPart_95 : List UInt8 := 182 :: 0 :: 90 :: t_Ro_readPart_98
abbrev t_Ro_readPart_92 : List UInt8 := 180 :: 0 :: 79 :: t_Ro_readPart_95
abbrev t_Ro_readPart_91 : List UInt8 := 42 :: t_Ro_readPart_92
abbrev t_Ro_readPart_88 : List UInt8 := 180 :: 0 :: 57 :: t_Ro_readPart_91
abbrev t_Ro_readPart_87 : List UInt8 := 42 :: t_Ro_readPart_88
abbrev t_Ro_readPart_86 : List UInt8 := 177 :: t_Ro_readPart_87
abbrev t_Ro_readPart_83 : List UInt8 := 181 :: 0 :: 67 :: t_Ro_readPart_86
abbrev t_Ro_readPart_82 : List UInt8 := 100 :: t_Ro_readPart_83
abbrev t_Ro_readPart_81 : List UInt8 := 4 :: t_Ro_readPart_82
abbrev t_Ro_readPart_78 : List UInt8 := 180 :: 0 :: 67 :: t_Ro_readPart_81
abbrev t_Ro_readPart_77 : List UInt8 := 89 :: t_Ro_readPart_78
abbrev t_Ro_readPart_76 : List UInt8 := 42 :: t_Ro_readPart_77
abbrev t_Ro_readPart_75 : List UInt8 := 87 :: t_Ro_readPart_76
abbrev t_Ro_readPart_72 : List UInt8 := 182 :: 0 :: 122 :: t_Ro_readPart_75
abbrev t_Ro_readPart_70 : List UInt8 := 18 :: 162 :: t_Ro_readPart_72
abbrev t_Ro_readPart_69 : List UInt8 := 42 :: t_Ro_readPart_70
abbrev t_Ro_readPart_66 : List UInt8 := 182 :: 0 :: 133 :: t_Ro_readPart_69
abbrev t_Ro_readPart_65 : List UInt8 := 42 :: t_Ro_readPart_66
abbrev t_Ro_readPart_62 : List UInt8 := 167 :: 0 :: 14 :: t_Ro_readPart_65
abbrev t_Ro_readPart_59 : List UInt8 := 182 :: 0 :: 149 :: t_Ro_readPart_62
abbrev t_Ro_readPart_57 : List UInt8 := 16 :: 16 :: t_Ro_readPart_59
abbrev t_Ro_readPart_56 : List UInt8 := 42 :: t_Ro_readPart_57
abbrev t_Ro_readPart_53 : List UInt8 := 182 :: 0 :: 153 :: t_Ro_readPart_56
abbrev t_Ro_readPart_52 : List UInt8 := 42 :: t_Ro_readPart_53
abbrev t_Ro_readPart_49 : List UInt8 := 153 :: 0 :: 16 :: t_Ro_readPart_52
abbrev t_Ro_readPart_48 : List UInt8 := 27 :: t_Ro_readPart_49
abbrev t_Ro_readPart_45 : List UInt8 := 182 :: 0 :: 76 :: t_Ro_readPart_48
abbrev t_Ro_readPart_44 : List UInt8 := 42 :: t_Ro_readPart_45
abbrev t_Ro_readPart_41 : List UInt8 := 181 :: 0 :: 67 :: t_Ro_readPart_44
abbrev t_Ro_readPart_40 : List UInt8 := 96 :: t_Ro_readPart_41
abbrev t_Ro_readPart_39 : List UInt8 := 4 :: t_Ro_readPart_40
abbrev t_Ro_readPart_36 : List UInt8 := 180 :: 0 :: 67 :: t_Ro_readPart_39
abbrev t_Ro_readPart_35 : List UInt8 := 89 :: t_Ro_readPart_36
abbrev t_Ro_readPart_34 : List UInt8 := 42 :: t_Ro_readPart_35
abbrev t_Ro_readPart_33 : List UInt8 := 177 :: t_Ro_readPart_34
abbrev t_Ro_readPart_30 : List UInt8 := 182 :: 0 :: 114 :: t_Ro_readPart_33
abbrev t_Ro_readPart_29 : List UInt8 := 42 :: t_Ro_readPart_30
abbrev t_Ro_readPart_26 : List UInt8 := 161 :: 0 :: 8 :: t_Ro_readPart_29
abbrev t_Ro_readPart_24 : List UInt8 := 16 :: 20 :: t_Ro_readPart_26
abbrev t_Ro_readPart_21 : List UInt8 := 180 :: 0 :: 67 :: t_Ro_readPart_24
abbrev t_Ro_readPart_20 : List UInt8 := 42 :: t_Ro_readPart_21
abbrev t_Ro_readPart_17 : List UInt8 := 153 :: 0 :: 70 :: t_Ro_readPart_20
abbrev t_Ro_readPart_14 : List UInt8 := 182 :: 0 :: 110 :: t_Ro_readPart_17
abbrev t_Ro_readPart_12 : List UInt8 := 18 :: 160 :: t_Ro_readPart_14
abbrev t_Ro_readPart_11 : List UInt8 := 42 :: t_Ro_readPart_12
abbrev t_Ro_readPart_8 : List UInt8 := 154 :: 0 :: 12 :: t_Ro_readPart_11
abbrev t_Ro_readPart_7 : List UInt8 := 27 :: t_Ro_readPart_8
abbrev t_Ro_readPart_6 : List UInt8 := 60 :: t_Ro_readPart_7
abbrev t_Ro_readPart_3 : List UInt8 := 182 :: 0 :: 110 :: t_Ro_readPart_6
abbrev t_Ro_readPart_1 : List UInt8 := 18 :: 158 :: t_Ro_readPart_3
abbrev t_Ro_readPart_0 : List UInt8 := 42 :: t_Ro_readPart_1
theorem a_Ro_readPart_0 : dk_at b_Ro_readPart 0 t_Ro_readPart_0 := dk_start (by decide +kernel)
theorem a_Ro_readPart_1 : dk_at b_Ro_readPart 1 t_Ro_readPart_1 := dk_go 1 a_Ro_readPart_0 rfl
theorem a_Ro_readPart_3 : dk_at b_Ro_readPart 3 t_Ro_readPart_3 := dk_go 2 a_Ro_readPart_1 rfl
theorem a_Ro_readPart_6 : dk_at b_Ro_readPart 6 t_Ro_readPart_6 := dk_go 3 a_Ro_readPart_3 rfl
theorem a_Ro_readPart_7 : dk_at b_Ro_readPart 7 t_Ro_readPart_7 := dk_go 1 a_Ro_readPart_6 rfl
theorem a_Ro_readPart_8 : dk_at b_Ro_readPart 8 t_Ro_readPart_8 := dk_go 1 a_Ro_readPart_7 rfl
theorem a_Ro_readPart_11 : dk_at b_Ro_readPart 11 t_Ro_readPart_11 := dk_go 3 a_Ro_readPart_8 rfl
theorem a_Ro_readPart_12 : dk_at b_Ro_readPart 12 t_Ro_readPart_12 := dk_go 1 a_Ro_readPart_11 rfl
theorem a_Ro_readPart_14 : dk_at b_Ro_readPart 14 t_Ro_readPart_14 := dk_go 2 a_Ro_readPart_12 rfl
theorem a_Ro_readPart_17 : dk_at b_Ro_readPart 17 t_Ro_readPart_17 := dk_go 3 a_Ro_readPart_14 rfl
theorem a_Ro_readPart_20 : dk_at b_Ro_readPart 20 t_Ro_readPart_20 := dk_go 3 a_Ro_readPart_17 rfl
theorem a_Ro_readPart_21 : dk_at b_Ro_readPart 21 t_Ro_readPart_21 := dk_go 1 a_Ro_readPart_20 rfl
theorem a_Ro_readPart_24 : dk_at b_Ro_readPart 24 t_Ro_readPart_24 := dk_go 3 a_Ro_readPart_21 rfl
theorem a_Ro_readPart_26 : dk_at b_Ro_readPart 26 t_Ro_readPart_26 := dk_go 2 a_Ro_readPart_24 rfl
theorem a_Ro_readPart_29 : dk_at b_Ro_readPart 29 t_Ro_readPart_29 := dk_go 3 a_Ro_readPart_26 rfl
theorem a_Ro_readPart_30 : dk_at b_Ro_readPart 30 t_Ro_readPart_30 := dk_go 1 a_Ro_readPart_29 rfl
theorem a_Ro_readPart_33 : dk_at b_Ro_readPart 33 t_Ro_readPart_33 := dk_go 3 a_Ro_readPart_30 rfl
theorem a_Ro_readPart_34 : dk_at b_Ro_readPart 34 t_Ro_readPart_34 := dk_go 1 a_Ro_readPart_33 rfl
theorem a_Ro_readPart_35 : dk_at b_Ro_readPart 35 t_Ro_readPart_35 := dk_go 1 a_Ro_readPart_34 rfl
theorem a_Ro_readPart_36 : dk_at b_Ro_readPart 36 t_Ro_readPart_36 := dk_go 1 a_Ro_readPart_35 rfl
theorem a_Ro_readPart_39 : dk_at b_Ro_readPart 39 t_Ro_readPart_39 := dk_go 3 a_Ro_readPart_36 rfl
theorem a_Ro_readPart_40 : dk_at b_Ro_readPart 40 t_Ro_readPart_40 := dk_go 1 a_Ro_readPart_39 rfl
theorem a_Ro_readPart_41 : dk_at b_Ro_readPart 41 t_Ro_readPart_41 := dk_go 1 a_Ro_readPart_40 rfl
theorem a_Ro_readPart_44 : dk_at b_Ro_readPart 44 t_Ro_readPart_44 := dk_go 3 a_Ro_readPart_41 rfl
theorem a_Ro_readPart_45 : dk_at b_Ro_readPart 45 t_Ro_readPart_45 := dk_go 1 a_Ro_readPart_44 rfl
theorem a_Ro_readPart_48 : dk_at b_Ro_readPart 48 t_Ro_readPart_48 := dk_go 3 a_Ro_readPart_45 rfl
theorem a_Ro_readPart_49 : dk_at b_Ro_readPart 49 t_Ro_readPart_49 := dk_go 1 a_Ro_readPart_48 rfl
theorem a_Ro_readPart_52 : dk_at b_Ro_readPart 52 t_Ro_readPart_52 := dk_go 3 a_Ro_readPart_49 rfl
theorem a_Ro_readPart_53 : dk_at b_Ro_readPart 53 t_Ro_readPart_53 := dk_go 1 a_Ro_readPart_52 rfl
theorem a_Ro_readPart_56 : dk_at b_Ro_readPart 56 t_Ro_readPart_56 := dk_go 3 a_Ro_readPart_53 rfl
theorem a_Ro_readPart_57 : dk_at b_Ro_readPart 57 t_Ro_readPart_57 := dk_go 1 a_Ro_readPart_56 rfl
theorem a_Ro_readPart_59 : dk_at b_Ro_readPart 59 t_Ro_readPart_59 := dk_go 2 a_Ro_readPart_57 rfl
theorem a_Ro_readPart_62 : dk_at b_Ro_readPart 62 t_Ro_readPart_62 := dk_go 3 a_Ro_readPart_59 rfl
theorem a_Ro_readPart_65 : dk_at b_Ro_readPart 65 t_Ro_readPart_65 := dk_go 3 a_Ro_readPart_62 rfl
theorem a_Ro_readPart_66 : dk_at b_Ro_readPart 66 t_Ro_readPart_66 := dk_go 1 a_Ro_readPart_65 rfl
theorem a_Ro_readPart_69 : dk_at b_Ro_readPart 69 t_Ro_readPart_69 := dk_go 3 a_Ro_readPart_66 rfl
theorem a_Ro_readPart_70 : dk_at b_Ro_readPart 70 t_Ro_readPart_70 := dk_go 1 a_Ro_readPart_69 rfl
theorem a_Ro_readPart_72 : dk_at b_Ro_readPart 72 t_Ro_readPart_72 := dk_go 2 a_Ro_readPart_70 rfl
theorem a_Ro_readPart_75 : dk_at b_Ro_readPart 75 t_Ro_readPart_75 := dk_go 3 a_Ro_readPart_72 rfl
theorem a_Ro_readPart_76 : dk_at b_Ro_readPart 76 t_Ro_readPart_76 := dk_go 1 a_Ro_readPart_75 rfl
theorem a_Ro_readPart_77 : dk_at b_Ro_readPart 77 t_Ro_readPart_77 := dk_go 1 a_Ro_readPart_76 rfl
theorem a_Ro_readPart_78 : dk_at b_Ro_readPart 78 t_Ro_readPart_78 := dk_go 1 a_Ro_readPart_77 rfl
theorem a_Ro_readPart_81 : dk_at b_Ro_readPart 81 t_Ro_readPart_81 := dk_go 3 a_Ro_readPart_78 rfl
theorem a_Ro_readPart_82 : dk_at b_Ro_readPart 82 t_Ro_readPart_82 := dk_go 1 a_Ro_readPart_81 rfl
theorem a_Ro_readPart_83 : dk_at b_Ro_readPart 83 t_Ro_readPart_83 := dk_go 1 a_Ro_readPart_82 rfl
theorem a_Ro_readPart_86 : dk_at b_Ro_readPart 86 t_Ro_readPart_86 := dk_go 3 a_Ro_readPart_83 rfl
theorem a_Ro_readPart_87 : dk_at b_Ro_readPart 87 t_Ro_readPart_87 := dk_go 1 a_Ro_readPart_86 rfl
theorem a_Ro_readPart_88 : dk_at b_Ro_readPart 88 t_Ro_readPart_88 := dk_go 1 a_Ro_readPart_87 rfl
theorem a_Ro_readPart_91 : dk_at b_Ro_readPart 91 t_Ro_readPart_91 := dk_go 3 a_Ro_readPart_88 rfl
theorem a_Ro_readPart_92 : dk_at b_Ro_readPart 92 t_Ro_readPart_92 := dk_go 1 a_Ro_readPart_91 rfl
theorem a_Ro_readPart_95 : dk_at b_Ro_readPart 95 t_Ro_readPart_95 := dk_go 3 a_Ro_readPart_92 rfl
theorem a_Ro_readPart_98 : dk_at b_Ro_readPart 98 t_Ro_readPart_98 := dk_go 3 a_Ro_readPart_95 rfl
theorem a_Ro_readPart_100 : dk_at b_Ro_readPart 100 t_Ro_readPart_100 := dk_go 2 a_Ro_readPart_98 rfl
theorem a_Ro_readPart_103 : dk_at b_Ro_readPart 103 t_Ro_readPart_103 := dk_go 3 a_Ro_readPart_100 rfl
theorem a_Ro_readPart_104 : dk_at b_Ro_readPart 104 t_Ro_readPart_104 := dk_go 1 a_Ro_readPart_103 rfl
theorem a_Ro_readPart_105 : dk_at b_Ro_readPart 105 t_Ro_readPart_105 := dk_go 1 a_Ro_readPart_104 rfl
theorem a_Ro_readPart_107 : dk_at b_Ro_readPart 107 t_Ro_readPart_107 := dk_go 2 a_Ro_readPart_105 rfl
theorem a_Ro_readPart_110 : dk_at b_Ro_readPart 110 t_Ro_readPart_110 := dk_go 3 a_Ro_readPart_107 rfl
theorem a_Ro_readPart_113 : dk_at b_Ro_readPart 113 t_Ro_readPart_113 := dk_go 3 a_Ro_readPart_110 rfl
theorem a_Ro_readPart_114 : dk_at b_Ro_readPart 114 t_Ro_readPart_114 := dk_go 1 a_Ro_readPart_113 rfl
theorem a_Ro_readPart_115 : dk_at b_Ro_readPart 115 t_Ro_readPart_115 := dk_go 1 a_Ro_readPart_114 rfl
theorem a_Ro_readPart_116 : dk_at b_Ro_readPart 116 t_Ro_readPart_116 := dk_go 1 a_Ro_readPart_115 rfl
theorem a_Ro_readPart_119 : dk_at b_Ro_readPart 119 t_Ro_readPart_119 := dk_go 3 a_Ro_readPart_116 rfl
theorem a_Ro_readPart_122 : dk_at b_Ro_readPart 122 t_Ro_readPart_122 := dk_go 3 a_Ro_readPart_119 rfl
theorem a_Ro_readPart_123 : dk_at b_Ro_readPart 123 t_Ro_readPart_123 := dk_go 1 a_Ro_readPart_122 rfl
theorem a_Ro_readPart_126 : dk_at b_Ro_readPart 126 t_Ro_readPart_126 := dk_go 3 a_Ro_readPart_123 rfl
theorem a_Ro_readPart_127 : dk_at b_Ro_readPart 127 t_Ro_readPart_127 := dk_go 1 a_Ro_readPart_126 rfl
theorem a_Ro_readPart_130 : dk_at b_Ro_readPart 130 t_Ro_readPart_130 := dk_go 3 a_Ro_readPart_127 rfl
theorem a_Ro_readPart_132 : dk_at b_Ro_readPart 132 t_Ro_readPart_132 := dk_go 2 a_Ro_readPart_130 rfl
theorem a_Ro_readPart_135 : dk_at b_Ro_readPart 135 t_Ro_readPart_135 := dk_go 3 a_Ro_readPart_132 rfl
theorem a_Ro_readPart_136 : dk_at b_Ro_readPart 136 t_Ro_readPart_136 := dk_go 1 a_Ro_readPart_135 rfl
theorem a_Ro_readPart_139 : dk_at b_Ro_readPart 139 t_Ro_readPart_139 := dk_go 3 a_Ro_readPart_136 rfl
theorem a_Ro_readPart_140 : dk_at b_Ro_readPart 140 t_Ro_readPart_140 := dk_go 1 a_Ro_readPart_139 rfl
theorem a_Ro_readPart_141 : dk_at b_Ro_readPart 141 t_Ro_readPart_141 := dk_go 1 a_Ro_readPart_140 rfl
theorem a_Ro_readPart_142 : dk_at b_Ro_readPart 142 t_Ro_readPart_142 := dk_go 1 a_Ro_readPart_141 rfl
theorem a_Ro_readPart_145 : dk_at b_Ro_readPart 145 t_Ro_readPart_145 := dk_go 3 a_Ro_readPart_142 rfl
theorem a_Ro_readPart_146 : dk_at b_Ro_readPart 146 t_Ro_readPart_146 := dk_go 1 a_Ro_readPart_145 rfl
theorem a_Ro_readPart_147 : dk_at b_Ro_readPart 147 t_Ro_readPart_147 := dk_go 1 a_Ro_readPart_146 rfl
theorem a_Ro_readPart_150 : dk_at b_Ro_readPart 150 t_Ro_readPart_150 := dk_go 3 a_Ro_readPart_147 rfl
theorem a_Ro_readPart_151 : dk_at b_Ro_readPart 151 t_Ro_readPart_151 := dk_go 1 a_Ro_readPart_150 rfl
theorem a_Ro_readPart_152 : dk_at b_Ro_readPart 152 t_Ro_readPart_152 := dk_go 1 a_Ro_readPart_151 rfl
theorem a_Ro_readPart_155 : dk_at b_Ro_readPart 155 t_Ro_readPart_155 := dk_go 3 a_Ro_readPart_152 rfl
theorem a_Ro_readPart_156 : dk_at b_Ro_readPart 156 t_Ro_readPart_156 := dk_go 1 a_Ro_readPart_155 rfl
theorem a_Ro_readPart_159 : dk_at b_Ro_readPart 159 t_Ro_readPart_159 := dk_go 3 a_Ro_readPart_156 rfl
theorem d_Ro_readPart_0 : decode b_Ro_readPart 0 = .ok (.aload_n 0, 1) := dk_0 a_Ro_readPart_0 (dko_42 _)
theorem d_Ro_readPart_1 : decode b_Ro_readPart 1 = .ok (.ldc 158, 2) := dk_U1 a_Ro_readPart_1 (dko_18 _) rfl
theorem d_Ro_readPart_3 : decode b_Ro_readPart 3 = .ok (.invokevirtual 110, 3) := dk_U2 a_Ro_readPart_3 (dko_182 _) rfl
theorem d_Ro_readPart_6 : decode b_Ro_readPart 6 = .ok (.istore_n 1, 1) := dk_0 a_Ro_readPart_6 (dko_60 _)
theorem d_Ro_readPart_7 : decode b_Ro_readPart 7 = .ok (.iload_n 1, 1) := dk_0 a_Ro_readPart_7 (dko_27 _)
theorem d_Ro_readPart_8 : decode b_Ro_readPart 8 = .ok (.ifCond .ne 12, 3) := dk_S2 a_Ro_readPart_8 (dko_154 _) (by decide +kernel)
theorem d_Ro_readPart_11 : decode b_Ro_readPart 11 = .ok (.aload_n 0, 1) := dk_0 a_Ro_readPart_11 (dko_42 _)
theorem d_Ro_readPart_12 : decode b_Ro_readPart 12 = .ok (.ldc 160, 2) := dk_U1 a_Ro_readPart_12 (dko_18 _) rfl
theorem d_Ro_readPart_14 : decode b_Ro_readPart 14 = .ok (.invokevirtual 110, 3) := dk_U2 a_Ro_readPart_14 (dko_182 _) rfl
theorem d_Ro_readPart_17 : decode b_Ro_readPart 17 = .ok (.ifCond .eq 70, 3) := dk_S2 a_Ro_readPart_17 (dko_153 _) (by decide +kernel)
theorem d_Ro_readPart_20 : decode b_Ro_readPart 20 = .ok (.aload_n 0, 1) := dk_0 a_Ro_readPart_20 (dko_42 _)
theorem d_Ro_readPart_21 : decode b_Ro_readPart 21 = .ok (.getfield 67, 3) := dk_U2 a_Ro_readPart_21 (dko_180 _) rfl
theorem d_Ro_readPart_24 : decode b_Ro_readPart 24 = .ok (.bipush 20, 2) := dk_S1 a_Ro_readPart_24 (dko_16 _) (by decide +kernel)
theorem d_Ro_readPart_26 : decode b_Ro_readPart 26 = .ok (.if_icmp .lt 8, 3) := dk_S2 a_Ro_readPart_26 (dko_161 _) (by decide +kernel)
theorem d_Ro_readPart_29 : decode b_Ro_readPart 29 = .ok (.aload_n 0, 1) := dk_0 a_Ro_readPart_29 (dko_42 _)
theorem d_Ro_readPart_30 : decode b_Ro_readPart 30 = .ok (.invokevirtual 114, 3) := dk_U2 a_Ro_readPart_30 (dko_182 _) rfl
theorem d_Ro_readPart_33 : decode b_Ro_readPart 33 = .ok (.return_, 1) := dk_0 a_Ro_readPart_33 (dko_177 _)
theorem d_Ro_readPart_34 : decode b_Ro_readPart 34 = .ok (.aload_n 0, 1) := dk_0 a_Ro_readPart_34 (dko_42 _)
theorem d_Ro_readPart_35 : decode b_Ro_readPart 35 = .ok (.dup, 1) := dk_0 a_Ro_readPart_35 (dko_89 _)
theorem d_Ro_readPart_36 : decode b_Ro_readPart 36 = .ok (.getfield 67, 3) := dk_U2 a_Ro_readPart_36 (dko_180 _) rfl
theorem d_Ro_readPart_39 : decode b_Ro_readPart 39 = .ok (.iconst 1, 1) := dk_0 a_Ro_readPart_39 (dko_4 _)
theorem d_Ro_readPart_40 : decode b_Ro_readPart 40 = .ok (.iadd, 1) := dk_0 a_Ro_readPart_40 (dko_96 _)
theorem d_Ro_readPart_41 : decode b_Ro_readPart 41 = .ok (.putfield 67, 3) := dk_U2 a_Ro_readPart_41 (dko_181 _) rfl
theorem d_Ro_readPart_44 : decode b_Ro_readPart 44 = .ok (.aload_n 0, 1) := dk_0 a_Ro_readPart_44 (dko_42 _)
theorem d_Ro_readPart_45 : decode b_Ro_readPart 45 = .ok (.invokevirtual 76, 3) := dk_U2 a_Ro_readPart_45 (dko_182 _) rfl
theorem d_Ro_readPart_48 : decode b_Ro_readPart 48 = .ok (.iload_n 1, 1) := dk_0 a_Ro_readPart_48 (dko_27 _)
theorem d_Ro_readPart_49 : decode b_Ro_readPart 49 = .ok (.ifCond .eq 16, 3) := dk_S2 a_Ro_readPart_49 (dko_153 _) (by decide +kernel)
theorem d_Ro_readPart_52 : decode b_Ro_readPart 52 = .ok (.aload_n 0, 1) := dk_0 a_Ro_readPart_52 (dko_42 _)
theorem d_Ro_readPart_53 : decode b_Ro_readPart 53 = .ok (.invokevirtual 153, 3) := dk_U2 a_Ro_readPart_53 (dko_182 _) rfl
theorem d_Ro_readPart_56 : decode b_Ro_readPart 56 = .ok (.aload_n 0, 1) := dk_0 a_Ro_readPart_56 (dko_42 _)
theorem d_Ro_readPart_57 : decode b_Ro_readPart 57 = .ok (.bipush 16, 2) := dk_S1 a_Ro_readPart_57 (dko_16 _) (by decide +kernel)
theorem d_Ro_readPart_59 : decode b_Ro_readPart 59 = .ok (.invokevirtual 149, 3) := dk_U2 a_Ro_readPart_59 (dko_182 _) rfl
theorem d_Ro_readPart_62 : decode b_Ro_readPart 62 = .ok (.goto 14, 3) := dk_S2 a_Ro_readPart_62 (dko_167 _) (by decide +kernel)
theorem d_Ro_readPart_65 : decode b_Ro_readPart 65 = .ok (.aload_n 0, 1) := dk_0 a_Ro_readPart_65 (dko_42 _)
theorem d_Ro_readPart_66 : decode b_Ro_readPart 66 = .ok (.invokevirtual 133, 3) := dk_U2 a_Ro_readPart_66 (dko_182 _) rfl
theorem d_Ro_readPart_69 : decode b_Ro_readPart 69 = .ok (.aload_n 0, 1) := dk_0 a_Ro_readPart_69 (dko_42 _)
theorem d_Ro_readPart_70 : decode b_Ro_readPart 70 = .ok (.ldc 162, 2) := dk_U1 a_Ro_readPart_70 (dko_18 _) rfl
theorem d_Ro_readPart_72 : decode b_Ro_readPart 72 = .ok (.invokevirtual 122, 3) := dk_U2 a_Ro_readPart_72 (dko_182 _) rfl
theorem d_Ro_readPart_75 : decode b_Ro_readPart 75 = .ok (.pop, 1) := dk_0 a_Ro_readPart_75 (dko_87 _)
theorem d_Ro_readPart_76 : decode b_Ro_readPart 76 = .ok (.aload_n 0, 1) := dk_0 a_Ro_readPart_76 (dko_42 _)
theorem d_Ro_readPart_77 : decode b_Ro_readPart 77 = .ok (.dup, 1) := dk_0 a_Ro_readPart_77 (dko_89 _)
theorem d_Ro_readPart_78 : decode b_Ro_readPart 78 = .ok (.getfield 67, 3) := dk_U2 a_Ro_readPart_78 (dko_180 _) rfl
theorem d_Ro_readPart_81 : decode b_Ro_readPart 81 = .ok (.iconst 1, 1) := dk_0 a_Ro_readPart_81 (dko_4 _)
theorem d_Ro_readPart_82 : decode b_Ro_readPart 82 = .ok (.isub, 1) := dk_0 a_Ro_readPart_82 (dko_100 _)
theorem d_Ro_readPart_83 : decode b_Ro_readPart 83 = .ok (.putfield 67, 3) := dk_U2 a_Ro_readPart_83 (dko_181 _) rfl
theorem d_Ro_readPart_86 : decode b_Ro_readPart 86 = .ok (.return_, 1) := dk_0 a_Ro_readPart_86 (dko_177 _)
theorem d_Ro_readPart_87 : decode b_Ro_readPart 87 = .ok (.aload_n 0, 1) := dk_0 a_Ro_readPart_87 (dko_42 _)
theorem d_Ro_readPart_88 : decode b_Ro_readPart 88 = .ok (.getfield 57, 3) := dk_U2 a_Ro_readPart_88 (dko_180 _) rfl
theorem d_Ro_readPart_91 : decode b_Ro_readPart 91 = .ok (.aload_n 0, 1) := dk_0 a_Ro_readPart_91 (dko_42 _)
theorem d_Ro_readPart_92 : decode b_Ro_readPart 92 = .ok (.getfield 79, 3) := dk_U2 a_Ro_readPart_92 (dko_180 _) rfl
theorem d_Ro_readPart_95 : decode b_Ro_readPart 95 = .ok (.invokevirtual 90, 3) := dk_U2 a_Ro_readPart_95 (dko_182 _) rfl
theorem d_Ro_readPart_98 : decode b_Ro_readPart 98 = .ok (.bipush 99, 2) := dk_S1 a_Ro_readPart_98 (dko_16 _) (by decide +kernel)
theorem d_Ro_readPart_100 : decode b_Ro_readPart 100 = .ok (.if_icmp .ne 13, 3) := dk_S2 a_Ro_readPart_100 (dko_160 _) (by decide +kernel)
theorem d_Ro_readPart_103 : decode b_Ro_readPart 103 = .ok (.aload_n 0, 1) := dk_0 a_Ro_readPart_103 (dko_42 _)
theorem d_Ro_readPart_104 : decode b_Ro_readPart 104 = .ok (.iconst 1, 1) := dk_0 a_Ro_readPart_104 (dko_4 _)
theorem d_Ro_readPart_105 : decode b_Ro_readPart 105 = .ok (.bipush 15, 2) := dk_S1 a_Ro_readPart_105 (dko_16 _) (by decide +kernel)
theorem d_Ro_readPart_107 : decode b_Ro_readPart 107 = .ok (.invokevirtual 138, 3) := dk_U2 a_Ro_readPart_107 (dko_182 _) rfl
theorem d_Ro_readPart_110 : decode b_Ro_readPart 110 = .ok (.goto 4, 3) := dk_S2 a_Ro_readPart_110 (dko_167 _) (by decide +kernel)
theorem d_Ro_readPart_113 : decode b_Ro_readPart 113 = .ok (.iconst (-1), 1) := dk_0 a_Ro_readPart_113 (dko_2 _)
theorem d_Ro_readPart_114 : decode b_Ro_readPart 114 = .ok (.istore_n 2, 1) := dk_0 a_Ro_readPart_114 (dko_61 _)
theorem d_Ro_readPart_115 : decode b_Ro_readPart 115 = .ok (.aload_n 0, 1) := dk_0 a_Ro_readPart_115 (dko_42 _)
theorem d_Ro_readPart_116 : decode b_Ro_readPart 116 = .ok (.getfield 64, 3) := dk_U2 a_Ro_readPart_116 (dko_180 _) rfl
theorem d_Ro_readPart_119 : decode b_Ro_readPart 119 = .ok (.ifCond .ge 16, 3) := dk_S2 a_Ro_readPart_119 (dko_156 _) (by decide +kernel)
theorem d_Ro_readPart_122 : decode b_Ro_readPart 122 = .ok (.iload_n 2, 1) := dk_0 a_Ro_readPart_122 (dko_28 _)
theorem d_Ro_readPart_123 : decode b_Ro_readPart 123 = .ok (.ifCond .lt 12, 3) := dk_S2 a_Ro_readPart_123 (dko_155 _) (by decide +kernel)
theorem d_Ro_readPart_126 : decode b_Ro_readPart 126 = .ok (.aload_n 0, 1) := dk_0 a_Ro_readPart_126 (dko_42 _)
theorem d_Ro_readPart_127 : decode b_Ro_readPart 127 = .ok (.getfield 130, 3) := dk_U2 a_Ro_readPart_127 (dko_180 _) rfl
theorem d_Ro_readPart_130 : decode b_Ro_readPart 130 = .ok (.bipush 32, 2) := dk_S1 a_Ro_readPart_130 (dko_16 _) (by decide +kernel)
theorem d_Ro_readPart_132 : decode b_Ro_readPart 132 = .ok (.if_icmp .lt 8, 3) := dk_S2 a_Ro_readPart_132 (dko_161 _) (by decide +kernel)
theorem d_Ro_readPart_135 : decode b_Ro_readPart 135 = .ok (.aload_n 0, 1) := dk_0 a_Ro_readPart_135 (dko_42 _)
theorem d_Ro_readPart_136 : decode b_Ro_readPart 136 = .ok (.invokevirtual 114, 3) := dk_U2 a_Ro_readPart_136 (dko_182 _) rfl
theorem d_Ro_readPart_139 : decode b_Ro_readPart 139 = .ok (.return_, 1) := dk_0 a_Ro_readPart_139 (dko_177 _)
theorem d_Ro_readPart_140 : decode b_Ro_readPart 140 = .ok (.aload_n 0, 1) := dk_0 a_Ro_readPart_140 (dko_42 _)
theorem d_Ro_readPart_141 : decode b_Ro_readPart 141 = .ok (.dup, 1) := dk_0 a_Ro_readPart_141 (dko_89 _)
theorem d_Ro_readPart_142 : decode b_Ro_readPart 142 = .ok (.getfield 130, 3) := dk_U2 a_Ro_readPart_142 (dko_180 _) rfl
theorem d_Ro_readPart_145 : decode b_Ro_readPart 145 = .ok (.iconst 1, 1) := dk_0 a_Ro_readPart_145 (dko_4 _)
theorem d_Ro_readPart_146 : decode b_Ro_readPart 146 = .ok (.iadd, 1) := dk_0 a_Ro_readPart_146 (dko_96 _)
theorem d_Ro_readPart_147 : decode b_Ro_readPart 147 = .ok (.putfield 130, 3) := dk_U2 a_Ro_readPart_147 (dko_181 _) rfl
theorem d_Ro_readPart_150 : decode b_Ro_readPart 150 = .ok (.aload_n 0, 1) := dk_0 a_Ro_readPart_150 (dko_42 _)
theorem d_Ro_readPart_151 : decode b_Ro_readPart 151 = .ok (.iload_n 2, 1) := dk_0 a_Ro_readPart_151 (dko_28 _)
theorem d_Ro_readPart_152 : decode b_Ro_readPart 152 = .ok (.invokevirtual 149, 3) := dk_U2 a_Ro_readPart_152 (dko_182 _) rfl
theorem d_Ro_readPart_155 : decode b_Ro_readPart 155 = .ok (.aload_n 0, 1) := dk_0 a_Ro_readPart_155 (dko_42 _)
theorem d_Ro_readPart_156 : decode b_Ro_readPart 156 = .ok (.invokevirtual 76, 3) := dk_U2 a_Ro_readPart_156 (dko_182 _) rfl
theorem d_Ro_readPart_159 : decode b_Ro_readPart 159 = .ok (.return_, 1) := dk_0 a_Ro_readPart_159 (dko_177 _)
set_option maxHeartbeats 4000000 in
set_option maxRecDepth 100000 in
theorem ok_Ro_readPart (pc : Nat) : OpS mt mi_Ro_readPart pc (cs_Ro_readPart pc) := (os_n (os_n (os_n (os_n (os_n (os_n (os_l (so_aload_n d_Ro_readPart_0 rfl)) (os_l (so_ldcS (k := 8) (idx := 0) (q := ("BreweryHouse$Rows", 158, "not")) (by decide +kernel) rfl d_Ro_readPart_1))) (os_n (os_l (so_callV (iv := mi_Ro_is) rfl rfl rfl mw_839 mw_841 sl_13 mw_10 mw_842 ⟨by decide +kernel, by decide +kernel, by decide +kernel⟩ (by decide) d_Ro_readPart_3)) (os_n (os_l (so_istore_n d_Ro_readPart_6 rfl (by decide))) (os_l (so_iload_n d_Ro_readPart_7 rfl))))) (os_n (os_n (os_l (so_ifne d_Ro_readPart_8 (by decide))) (os_l (so_aload_n d_Ro_readPart_11 rfl))) (os_n (os_l (so_ldcS (k := 9) (idx := 0) (q := ("BreweryHouse$Rows", 160, "(")) (by decide +kernel) rfl d_Ro_readPart_12)) (os_n (os_l (so_callV (iv := mi_Ro_is) rfl rfl rfl mw_839 mw_841 sl_13 mw_10 mw_842 ⟨by decide +kernel, by decide +kernel, by decide +kernel⟩ (by decide) d_Ro_readPart_14)) (os_l (so_ifeq d_Ro_readPart_17 (by decide))))))) (os_n (os_n (os_n (os_l (so_aload_n d_Ro_readPart_20 rfl)) (os_l (so_get (C := R_Ro) (T := F_Ro) (N := 18) (j := 15) in_Ro rfl (by decide) mw_349 d_Ro_readPart_21))) (os_n (os_l (so_bipush d_Ro_readPart_24 (by decide))) (os_n (os_l (so_iclt d_Ro_readPart_26 (by decide))) (os_l (so_aload_n d_Ro_readPart_29 rfl))))) (os_n (os_n (os_l (so_callV (iv := mi_Ro_fail) rfl rfl rfl mw_830 mw_832 sl_11 mw_10 mw_833 ⟨by decide +kernel, by decide +kernel, by decide +kernel⟩ (by decide) d_Ro_readPart_30)) (os_n (os_l (so_return rfl d_Ro_readPart_33)) (os_l (so_aload_n d_Ro_readPart_34 rfl)))) (os_n (os_l (so_dup d_Ro_readPart_35)) (os_n (os_l (so_get (C := R_Ro) (T := F_Ro) (N := 18) (j := 15) in_Ro rfl (by decide) mw_349 d_Ro_readPart_36)) (os_l (so_iconst d_Ro_readPart_39 (by decide)))))))) (os_n (os_n (os_n (os_n (os_l (so_iadd d_Ro_readPart_40)) (os_l (so_putI (C := R_Ro) (T := F_Ro) (N := 18) (j := 15) in_Ro t_Ro_ok n_Ro rfl (by decide) mw_349 rfl (by decide +kernel) d_Ro_readPart_41))) (os_n (os_l (so_aload_n d_Ro_readPart_44 rfl)) (os_n (os_l (so_callV (iv := mi_Ro_nextWord) rfl rfl rfl mw_815 mw_817 sl_9 mw_10 mw_818 ⟨by decide +kernel, by decide +kernel, by decide +kernel⟩ (by decide) d_Ro_readPart_45)) (os_l (so_iload_n d_Ro_readPart_48 rfl))))) (os_n (os_n (os_l (so_ifeq d_Ro_readPart_49 (by decide))) (os_l (so_aload_n d_Ro_readPart_52 rfl))) (os_n (os_l (so_callV (iv := mi_Ro_readPart) rfl rfl rfl mw_863 mw_865 sl_18 mw_10 mw_866 ⟨by decide +kernel, by decide +kernel, by decide +kernel⟩ (by decide) d_Ro_readPart_53)) (os_n (os_l (so_aload_n d_Ro_readPart_56 rfl)) (os_l (so_bipush d_Ro_readPart_57 (by decide))))))) (os_n (os_n (os_n (os_l (so_callV (iv := mi_Ro_put) rfl rfl rfl mw_869 mw_871 sl_19 mw_10 mw_872 ⟨by decide +kernel, by decide +kernel, by decide +kernel⟩ (by decide) d_Ro_readPart_59)) (os_l (so_goto d_Ro_readPart_62 (by decide)))) (os_n (os_l (so_aload_n d_Ro_readPart_65 rfl)) (os_n (os_l (so_callV (iv := mi_Ro_readOr) rfl rfl rfl mw_855 mw_857 sl_16 mw_10 mw_858 ⟨by decide +kernel, by decide +kernel, by decide +kernel⟩ (by decide) d_Ro_readPart_66)) (os_l (so_aload_n d_Ro_readPart_69 rfl))))) (os_n (os_n (os_l (so_ldcS (k := 10) (idx := 0) (q := ("BreweryHouse$Rows", 162, ")")) (by decide +kernel) rfl d_Ro_readPart_70)) (os_n (os_l (so_callV (iv := mi_Ro_takes) rfl rfl rfl mw_835 mw_837 sl_12 mw_10 mw_838 ⟨by decide +kernel, by decide +kernel, by decide +kernel⟩ (by decide) d_Ro_readPart_72)) (os_l (so_pop d_Ro_readPart_75)))) (os_n (os_l (so_aload_n d_Ro_readPart_76 rfl)) (os_n (os_l (so_dup d_Ro_readPart_77)) (os_l (so_get (C := R_Ro) (T := F_Ro) (N := 18) (j := 15) in_Ro rfl (by decide) mw_349 d_Ro_readPart_78)))))))) (os_n (os_n (os_n (os_n (os_n (os_l (so_iconst d_Ro_readPart_81 (by decide))) (os_l (so_isub d_Ro_readPart_82))) (os_n (os_l (so_putI (C := R_Ro) (T := F_Ro) (N := 18) (j := 15) in_Ro t_Ro_ok n_Ro rfl (by decide) mw_349 rfl (by decide +kernel) d_Ro_readPart_83)) (os_n (os_l (so_return rfl d_Ro_readPart_86)) (os_l (so_aload_n d_Ro_readPart_87 rfl))))) (os_n (os_n (os_l (so_get (C := R_Ro) (T := F_Ro) (N := 18) (j := 11) in_Ro rfl (by decide) mw_345 d_Ro_readPart_88)) (os_l (so_aload_n d_Ro_readPart_91 rfl))) (os_n (os_l (so_get (C := R_Ro) (T := F_Ro) (N := 18) (j := 12) in_Ro rfl (by decide) mw_346 d_Ro_readPart_92)) (os_n (os_l (so_callV (iv := mi_Tp_at) rfl rfl rfl mw_819 mw_754 mw_755 mw_2 mw_756 ⟨by decide +kernel, by decide +kernel, by decide +kernel⟩ (by decide) d_Ro_readPart_95)) (os_l (so_bipush d_Ro_readPart_98 (by decide))))))) (os_n (os_n (os_n (os_l (so_icne d_Ro_readPart_100 (by decide))) (os_l (so_aload_n d_Ro_readPart_103 rfl))) (os_n (os_l (so_iconst d_Ro_readPart_104 (by decide))) (os_n (os_l (so_bipush d_Ro_readPart_105 (by decide))) (os_l (so_callV (iv := mi_Ro_numberBehind) rfl rfl rfl mw_850 mw_852 sl_15 mw_10 mw_853 ⟨by decide +kernel, by decide +kernel, by decide +kernel⟩ (by decide) d_Ro_readPart_107))))) (os_n (os_n (os_l (so_goto d_Ro_readPart_110 (by decide))) (os_n (os_l (so_iconst d_Ro_readPart_113 (by decide))) (os_l (so_istore_n d_Ro_readPart_114 rfl (by decide))))) (os_n (os_l (so_aload_n d_Ro_readPart_115 rfl)) (os_n (os_l (so_get (C := R_Ro) (T := F_Ro) (N := 18) (j := 17) in_Ro rfl (by decide) mw_351 d_Ro_readPart_116)) (os_l (so_ifge d_Ro_readPart_119 (by decide)))))))) (os_n (os_n (os_n (os_n (os_l (so_iload_n d_Ro_readPart_122 rfl)) (os_l (so_iflt d_Ro_readPart_123 (by decide)))) (os_n (os_l (so_aload_n d_Ro_readPart_126 rfl)) (os_n (os_l (so_get (C := R_Ro) (T := F_Ro) (N := 18) (j := 16) in_Ro rfl (by decide) mw_350 d_Ro_readPart_127)) (os_l (so_bipush d_Ro_readPart_130 (by decide)))))) (os_n (os_n (os_l (so_iclt d_Ro_readPart_132 (by decide))) (os_l (so_aload_n d_Ro_readPart_135 rfl))) (os_n (os_l (so_callV (iv := mi_Ro_fail) rfl rfl rfl mw_830 mw_832 sl_11 mw_10 mw_833 ⟨by decide +kernel, by decide +kernel, by decide +kernel⟩ (by decide) d_Ro_readPart_136)) (os_n (os_l (so_return rfl d_Ro_readPart_139)) (os_l (so_aload_n d_Ro_readPart_140 rfl)))))) (os_n (os_n (os_n (os_l (so_dup d_Ro_readPart_141)) (os_l (so_get (C := R_Ro) (T := F_Ro) (N := 18) (j := 16) in_Ro rfl (by decide) mw_350 d_Ro_readPart_142))) (os_n (os_l (so_iconst d_Ro_readPart_145 (by decide))) (os_n (os_l (so_iadd d_Ro_readPart_146)) (os_l (so_putI (C := R_Ro) (T := F_Ro) (N := 18) (j := 16) in_Ro t_Ro_ok n_Ro rfl (by decide) mw_350 rfl (by decide +kernel) d_Ro_readPart_147))))) (os_n (os_n (os_l (so_aload_n d_Ro_readPart_150 rfl)) (os_n (os_l (so_iload_n d_Ro_readPart_151 rfl)) (os_l (so_callV (iv := mi_Ro_put) rfl rfl rfl mw_869 mw_871 sl_19 mw_10 mw_872 ⟨by decide +kernel, by decide +kernel, by decide +kernel⟩ (by decide) d_Ro_readPart_152)))) (os_n (os_l (so_aload_n d_Ro_readPart_155 rfl)) (os_n (os_l (so_callV (iv := mi_Ro_nextWord) rfl rfl rfl mw_815 mw_817 sl_9 mw_10 mw_818 ⟨by decide +kernel, by decide +kernel, by decide +kernel⟩ (by decide) d_Ro_readPart_156)) (os_l (so_return rfl d_Ro_readPart_159)))))))))
