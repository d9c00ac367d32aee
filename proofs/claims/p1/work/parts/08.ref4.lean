abbrev b_Mo_tick : ByteArray := prog_14_method_83_code
def y_Mo_tick : MethodName := ⟨R_Mo, "tick", "(I)I"⟩
abbrev w_Mo_tick : List Cond := .code y_Mo_tick b_Mo_tick 5 (some .int) :: lw_gd
abbrev b_Mo_feed : ByteArray := prog_14_method_2_code
def y_Mo_feed : MethodName := ⟨R_Mo, "feed", "(IIIII)I"⟩
abbrev w_Mo_feed : List Cond := .code y_Mo_feed b_Mo_feed 8 (some .int) :: lw_gd
theorem mw_1794 : (.fieldLink "BreweryHouseModel" 9 "BreweryHouseModel" "tape" "[B" : Cond) ∈ lw_gd := tb_mem (i := 1794) (by decide +kernel) (by decide +kernel)
theorem mw_1795 : (.fieldLink "BreweryHouseModel" 212 "BreweryHouseModel" "taped" "I" : Cond) ∈ lw_gd := tb_mem (i := 1795) (by decide +kernel) (by decide +kernel)
theorem mw_2603 : (.methodLink "BreweryHouseModel" 560 y_Mo_senseAll : Cond) ∈ lw_gd := tb_mem (i := 2603) (by decide +kernel) (by decide +kernel)
theorem mw_2605 : (.instanceMethod y_Mo_senseAll : Cond) ∈ lw_gd := tb_mem (i := 2605) (by decide +kernel) (by decide +kernel)
theorem mw_2606 : (.code y_Mo_senseAll b_Mo_senseAll 5 none : Cond) ∈ lw_gd := tb_mem (i := 2606) (by decide +kernel) (by decide +kernel)
theorem mw_2613 : (.methodLink "BreweryHouseModel" 563 y_Mr_tick : Cond) ∈ lw_gd := tb_mem (i := 2613) (by decide +kernel) (by decide +kernel)
theorem mw_2614 : (.instanceMethod y_Mr_tick : Cond) ∈ lw_gd := tb_mem (i := 2614) (by decide +kernel) (by decide +kernel)
theorem mw_2615 : (.selects "BreweryHouseModel$Rows" y_Mr_tick y_Mr_tick : Cond) ∈ lw_gd := tb_mem (i := 2615) (by decide +kernel) (by decide +kernel)
theorem mw_2616 : (.code y_Mr_tick b_Mr_tick 4 (some .boolean) : Cond) ∈ lw_gd := tb_mem (i := 2616) (by decide +kernel) (by decide +kernel)
theorem sl_180 : (.selects "BreweryHouseModel" y_Mo_senseAll y_Mo_senseAll : Cond) ∈ lw_gd := List.mem_filter.mpr ⟨List.mem_append_left _ (List.mem_of_getElem? (i := 180) (by decide +kernel)), by decide +kernel⟩
abbrev t_Mo_tick_108 : List UInt8 := 172 :: []
abbrev t_Mo_tick_105 : List UInt8 := 180 :: 0 :: 162 :: t_Mo_tick_108
abbrev t_Mo_tick_104 : List UInt8 := 42 :: t_Mo_tick_105
abbrev t_Mo_tick_101 : List UInt8 := 167 :: 255 :: 170 :: t_Mo_tick_104
abbrev t_Mo_tick_98 : List UInt8 := 132 :: 2 :: 1 :: t_Mo_tick_101
abbrev t_Mo_tick_95 : List UInt8 := 181 :: 1 :: 70 :: t_Mo_tick_98
abbrev t_Mo_tick_94 : List UInt8 := 96 :: t_Mo_tick_95
abbrev t_Mo_tick_93 : List UInt8 := 4 :: t_Mo_tick_94
abbrev t_Mo_tick_90 : List UInt8 := 180 :: 1 :: 70 :: t_Mo_tick_93
abbrev t_Mo_tick_89 : List UInt8 := 89 :: t_Mo_tick_90
abbrev t_Mo_tick_88 : List UInt8 := 42 :: t_Mo_tick_89
abbrev t_Mo_tick_85 : List UInt8 := 167 :: 255 :: 238 :: t_Mo_tick_88
abbrev t_Mo_tick_82 : List UInt8 := 132 :: 4 :: 1 :: t_Mo_tick_85
abbrev t_Mo_tick_79 : List UInt8 := 182 :: 2 :: 57 :: t_Mo_tick_82
abbrev t_Mo_tick_77 : List UInt8 := 21 :: 4 :: t_Mo_tick_79
abbrev t_Mo_tick_76 : List UInt8 := 42 :: t_Mo_tick_77
abbrev t_Mo_tick_73 : List UInt8 := 162 :: 0 :: 15 :: t_Mo_tick_76
abbrev t_Mo_tick_70 : List UInt8 := 180 :: 1 :: 28 :: t_Mo_tick_73
abbrev t_Mo_tick_69 : List UInt8 := 42 :: t_Mo_tick_70
abbrev t_Mo_tick_67 : List UInt8 := 21 :: 4 :: t_Mo_tick_69
abbrev t_Mo_tick_65 : List UInt8 := 54 :: 4 :: t_Mo_tick_67
abbrev t_Mo_tick_64 : List UInt8 := 3 :: t_Mo_tick_65
abbrev t_Mo_tick_61 : List UInt8 := 182 :: 0 :: 231 :: t_Mo_tick_64
abbrev t_Mo_tick_60 : List UInt8 := 42 :: t_Mo_tick_61
abbrev t_Mo_tick_57 : List UInt8 := 160 :: 0 :: 7 :: t_Mo_tick_60
abbrev t_Mo_tick_56 : List UInt8 := 6 :: t_Mo_tick_57
abbrev t_Mo_tick_53 : List UInt8 := 180 :: 0 :: 162 :: t_Mo_tick_56
abbrev t_Mo_tick_52 : List UInt8 := 42 :: t_Mo_tick_53
abbrev t_Mo_tick_49 : List UInt8 := 159 :: 0 :: 11 :: t_Mo_tick_52
abbrev t_Mo_tick_48 : List UInt8 := 5 :: t_Mo_tick_49
abbrev t_Mo_tick_45 : List UInt8 := 180 :: 0 :: 162 :: t_Mo_tick_48
abbrev t_Mo_tick_44 : List UInt8 := 42 :: t_Mo_tick_45
abbrev t_Mo_tick_41 : List UInt8 := 182 :: 2 :: 54 :: t_Mo_tick_44
abbrev t_Mo_tick_40 : List UInt8 := 42 :: t_Mo_tick_41
abbrev t_Mo_tick_37 : List UInt8 := 154 :: 0 :: 27 :: t_Mo_tick_40
abbrev t_Mo_tick_34 : List UInt8 := 180 :: 0 :: 162 :: t_Mo_tick_37
abbrev t_Mo_tick_33 : List UInt8 := 42 :: t_Mo_tick_34
abbrev t_Mo_tick_32 : List UInt8 := 62 :: t_Mo_tick_33
abbrev t_Mo_tick_29 : List UInt8 := 182 :: 2 :: 51 :: t_Mo_tick_32
abbrev t_Mo_tick_28 : List UInt8 := 4 :: t_Mo_tick_29
abbrev t_Mo_tick_25 : List UInt8 := 180 :: 0 :: 23 :: t_Mo_tick_28
abbrev t_Mo_tick_24 : List UInt8 := 42 :: t_Mo_tick_25
abbrev t_Mo_tick_21 : List UInt8 := 182 :: 2 :: 48 :: t_Mo_tick_24
abbrev t_Mo_tick_20 : List UInt8 := 42 :: t_Mo_tick_21
abbrev t_Mo_tick_17 : List UInt8 := 162 :: 0 :: 87 :: t_Mo_tick_20
abbrev t_Mo_tick_16 : List UInt8 := 27 :: t_Mo_tick_17
abbrev t_Mo_tick_15 : List UInt8 := 28 :: t_Mo_tick_16
abbrev t_Mo_tick_14 : List UInt8 := 61 :: t_Mo_tick_15
abbrev t_Mo_tick_13 : List UInt8 := 3 :: t_Mo_tick_14
abbrev t_Mo_tick_12 : List UInt8 := 172 :: t_Mo_tick_13
abbrev t_Mo_tick_11 : List UInt8 := 2 :: t_Mo_tick_12
abbrev t_Mo_tick_8 : List UInt8 := 164 :: 0 :: 5 :: t_Mo_tick_11
abbrev t_Mo_tick_5 : List UInt8 := 17 :: 2 :: 88 :: t_Mo_tick_8
abbrev t_Mo_tick_4 : List UInt8 := 27 :: t_Mo_tick_5
abbrev t_Mo_tick_1 : List UInt8 := 155 :: 0 :: 10 :: t_Mo_tick_4
abbrev t_Mo_tick_0 : List UInt8 := 27 :: t_Mo_tick_1
theorem a_Mo_tick_0 : dk_at b_Mo_tick 0 t_Mo_tick_0 := dk_start (by decide +kernel)
theorem a_Mo_tick_1 : dk_at b_Mo_tick 1 t_Mo_tick_1 := dk_go 1 a_Mo_tick_0 rfl
theorem a_Mo_tick_4 : dk_at b_Mo_tick 4 t_Mo_tick_4 := dk_go 3 a_Mo_tick_1 rfl
theorem a_Mo_tick_5 : dk_at b_Mo_tick 5 t_Mo_tick_5 := dk_go 1 a_Mo_tick_4 rfl
theorem a_Mo_tick_8 : dk_at b_Mo_tick 8 t_Mo_tick_8 := dk_go 3 a_Mo_tick_5 rfl
theorem a_Mo_tick_11 : dk_at b_Mo_tick 11 t_Mo_tick_11 := dk_go 3 a_Mo_tick_8 rfl
theorem a_Mo_tick_12 : dk_at b_Mo_tick 12 t_Mo_tick_12 := dk_go 1 a_Mo_tick_11 rfl
theorem a_Mo_tick_13 : dk_at b_Mo_tick 13 t_Mo_tick_13 := dk_go 1 a_Mo_tick_12 rfl
theorem a_Mo_tick_14 : dk_at b_Mo_tick 14 t_Mo_tick_14 := dk_go 1 a_Mo_tick_13 rfl
theorem a_Mo_tick_15 : dk_at b_Mo_tick 15 t_Mo_tick_15 := dk_go 1 a_Mo_tick_14 rfl
theorem a_Mo_tick_16 : dk_at b_Mo_tick 16 t_Mo_tick_16 := dk_go 1 a_Mo_tick_15 rfl
theorem a_Mo_tick_17 : dk_at b_Mo_tick 17 t_Mo_tick_17 := dk_go 1 a_Mo_tick_16 rfl
theorem a_Mo_tick_20 : dk_at b_Mo_tick 20 t_Mo_tick_20 := dk_go 3 a_Mo_tick_17 rfl
theorem a_Mo_tick_21 : dk_at b_Mo_tick 21 t_Mo_tick_21 := dk_go 1 a_Mo_tick_20 rfl
theorem a_Mo_tick_24 : dk_at b_Mo_tick 24 t_Mo_tick_24 := dk_go 3 a_Mo_tick_21 rfl
theorem a_Mo_tick_25 : dk_at b_Mo_tick 25 t_Mo_tick_25 := dk_go 1 a_Mo_tick_24 rfl
theorem a_Mo_tick_28 : dk_at b_Mo_tick 28 t_Mo_tick_28 := dk_go 3 a_Mo_tick_25 rfl
theorem a_Mo_tick_29 : dk_at b_Mo_tick 29 t_Mo_tick_29 := dk_go 1 a_Mo_tick_28 rfl
theorem a_Mo_tick_32 : dk_at b_Mo_tick 32 t_Mo_tick_32 := dk_go 3 a_Mo_tick_29 rfl
theorem a_Mo_tick_33 : dk_at b_Mo_tick 33 t_Mo_tick_33 := dk_go 1 a_Mo_tick_32 rfl
theorem a_Mo_tick_34 : dk_at b_Mo_tick 34 t_Mo_tick_34 := dk_go 1 a_Mo_tick_33 rfl
theorem a_Mo_tick_37 : dk_at b_Mo_tick 37 t_Mo_tick_37 := dk_go 3 a_Mo_tick_34 rfl
theorem a_Mo_tick_40 : dk_at b_Mo_tick 40 t_Mo_tick_40 := dk_go 3 a_Mo_tick_37 rfl
theorem a_Mo_tick_41 : dk_at b_Mo_tick 41 t_Mo_tick_41 := dk_go 1 a_Mo_tick_40 rfl
theorem a_Mo_tick_44 : dk_at b_Mo_tick 44 t_Mo_tick_44 := dk_go 3 a_Mo_tick_41 rfl
theorem a_Mo_tick_45 : dk_at b_Mo_tick 45 t_Mo_tick_45 := dk_go 1 a_Mo_tick_44 rfl
theorem a_Mo_tick_48 : dk_at b_Mo_tick 48 t_Mo_tick_48 := dk_go 3 a_Mo_tick_45 rfl
theorem a_Mo_tick_49 : dk_at b_Mo_tick 49 t_Mo_tick_49 := dk_go 1 a_Mo_tick_48 rfl
theorem a_Mo_tick_52 : dk_at b_Mo_tick 52 t_Mo_tick_52 := dk_go 3 a_Mo_tick_49 rfl
theorem a_Mo_tick_53 : dk_at b_Mo_tick 53 t_Mo_tick_53 := dk_go 1 a_Mo_tick_52 rfl
theorem a_Mo_tick_56 : dk_at b_Mo_tick 56 t_Mo_tick_56 := dk_go 3 a_Mo_tick_53 rfl
theorem a_Mo_tick_57 : dk_at b_Mo_tick 57 t_Mo_tick_57 := dk_go 1 a_Mo_tick_56 rfl
theorem a_Mo_tick_60 : dk_at b_Mo_tick 60 t_Mo_tick_60 := dk_go 3 a_Mo_tick_57 rfl
theorem a_Mo_tick_61 : dk_at b_Mo_tick 61 t_Mo_tick_61 := dk_go 1 a_Mo_tick_60 rfl
theorem a_Mo_tick_64 : dk_at b_Mo_tick 64 t_Mo_tick_64 := dk_go 3 a_Mo_tick_61 rfl
theorem a_Mo_tick_65 : dk_at b_Mo_tick 65 t_Mo_tick_65 := dk_go 1 a_Mo_tick_64 rfl
theorem a_Mo_tick_67 : dk_at b_Mo_tick 67 t_Mo_tick_67 := dk_go 2 a_Mo_tick_65 rfl
theorem a_Mo_tick_69 : dk_at b_Mo_tick 69 t_Mo_tick_69 := dk_go 2 a_Mo_tick_67 rfl
theorem a_Mo_tick_70 : dk_at b_Mo_tick 70 t_Mo_tick_70 := dk_go 1 a_Mo_tick_69 rfl
theorem a_Mo_tick_73 : dk_at b_Mo_tick 73 t_Mo_tick_73 := dk_go 3 a_Mo_tick_70 rfl
theorem a_Mo_tick_76 : dk_at b_Mo_tick 76 t_Mo_tick_76 := dk_go 3 a_Mo_tick_73 rfl
theorem a_Mo_tick_77 : dk_at b_Mo_tick 77 t_Mo_tick_77 := dk_go 1 a_Mo_tick_76 rfl
theorem a_Mo_tick_79 : dk_at b_Mo_tick 79 t_Mo_tick_79 := dk_go 2 a_Mo_tick_77 rfl
theorem a_Mo_tick_82 : dk_at b_Mo_tick 82 t_Mo_tick_82 := dk_go 3 a_Mo_tick_79 rfl
theorem a_Mo_tick_85 : dk_at b_Mo_tick 85 t_Mo_tick_85 := dk_go 3 a_Mo_tick_82 rfl
theorem a_Mo_tick_88 : dk_at b_Mo_tick 88 t_Mo_tick_88 := dk_go 3 a_Mo_tick_85 rfl
theorem a_Mo_tick_89 : dk_at b_Mo_tick 89 t_Mo_tick_89 := dk_go 1 a_Mo_tick_88 rfl
theorem a_Mo_tick_90 : dk_at b_Mo_tick 90 t_Mo_tick_90 := dk_go 1 a_Mo_tick_89 rfl
theorem a_Mo_tick_93 : dk_at b_Mo_tick 93 t_Mo_tick_93 := dk_go 3 a_Mo_tick_90 rfl
theorem a_Mo_tick_94 : dk_at b_Mo_tick 94 t_Mo_tick_94 := dk_go 1 a_Mo_tick_93 rfl
theorem a_Mo_tick_95 : dk_at b_Mo_tick 95 t_Mo_tick_95 := dk_go 1 a_Mo_tick_94 rfl
theorem a_Mo_tick_98 : dk_at b_Mo_tick 98 t_Mo_tick_98 := dk_go 3 a_Mo_tick_95 rfl
theorem a_Mo_tick_101 : dk_at b_Mo_tick 101 t_Mo_tick_101 := dk_go 3 a_Mo_tick_98 rfl
theorem a_Mo_tick_104 : dk_at b_Mo_tick 104 t_Mo_tick_104 := dk_go 3 a_Mo_tick_101 rfl
theorem a_Mo_tick_105 : dk_at b_Mo_tick 105 t_Mo_tick_105 := dk_go 1 a_Mo_tick_104 rfl
theorem a_Mo_tick_108 : dk_at b_Mo_tick 108 t_Mo_tick_108 := dk_go 3 a_Mo_tick_105 rfl
theorem d_Mo_tick_0 : decode b_Mo_tick 0 = .ok (.iload_n 1, 1) := dk_0 a_Mo_tick_0 (dko_27 _)
theorem d_Mo_tick_1 : decode b_Mo_tick 1 = .ok (.ifCond .lt 10, 3) := dk_S2 a_Mo_tick_1 (dko_155 _) (by decide +kernel)
theorem d_Mo_tick_4 : decode b_Mo_tick 4 = .ok (.iload_n 1, 1) := dk_0 a_Mo_tick_4 (dko_27 _)
theorem d_Mo_tick_5 : decode b_Mo_tick 5 = .ok (.sipush 600, 3) := dk_S2 a_Mo_tick_5 (dko_17 _) (by decide +kernel)
theorem d_Mo_tick_8 : decode b_Mo_tick 8 = .ok (.if_icmp .le 5, 3) := dk_S2 a_Mo_tick_8 (dko_164 _) (by decide +kernel)
theorem d_Mo_tick_11 : decode b_Mo_tick 11 = .ok (.iconst (-1), 1) := dk_0 a_Mo_tick_11 (dko_2 _)
theorem d_Mo_tick_12 : decode b_Mo_tick 12 = .ok (.ireturn, 1) := dk_0 a_Mo_tick_12 (dko_172 _)
theorem d_Mo_tick_13 : decode b_Mo_tick 13 = .ok (.iconst 0, 1) := dk_0 a_Mo_tick_13 (dko_3 _)
theorem d_Mo_tick_14 : decode b_Mo_tick 14 = .ok (.istore_n 2, 1) := dk_0 a_Mo_tick_14 (dko_61 _)
theorem d_Mo_tick_15 : decode b_Mo_tick 15 = .ok (.iload_n 2, 1) := dk_0 a_Mo_tick_15 (dko_28 _)
theorem d_Mo_tick_16 : decode b_Mo_tick 16 = .ok (.iload_n 1, 1) := dk_0 a_Mo_tick_16 (dko_27 _)
theorem d_Mo_tick_17 : decode b_Mo_tick 17 = .ok (.if_icmp .ge 87, 3) := dk_S2 a_Mo_tick_17 (dko_162 _) (by decide +kernel)
theorem d_Mo_tick_20 : decode b_Mo_tick 20 = .ok (.aload_n 0, 1) := dk_0 a_Mo_tick_20 (dko_42 _)
theorem d_Mo_tick_21 : decode b_Mo_tick 21 = .ok (.invokevirtual 560, 3) := dk_U2 a_Mo_tick_21 (dko_182 _) rfl
theorem d_Mo_tick_24 : decode b_Mo_tick 24 = .ok (.aload_n 0, 1) := dk_0 a_Mo_tick_24 (dko_42 _)
theorem d_Mo_tick_25 : decode b_Mo_tick 25 = .ok (.getfield 23, 3) := dk_U2 a_Mo_tick_25 (dko_180 _) rfl
theorem d_Mo_tick_28 : decode b_Mo_tick 28 = .ok (.iconst 1, 1) := dk_0 a_Mo_tick_28 (dko_4 _)
theorem d_Mo_tick_29 : decode b_Mo_tick 29 = .ok (.invokevirtual 563, 3) := dk_U2 a_Mo_tick_29 (dko_182 _) rfl
theorem d_Mo_tick_32 : decode b_Mo_tick 32 = .ok (.istore_n 3, 1) := dk_0 a_Mo_tick_32 (dko_62 _)
theorem d_Mo_tick_33 : decode b_Mo_tick 33 = .ok (.aload_n 0, 1) := dk_0 a_Mo_tick_33 (dko_42 _)
theorem d_Mo_tick_34 : decode b_Mo_tick 34 = .ok (.getfield 162, 3) := dk_U2 a_Mo_tick_34 (dko_180 _) rfl
theorem d_Mo_tick_37 : decode b_Mo_tick 37 = .ok (.ifCond .ne 27, 3) := dk_S2 a_Mo_tick_37 (dko_154 _) (by decide +kernel)
theorem d_Mo_tick_64 : decode b_Mo_tick 64 = .ok (.iconst 0, 1) := dk_0 a_Mo_tick_64 (dko_3 _)
theorem d_Mo_tick_65 : decode b_Mo_tick 65 = .ok (.istore 4, 2) := dk_U1 a_Mo_tick_65 (dko_54 _) rfl
theorem d_Mo_tick_67 : decode b_Mo_tick 67 = .ok (.iload 4, 2) := dk_U1 a_Mo_tick_67 (dko_21 _) rfl
theorem d_Mo_tick_69 : decode b_Mo_tick 69 = .ok (.aload_n 0, 1) := dk_0 a_Mo_tick_69 (dko_42 _)
theorem d_Mo_tick_70 : decode b_Mo_tick 70 = .ok (.getfield 284, 3) := dk_U2 a_Mo_tick_70 (dko_180 _) rfl
theorem d_Mo_tick_73 : decode b_Mo_tick 73 = .ok (.if_icmp .ge 15, 3) := dk_S2 a_Mo_tick_73 (dko_162 _) (by decide +kernel)
theorem d_Mo_tick_88 : decode b_Mo_tick 88 = .ok (.aload_n 0, 1) := dk_0 a_Mo_tick_88 (dko_42 _)
theorem d_Mo_tick_89 : decode b_Mo_tick 89 = .ok (.dup, 1) := dk_0 a_Mo_tick_89 (dko_89 _)
theorem d_Mo_tick_90 : decode b_Mo_tick 90 = .ok (.getfield 326, 3) := dk_U2 a_Mo_tick_90 (dko_180 _) rfl
theorem d_Mo_tick_93 : decode b_Mo_tick 93 = .ok (.iconst 1, 1) := dk_0 a_Mo_tick_93 (dko_4 _)
theorem d_Mo_tick_94 : decode b_Mo_tick 94 = .ok (.iadd, 1) := dk_0 a_Mo_tick_94 (dko_96 _)
theorem d_Mo_tick_95 : decode b_Mo_tick 95 = .ok (.putfield 326, 3) := dk_U2 a_Mo_tick_95 (dko_181 _) rfl
theorem d_Mo_tick_98 : decode b_Mo_tick 98 = .ok (.iinc 2 1, 3) := dk_US a_Mo_tick_98 (dko_132 _) (by decide +kernel)
theorem d_Mo_tick_101 : decode b_Mo_tick 101 = .ok (.goto (-86), 3) := dk_S2 a_Mo_tick_101 (dko_167 _) (by decide +kernel)
theorem d_Mo_tick_104 : decode b_Mo_tick 104 = .ok (.aload_n 0, 1) := dk_0 a_Mo_tick_104 (dko_42 _)
theorem d_Mo_tick_105 : decode b_Mo_tick 105 = .ok (.getfield 162, 3) := dk_U2 a_Mo_tick_105 (dko_180 _) rfl
theorem d_Mo_tick_108 : decode b_Mo_tick 108 = .ok (.ireturn, 1) := dk_0 a_Mo_tick_108 (dko_172 _)
def fn_Mo_tick (se : Int32) : Int32 := (if se < 0 then (-1) else (if se ≤ 600 then 4 else (-1)))
set_option maxHeartbeats 4000000 in
set_option maxRecDepth 100000 in
theorem c_Mo_tick (l : Launch) (dC : Nat → ClassId) (dI : Nat → Nat → Nat) (cI cB cZ cJ : ClassId) (se : Int32) (oM : Nat) (oT : Nat) (am_watchWhat : Nat) (oR : Nat) (fm : List Value) (hm_program : fx fm 2 (.ref oT)) (hm_interlocks : fx fm 3 (.ref oR)) (hm_ways : fx fm 26 (.int 0)) (hm_watchWhat : fx fm 55 (.ref am_watchWhat)) (hm_state : fx fm 59 (.int 4)) (hm_now : fx fm 78 (.int 0)) (ft : List Value) (ht_nameCount : fx ft 32 (.int 0)) (fr : List Value) (hr_rows : fx fr 20 (.int 0)) (sz : Nat) : Met l y_Mo_tick w_Mo_tick ({ frames := 1, cells := 0, slots := 0, locals := 24 }) (va_Pc [.ref oM, .int se] (PW dC dI cI cB cZ cJ [(oM, .inr (12, fm)), (oT, .inr (13, ft)), (am_watchWhat, .inl (cI, 16, .inl ((fun _ => (-1))))), (oR, .inr (14, fr))] sz)) (va_Qi (fun (r : Int32) (_ : Unit) => r = fn_Mo_tick se) (fun _ _ => True) (va_A [(oM, .inr (12, fm)), (oT, .inr (13, ft)), (am_watchWhat, .inl (cI, 16, .inl ((fun _ => (-1))))), (oR, .inr (14, fr))] sz)) 0 0 (va_A [(oM, .inr (12, fm)), (oT, .inr (13, ft)), (am_watchWhat, .inl (cI, 16, .inl ((fun _ => (-1))))), (oR, .inr (14, fr))] sz) := by
  refine Met.ofW (cc := b_Mo_tick) (maxL := 5) (ret := (some .int)) (by decide) rfl ?_
  intro p e s m args below meth c s₁ B hml hv
  obtain ⟨rfl, hsz, hP, hK, hD⟩ := hv
  have hx := B.exec
  have hb := B.bytes
  have hr := B.returns
  have hts := atoms_spec (ws := w_Mo_tick) B.pre
  have hown : s.vm.findClass R_Mo = some m.cls := findClass_of_methodNamed B.named
  have hlocks := B.notSynchronized
  subst hsz
  have hD := hD.self (sz := s.heap.size)
  generalize hAe : va_A [(oM, .inr (12, fm)), (oT, .inr (13, ft)), (am_watchWhat, .inl (cI, 16, .inl ((fun _ => (-1))))), (oR, .inr (14, fr))] s.heap.size = A at hD ⊢
  have hA : ∀ q : Nat, s.heap.size ≤ q → A q := fun q h => by rw [← hAe]; exact Or.inr h
  have hS : va_S A s.heap s.heap [] := va_S.rf
  have hP : va_P (dC, dI) classes [(oM, .inr (12, fm)), (oT, .inr (13, ft)), (am_watchWhat, .inl (cI, 16, .inl ((fun _ => (-1))))), (oR, .inr (14, fr))] s.heap := hP
  have hl := lv_entry ([.ref oM, .int se]) (n := 5) (Nat.le_of_ble_eq_true rfl)
  rw [lg_entry_eq]
  generalize (lg_sl ([.ref oM, .int se]) ++ List.replicate (5 - (lg_sl ([.ref oM, .int se])).length) Slot.unset).toArray = ls at hl ⊢
  have hl : lv_has ls 5 [(0, .ref oM), (1, .int se)] := hl
  refine lv_iload_n hx hb d_Mo_tick_0 rfl (lv_at hl 1 rfl) ?_
  refine lv_if_lt (tgt := 11) hx hb d_Mo_tick_1 (by decide) (fun h1 => ?_) (fun h1 => ?_)
  · refine lv_iconst (v := (-1)) hx hb d_Mo_tick_11 (by decide) ?_
    exact W.iret (v := (-1)) hx hb hr (fun t ht hW => ⟨⟨_, (), rfl, (by unfold fn_Mo_tick; rw [if_pos h1]), trivial⟩, hS.F ht⟩) hS.2.2 d_Mo_tick_12
  · refine lv_iload_n hx hb d_Mo_tick_4 rfl (lv_at hl 1 rfl) ?_
    refine lv_sipush (v := 600) hx hb d_Mo_tick_5 (by decide) ?_
    refine lv_icmp_le (tgt := 13) hx hb d_Mo_tick_8 (by decide) (fun h8 => ?_) (fun h8 => ?_)
    · refine lv_iconst (v := 0) hx hb d_Mo_tick_13 (by decide) ?_
      refine lv_istore_n hx hb d_Mo_tick_14 rfl hl (by decide) rfl (fun ls hl => ?_)
      have hl : lv_has ls 5 [(2, .int 0), (0, .ref oM), (1, .int se)] := hl
      obtain ⟨n, hn, hse⟩ := nI_of2 (M := 600) (n := 600) (by decide) h1 (Int32.not_lt.mp (Int32.not_lt.mpr h8))
      have hl : lv_has ls 5 [(2, .int 0), (0, .ref oM), (1, .int (nI n))] := hse ▸ hl
      have hl : lv_has ls 5 [(2, .int (nI 0)), (0, .ref oM), (1, .int (nI n))] := lv_sub hl [0, 1, 2] rfl
      refine lp_ind (σ := List Value) (fun i xs H locs ls => fx xs 2 (.ref oT) ∧ fx xs 3 (.ref oR) ∧ fx xs 26 (.int 0) ∧ fx xs 55 (.ref am_watchWhat) ∧ fx xs 59 (.int 4) ∧ (∃ v : Int32, fx xs 78 (.int v)) ∧ va_P (dC, dI) classes [(oM, .inr (12, xs)), (oT, .inr (13, ft)), (am_watchWhat, .inl (cI, 16, .inl ((fun _ => (-1))))), (oR, .inr (14, fr))] H ∧ va_D A [(oM, .inr (12, xs)), (oT, .inr (13, ft)), (am_watchWhat, .inl (cI, 16, .inl ((fun _ => (-1))))), (oR, .inr (14, fr))] ∧ va_S A s.heap H locs ∧ lv_has ls 5 [(2, .int (nI i)), (0, .ref oM), (1, .int (nI n))]) 15 n ?_ ?_ 0 fm _ _ _ (Nat.zero_le _) ⟨hm_program, hm_interlocks, hm_ways, hm_watchWhat, hm_state, ⟨_, hm_now⟩, hP, hD, hS, hl⟩
      · intro i xs H locs ls hi hI hk
        obtain ⟨y_2, y_3, y_26, y_55, y_59, ⟨v_78, y_78⟩, hP, hD, hS, hl⟩ := hI
        refine lv_iload_n hx hb d_Mo_tick_15 rfl (lv_at hl 0 rfl) ?_
        refine lv_iload_n hx hb d_Mo_tick_16 rfl (lv_at hl 2 rfl) ?_
        refine lv_icmp_ge (tgt := 104) hx hb d_Mo_tick_17 (by decide) (fun h => absurd h (nI_ge hi (by omega))) (fun _ => ?_)
        refine lv_aload_n hx hb d_Mo_tick_20 rfl (lv_at hl 1 rfl) ?_
        have hPc := hP.sub (ws' := [(oM, .inr (12, xs)), (oT, .inr (13, ft)), (am_watchWhat, .inl (cI, 16, .inl ((fun _ => (-1)))))]) [0, 1, 2] rfl
        have hDc := hD.sub (ws' := [(oM, .inr (12, xs)), (oT, .inr (13, ft)), (am_watchWhat, .inl (cI, 16, .inl ((fun _ => (-1)))))]) [0, 1, 2] (by decide) rfl
        have hFc := pu_free hS hA
        refine va_callv (va_runV (C := R_Mo) (As := []) (rest := []) ⟨hx, hb, hml, hown, hts⟩ (c_Mo_senseAll l dC dI cI cB cZ cJ oM oT am_watchWhat xs y_2 y_55 ft ht_nameCount H.size) (cwV 0 hts (tb_V mw_2603 mw_2605 sl_180 mw_18 mw_2606) rfl rfl rfl ⟨rfl, by decide +kernel, by decide +kernel, by decide +kernel⟩ ⟨(Nat.le_of_ble_eq_true rfl), (Nat.le_of_ble_eq_true rfl)⟩) ⟨pw_blind, va_recv (q := (R_Mo, F_Mo, 87)) hK.1 hP (ci := 12) (q0 := 0) rfl rfl, pw_pre hPc hK hDc⟩ rfl rfl hl.1 rfl (lv_room (Nat.le_of_ble_eq_true rfl)) d_Mo_tick_21 ⟨(Nat.le_of_ble_eq_true rfl), (Nat.le_of_ble_eq_true rfl)⟩) hS (fun q _ h => hFc q h) hFc (fun u t H locs ht hvm hw hB hz1 hk1 hS => ?_)
        have hP := pu_kept hP hk1
        refine lv_aload_n hx hb d_Mo_tick_24 rfl (lv_at hl 1 rfl) ?_
        refine va_get (D := (dC, dI)) (ci := 12) (v := .ref oR) (C := R_Mo) (T := F_Mo) (N := 87) hx hb hts (fun w h => List.mem_cons_of_mem _ (in_Mo w h)) hown hK.1 hP 0 rfl rfl 3 (by decide) (hts _ (List.mem_cons_of_mem _ mw_1797)) (fun _ h9 => h9) y_3 d_Mo_tick_25 ?_
        refine lv_iconst (v := 1) hx hb d_Mo_tick_28 (by decide) ?_
        have hPc := hP.sub (ws' := [(oR, .inr (14, fr))]) [3] rfl
        have hDc := hD.sub (ws' := [(oR, .inr (14, fr))]) [3] (by decide) rfl
        have hFc := pu_free hS hA
        refine va_calli (va_runV (C := R_Mr) (As := [.int 1]) (rest := []) ⟨hx, hb, hml, hown, hts⟩ (c_Mr_tick l dC dI cI cB cZ cJ oR fr hr_rows H.size) (cwV 1 hts (tb_V mw_2613 mw_2614 mw_2615 mw_20 mw_2616) rfl rfl rfl ⟨rfl, by decide +kernel, by decide +kernel, by decide +kernel⟩ ⟨(Nat.le_of_ble_eq_true rfl), (Nat.le_of_ble_eq_true rfl)⟩) ⟨pw_blind, va_recv (q := (R_Mr, F_Mr, 25)) hK.1 hP (ci := 14) (q0 := 3) rfl rfl, pw_pre hPc hK hDc⟩ rfl rfl hl.1 rfl (lv_room (Nat.le_of_ble_eq_true rfl)) d_Mo_tick_29 ⟨(Nat.le_of_ble_eq_true rfl), (Nat.le_of_ble_eq_true rfl)⟩) hS (fun q _ h => hFc q h) hFc (fun r u t H locs ht hvm hw hB hz1 hk1 hS => ?_)
        have hP := pu_kept hP hk1
        obtain rfl : r = 1 := hw
        refine lv_istore_n hx hb d_Mo_tick_32 rfl hl (by decide) rfl (fun ls hl => ?_)
        have hl : lv_has ls 5 [(3, .int 1), (2, .int (nI i)), (0, .ref oM), (1, .int (nI n))] := hl
        refine lv_aload_n hx hb d_Mo_tick_33 rfl (lv_at hl 2 rfl) ?_
        refine va_get (D := (dC, dI)) (ci := 12) (v := .int 4) (C := R_Mo) (T := F_Mo) (N := 87) hx hb hts (fun w h => List.mem_cons_of_mem _ (in_Mo w h)) hown hK.1 hP 0 rfl rfl 59 (by decide) (hts _ (List.mem_cons_of_mem _ mw_1853)) (fun _ h9 => h9) y_59 d_Mo_tick_34 ?_
        refine lv_if_ne (tgt := 64) hx hb d_Mo_tick_37 (by decide) (fun _ => ?_) (fun h => absurd h (by decide))
        refine lv_iconst (v := 0) hx hb d_Mo_tick_64 (by decide) ?_
        refine lv_istore hx hb d_Mo_tick_65 hl (by decide) rfl (fun ls hl => ?_)
        have hl : lv_has ls 5 [(4, .int 0), (3, .int 1), (2, .int (nI i)), (0, .ref oM), (1, .int (nI n))] := hl
        refine lv_iload hx hb d_Mo_tick_67 (lv_at hl 0 rfl) ?_
        refine lv_aload_n hx hb d_Mo_tick_69 rfl (lv_at hl 3 rfl) ?_
        refine va_get (D := (dC, dI)) (ci := 12) (v := .int 0) (C := R_Mo) (T := F_Mo) (N := 87) hx hb hts (fun w h => List.mem_cons_of_mem _ (in_Mo w h)) hown hK.1 hP 0 rfl rfl 26 (by decide) (hts _ (List.mem_cons_of_mem _ mw_1820)) (fun _ h9 => h9) y_26 d_Mo_tick_70 ?_
        refine lv_icmp_ge (tgt := 88) hx hb d_Mo_tick_73 (by decide) (fun _ => ?_) (fun h => absurd (by decide) h)
        refine lv_aload_n hx hb d_Mo_tick_88 rfl (lv_at hl 3 rfl) ?_
        refine lv_dup hx hb d_Mo_tick_89 rfl ?_
        refine va_get (D := (dC, dI)) (ci := 12) (v := .int v_78) (C := R_Mo) (T := F_Mo) (N := 87) hx hb hts (fun w h => List.mem_cons_of_mem _ (in_Mo w h)) hown hK.1 hP 0 rfl rfl 78 (by decide) (hts _ (List.mem_cons_of_mem _ mw_1872)) (fun _ h9 => h9) y_78 d_Mo_tick_90 ?_
        refine lv_iconst (v := 1) hx hb d_Mo_tick_93 (by decide) ?_
        refine lv_iadd hx hb d_Mo_tick_94 ?_
        refine va_put (D := (dC, dI)) (ci := 12) (v := .int (v_78 + 1)) (ty := .int) (C := R_Mo) (T := F_Mo) (N := 87) hx hb hts (fun w h => List.mem_cons_of_mem _ (in_Mo w h)) t_Mo t_Mo_ok n_Mo hown hK.1 hP hD hS 0 rfl rfl 78 (by decide) (hts _ (List.mem_cons_of_mem _ mw_1872)) (fun _ h9 => h9) rfl (by decide +kernel) rfl rfl (st_lt y_78) d_Mo_tick_95 (fun H locs hP hD hS => ?_)
        have g95_3 : fx (xs.set 78 (.int (v_78 + 1))) 3 (.ref oR) := (st_ne y_3 (by decide))
        have g95_78 : fx (xs.set 78 (.int (v_78 + 1))) 78 (.int (v_78 + 1)) := (st_eq y_78)
        have g95_2 : fx (xs.set 78 (.int (v_78 + 1))) 2 (.ref oT) := (st_ne y_2 (by decide))
        have g95_59 : fx (xs.set 78 (.int (v_78 + 1))) 59 (.int 4) := (st_ne y_59 (by decide))
        have g95_55 : fx (xs.set 78 (.int (v_78 + 1))) 55 (.ref am_watchWhat) := (st_ne y_55 (by decide))
        have g95_26 : fx (xs.set 78 (.int (v_78 + 1))) 26 (.int 0) := (st_ne y_26 (by decide))
        have hP : va_P (dC, dI) classes [(oM, .inr (12, (xs.set 78 (.int (v_78 + 1))))), (oT, .inr (13, ft)), (am_watchWhat, .inl (cI, 16, .inl ((fun _ => (-1))))), (oR, .inr (14, fr))] H := hP
        have hD : va_D A [(oM, .inr (12, (xs.set 78 (.int (v_78 + 1))))), (oT, .inr (13, ft)), (am_watchWhat, .inl (cI, 16, .inl ((fun _ => (-1))))), (oR, .inr (14, fr))] := hD
        refine lv_iinc (k := 2) (v := (nI (i + 1))) hx hb d_Mo_tick_98 hl rfl (by first | rfl | decide | exact nI_1 i | exact pv_1 j hj) (by decide) rfl (fun ls hl => ?_)
        have hl : lv_has ls 5 [(2, .int (nI (i + 1))), (4, .int 0), (3, .int 1), (0, .ref oM), (1, .int (nI n))] := hl
        refine lv_goto (tgt := 15) hx hb d_Mo_tick_101 (by decide) ?_
        have hl : lv_has ls 5 [(2, .int (nI (i + 1))), (0, .ref oM), (1, .int (nI n))] := lv_sub hl [0, 3, 4] rfl
        exact hk (xs.set 78 (.int (v_78 + 1))) H locs ls ⟨g95_2, g95_3, g95_26, g95_55, g95_59, ⟨_, g95_78⟩, hP, hD, hS, hl⟩
      · intro xs H locs ls hI
        obtain ⟨y_2, y_3, y_26, y_55, y_59, ⟨v_78, y_78⟩, hP, hD, hS, hl⟩ := hI
        refine lv_iload_n hx hb d_Mo_tick_15 rfl (lv_at hl 0 rfl) ?_
        refine lv_iload_n hx hb d_Mo_tick_16 rfl (lv_at hl 2 rfl) ?_
        refine lv_icmp_ge (tgt := 104) hx hb d_Mo_tick_17 (by decide) (fun _ => ?_) (fun h => absurd (nI_le (Nat.le_refl _) (by omega)) h)
        refine lv_aload_n hx hb d_Mo_tick_104 rfl (lv_at hl 1 rfl) ?_
        refine va_get (D := (dC, dI)) (ci := 12) (v := .int 4) (C := R_Mo) (T := F_Mo) (N := 87) hx hb hts (fun w h => List.mem_cons_of_mem _ (in_Mo w h)) hown hK.1 hP 0 rfl rfl 59 (by decide) (hts _ (List.mem_cons_of_mem _ mw_1853)) (fun _ h9 => h9) y_59 d_Mo_tick_105 ?_
        exact W.iret (v := 4) hx hb hr (fun t ht hW => ⟨⟨_, (), rfl, (by unfold fn_Mo_tick; rw [if_neg h1, if_pos h8]), trivial⟩, hS.F ht⟩) hS.2.2 d_Mo_tick_108
    · refine lv_iconst (v := (-1)) hx hb d_Mo_tick_11 (by decide) ?_
      exact W.iret (v := (-1)) hx hb hr (fun t ht hW => ⟨⟨_, (), rfl, (by unfold fn_Mo_tick; rw [if_neg h1, if_neg h8]), trivial⟩, hS.F ht⟩) hS.2.2 d_Mo_tick_12
abbrev t_Mo_feed_117 : List UInt8 := 172 :: []
abbrev t_Mo_feed_114 : List UInt8 := 180 :: 0 :: 212 :: t_Mo_feed_117
abbrev t_Mo_feed_113 : List UInt8 := 42 :: t_Mo_feed_114
abbrev t_Mo_feed_110 : List UInt8 := 167 :: 255 :: 165 :: t_Mo_feed_113
abbrev t_Mo_feed_107 : List UInt8 := 132 :: 6 :: 1 :: t_Mo_feed_110
abbrev t_Mo_feed_104 : List UInt8 := 181 :: 0 :: 212 :: t_Mo_feed_107
abbrev t_Mo_feed_103 : List UInt8 := 96 :: t_Mo_feed_104
abbrev t_Mo_feed_102 : List UInt8 := 4 :: t_Mo_feed_103
abbrev t_Mo_feed_99 : List UInt8 := 180 :: 0 :: 212 :: t_Mo_feed_102
abbrev t_Mo_feed_98 : List UInt8 := 89 :: t_Mo_feed_99
abbrev t_Mo_feed_97 : List UInt8 := 42 :: t_Mo_feed_98
abbrev t_Mo_feed_96 : List UInt8 := 84 :: t_Mo_feed_97
abbrev t_Mo_feed_95 : List UInt8 := 145 :: t_Mo_feed_96
abbrev t_Mo_feed_94 : List UInt8 := 124 :: t_Mo_feed_95
abbrev t_Mo_feed_93 : List UInt8 := 100 :: t_Mo_feed_94
abbrev t_Mo_feed_92 : List UInt8 := 104 :: t_Mo_feed_93
abbrev t_Mo_feed_91 : List UInt8 := 112 :: t_Mo_feed_92
abbrev t_Mo_feed_90 : List UInt8 := 7 :: t_Mo_feed_91
abbrev t_Mo_feed_88 : List UInt8 := 21 :: 6 :: t_Mo_feed_90
abbrev t_Mo_feed_86 : List UInt8 := 16 :: 8 :: t_Mo_feed_88
abbrev t_Mo_feed_84 : List UInt8 := 16 :: 24 :: t_Mo_feed_86
abbrev t_Mo_feed_82 : List UInt8 := 21 :: 7 :: t_Mo_feed_84
abbrev t_Mo_feed_79 : List UInt8 := 180 :: 0 :: 212 :: t_Mo_feed_82
abbrev t_Mo_feed_78 : List UInt8 := 42 :: t_Mo_feed_79
abbrev t_Mo_feed_75 : List UInt8 := 180 :: 0 :: 9 :: t_Mo_feed_78
abbrev t_Mo_feed_74 : List UInt8 := 42 :: t_Mo_feed_75
abbrev t_Mo_feed_72 : List UInt8 := 54 :: 7 :: t_Mo_feed_74
abbrev t_Mo_feed_70 : List UInt8 := 21 :: 5 :: t_Mo_feed_72
abbrev t_Mo_feed_67 : List UInt8 := 167 :: 0 :: 5 :: t_Mo_feed_70
abbrev t_Mo_feed_65 : List UInt8 := 21 :: 4 :: t_Mo_feed_67
abbrev t_Mo_feed_62 : List UInt8 := 162 :: 0 :: 8 :: t_Mo_feed_65
abbrev t_Mo_feed_60 : List UInt8 := 16 :: 16 :: t_Mo_feed_62
abbrev t_Mo_feed_58 : List UInt8 := 21 :: 6 :: t_Mo_feed_60
abbrev t_Mo_feed_55 : List UInt8 := 167 :: 0 :: 17 :: t_Mo_feed_58
abbrev t_Mo_feed_54 : List UInt8 := 29 :: t_Mo_feed_55
abbrev t_Mo_feed_51 : List UInt8 := 162 :: 0 :: 7 :: t_Mo_feed_54
abbrev t_Mo_feed_49 : List UInt8 := 16 :: 12 :: t_Mo_feed_51
abbrev t_Mo_feed_47 : List UInt8 := 21 :: 6 :: t_Mo_feed_49
abbrev t_Mo_feed_44 : List UInt8 := 167 :: 0 :: 28 :: t_Mo_feed_47
abbrev t_Mo_feed_43 : List UInt8 := 28 :: t_Mo_feed_44
abbrev t_Mo_feed_40 : List UInt8 := 162 :: 0 :: 7 :: t_Mo_feed_43
abbrev t_Mo_feed_38 : List UInt8 := 16 :: 8 :: t_Mo_feed_40
abbrev t_Mo_feed_36 : List UInt8 := 21 :: 6 :: t_Mo_feed_38
abbrev t_Mo_feed_33 : List UInt8 := 167 :: 0 :: 39 :: t_Mo_feed_36
abbrev t_Mo_feed_32 : List UInt8 := 27 :: t_Mo_feed_33
abbrev t_Mo_feed_29 : List UInt8 := 162 :: 0 :: 7 :: t_Mo_feed_32
abbrev t_Mo_feed_28 : List UInt8 := 7 :: t_Mo_feed_29
abbrev t_Mo_feed_26 : List UInt8 := 21 :: 6 :: t_Mo_feed_28
abbrev t_Mo_feed_23 : List UInt8 := 162 :: 0 :: 90 :: t_Mo_feed_26
abbrev t_Mo_feed_21 : List UInt8 := 16 :: 20 :: t_Mo_feed_23
abbrev t_Mo_feed_19 : List UInt8 := 21 :: 6 :: t_Mo_feed_21
abbrev t_Mo_feed_17 : List UInt8 := 54 :: 6 :: t_Mo_feed_19
abbrev t_Mo_feed_16 : List UInt8 := 3 :: t_Mo_feed_17
abbrev t_Mo_feed_15 : List UInt8 := 172 :: t_Mo_feed_16
abbrev t_Mo_feed_13 : List UInt8 := 16 :: 254 :: t_Mo_feed_15
abbrev t_Mo_feed_10 : List UInt8 := 164 :: 0 :: 6 :: t_Mo_feed_13
abbrev t_Mo_feed_7 : List UInt8 := 17 :: 15 :: 180 :: t_Mo_feed_10
abbrev t_Mo_feed_6 : List UInt8 := 96 :: t_Mo_feed_7
abbrev t_Mo_feed_4 : List UInt8 := 16 :: 20 :: t_Mo_feed_6
abbrev t_Mo_feed_1 : List UInt8 := 180 :: 0 :: 212 :: t_Mo_feed_4
abbrev t_Mo_feed_0 : List UInt8 := 42 :: t_Mo_feed_1
theorem a_Mo_feed_0 : dk_at b_Mo_feed 0 t_Mo_feed_0 := dk_start (by decide +kernel)
theorem a_Mo_feed_1 : dk_at b_Mo_feed 1 t_Mo_feed_1 := dk_go 1 a_Mo_feed_0 rfl
theorem a_Mo_feed_4 : dk_at b_Mo_feed 4 t_Mo_feed_4 := dk_go 3 a_Mo_feed_1 rfl
theorem a_Mo_feed_6 : dk_at b_Mo_feed 6 t_Mo_feed_6 := dk_go 2 a_Mo_feed_4 rfl
theorem a_Mo_feed_7 : dk_at b_Mo_feed 7 t_Mo_feed_7 := dk_go 1 a_Mo_feed_6 rfl
theorem a_Mo_feed_10 : dk_at b_Mo_feed 10 t_Mo_feed_10 := dk_go 3 a_Mo_feed_7 rfl
theorem a_Mo_feed_13 : dk_at b_Mo_feed 13 t_Mo_feed_13 := dk_go 3 a_Mo_feed_10 rfl
theorem a_Mo_feed_15 : dk_at b_Mo_feed 15 t_Mo_feed_15 := dk_go 2 a_Mo_feed_13 rfl
theorem a_Mo_feed_16 : dk_at b_Mo_feed 16 t_Mo_feed_16 := dk_go 1 a_Mo_feed_15 rfl
theorem a_Mo_feed_17 : dk_at b_Mo_feed 17 t_Mo_feed_17 := dk_go 1 a_Mo_feed_16 rfl
theorem a_Mo_feed_19 : dk_at b_Mo_feed 19 t_Mo_feed_19 := dk_go 2 a_Mo_feed_17 rfl
theorem a_Mo_feed_21 : dk_at b_Mo_feed 21 t_Mo_feed_21 := dk_go 2 a_Mo_feed_19 rfl
theorem a_Mo_feed_23 : dk_at b_Mo_feed 23 t_Mo_feed_23 := dk_go 2 a_Mo_feed_21 rfl
theorem a_Mo_feed_26 : dk_at b_Mo_feed 26 t_Mo_feed_26 := dk_go 3 a_Mo_feed_23 rfl
theorem a_Mo_feed_28 : dk_at b_Mo_feed 28 t_Mo_feed_28 := dk_go 2 a_Mo_feed_26 rfl
theorem a_Mo_feed_29 : dk_at b_Mo_feed 29 t_Mo_feed_29 := dk_go 1 a_Mo_feed_28 rfl
theorem a_Mo_feed_32 : dk_at b_Mo_feed 32 t_Mo_feed_32 := dk_go 3 a_Mo_feed_29 rfl
theorem a_Mo_feed_33 : dk_at b_Mo_feed 33 t_Mo_feed_33 := dk_go 1 a_Mo_feed_32 rfl
theorem a_Mo_feed_36 : dk_at b_Mo_feed 36 t_Mo_feed_36 := dk_go 3 a_Mo_feed_33 rfl
theorem a_Mo_feed_38 : dk_at b_Mo_feed 38 t_Mo_feed_38 := dk_go 2 a_Mo_feed_36 rfl
theorem a_Mo_feed_40 : dk_at b_Mo_feed 40 t_Mo_feed_40 := dk_go 2 a_Mo_feed_38 rfl
theorem a_Mo_feed_43 : dk_at b_Mo_feed 43 t_Mo_feed_43 := dk_go 3 a_Mo_feed_40 rfl
theorem a_Mo_feed_44 : dk_at b_Mo_feed 44 t_Mo_feed_44 := dk_go 1 a_Mo_feed_43 rfl
theorem a_Mo_feed_47 : dk_at b_Mo_feed 47 t_Mo_feed_47 := dk_go 3 a_Mo_feed_44 rfl
theorem a_Mo_feed_49 : dk_at b_Mo_feed 49 t_Mo_feed_49 := dk_go 2 a_Mo_feed_47 rfl
theorem a_Mo_feed_51 : dk_at b_Mo_feed 51 t_Mo_feed_51 := dk_go 2 a_Mo_feed_49 rfl
theorem a_Mo_feed_54 : dk_at b_Mo_feed 54 t_Mo_feed_54 := dk_go 3 a_Mo_feed_51 rfl
theorem a_Mo_feed_55 : dk_at b_Mo_feed 55 t_Mo_feed_55 := dk_go 1 a_Mo_feed_54 rfl
theorem a_Mo_feed_58 : dk_at b_Mo_feed 58 t_Mo_feed_58 := dk_go 3 a_Mo_feed_55 rfl
theorem a_Mo_feed_60 : dk_at b_Mo_feed 60 t_Mo_feed_60 := dk_go 2 a_Mo_feed_58 rfl
theorem a_Mo_feed_62 : dk_at b_Mo_feed 62 t_Mo_feed_62 := dk_go 2 a_Mo_feed_60 rfl
theorem a_Mo_feed_65 : dk_at b_Mo_feed 65 t_Mo_feed_65 := dk_go 3 a_Mo_feed_62 rfl
theorem a_Mo_feed_67 : dk_at b_Mo_feed 67 t_Mo_feed_67 := dk_go 2 a_Mo_feed_65 rfl
theorem a_Mo_feed_70 : dk_at b_Mo_feed 70 t_Mo_feed_70 := dk_go 3 a_Mo_feed_67 rfl
theorem a_Mo_feed_72 : dk_at b_Mo_feed 72 t_Mo_feed_72 := dk_go 2 a_Mo_feed_70 rfl
theorem a_Mo_feed_74 : dk_at b_Mo_feed 74 t_Mo_feed_74 := dk_go 2 a_Mo_feed_72 rfl
theorem a_Mo_feed_75 : dk_at b_Mo_feed 75 t_Mo_feed_75 := dk_go 1 a_Mo_feed_74 rfl
theorem a_Mo_feed_78 : dk_at b_Mo_feed 78 t_Mo_feed_78 := dk_go 3 a_Mo_feed_75 rfl
theorem a_Mo_feed_79 : dk_at b_Mo_feed 79 t_Mo_feed_79 := dk_go 1 a_Mo_feed_78 rfl
theorem a_Mo_feed_82 : dk_at b_Mo_feed 82 t_Mo_feed_82 := dk_go 3 a_Mo_feed_79 rfl
theorem a_Mo_feed_84 : dk_at b_Mo_feed 84 t_Mo_feed_84 := dk_go 2 a_Mo_feed_82 rfl
theorem a_Mo_feed_86 : dk_at b_Mo_feed 86 t_Mo_feed_86 := dk_go 2 a_Mo_feed_84 rfl
theorem a_Mo_feed_88 : dk_at b_Mo_feed 88 t_Mo_feed_88 := dk_go 2 a_Mo_feed_86 rfl
theorem a_Mo_feed_90 : dk_at b_Mo_feed 90 t_Mo_feed_90 := dk_go 2 a_Mo_feed_88 rfl
theorem a_Mo_feed_91 : dk_at b_Mo_feed 91 t_Mo_feed_91 := dk_go 1 a_Mo_feed_90 rfl
theorem a_Mo_feed_92 : dk_at b_Mo_feed 92 t_Mo_feed_92 := dk_go 1 a_Mo_feed_91 rfl
theorem a_Mo_feed_93 : dk_at b_Mo_feed 93 t_Mo_feed_93 := dk_go 1 a_Mo_feed_92 rfl
theorem a_Mo_feed_94 : dk_at b_Mo_feed 94 t_Mo_feed_94 := dk_go 1 a_Mo_feed_93 rfl
theorem a_Mo_feed_95 : dk_at b_Mo_feed 95 t_Mo_feed_95 := dk_go 1 a_Mo_feed_94 rfl
theorem a_Mo_feed_96 : dk_at b_Mo_feed 96 t_Mo_feed_96 := dk_go 1 a_Mo_feed_95 rfl
theorem a_Mo_feed_97 : dk_at b_Mo_feed 97 t_Mo_feed_97 := dk_go 1 a_Mo_feed_96 rfl
theorem a_Mo_feed_98 : dk_at b_Mo_feed 98 t_Mo_feed_98 := dk_go 1 a_Mo_feed_97 rfl
theorem a_Mo_feed_99 : dk_at b_Mo_feed 99 t_Mo_feed_99 := dk_go 1 a_Mo_feed_98 rfl
theorem a_Mo_feed_102 : dk_at b_Mo_feed 102 t_Mo_feed_102 := dk_go 3 a_Mo_feed_99 rfl
theorem a_Mo_feed_103 : dk_at b_Mo_feed 103 t_Mo_feed_103 := dk_go 1 a_Mo_feed_102 rfl
theorem a_Mo_feed_104 : dk_at b_Mo_feed 104 t_Mo_feed_104 := dk_go 1 a_Mo_feed_103 rfl
theorem a_Mo_feed_107 : dk_at b_Mo_feed 107 t_Mo_feed_107 := dk_go 3 a_Mo_feed_104 rfl
theorem a_Mo_feed_110 : dk_at b_Mo_feed 110 t_Mo_feed_110 := dk_go 3 a_Mo_feed_107 rfl
theorem a_Mo_feed_113 : dk_at b_Mo_feed 113 t_Mo_feed_113 := dk_go 3 a_Mo_feed_110 rfl
theorem a_Mo_feed_114 : dk_at b_Mo_feed 114 t_Mo_feed_114 := dk_go 1 a_Mo_feed_113 rfl
theorem a_Mo_feed_117 : dk_at b_Mo_feed 117 t_Mo_feed_117 := dk_go 3 a_Mo_feed_114 rfl
theorem d_Mo_feed_0 : decode b_Mo_feed 0 = .ok (.aload_n 0, 1) := dk_0 a_Mo_feed_0 (dko_42 _)
theorem d_Mo_feed_1 : decode b_Mo_feed 1 = .ok (.getfield 212, 3) := dk_U2 a_Mo_feed_1 (dko_180 _) rfl
theorem d_Mo_feed_4 : decode b_Mo_feed 4 = .ok (.bipush 20, 2) := dk_S1 a_Mo_feed_4 (dko_16 _) (by decide +kernel)
theorem d_Mo_feed_6 : decode b_Mo_feed 6 = .ok (.iadd, 1) := dk_0 a_Mo_feed_6 (dko_96 _)
theorem d_Mo_feed_7 : decode b_Mo_feed 7 = .ok (.sipush 4020, 3) := dk_S2 a_Mo_feed_7 (dko_17 _) (by decide +kernel)
theorem d_Mo_feed_10 : decode b_Mo_feed 10 = .ok (.if_icmp .le 6, 3) := dk_S2 a_Mo_feed_10 (dko_164 _) (by decide +kernel)
theorem d_Mo_feed_16 : decode b_Mo_feed 16 = .ok (.iconst 0, 1) := dk_0 a_Mo_feed_16 (dko_3 _)
theorem d_Mo_feed_17 : decode b_Mo_feed 17 = .ok (.istore 6, 2) := dk_U1 a_Mo_feed_17 (dko_54 _) rfl
theorem d_Mo_feed_19 : decode b_Mo_feed 19 = .ok (.iload 6, 2) := dk_U1 a_Mo_feed_19 (dko_21 _) rfl
theorem d_Mo_feed_21 : decode b_Mo_feed 21 = .ok (.bipush 20, 2) := dk_S1 a_Mo_feed_21 (dko_16 _) (by decide +kernel)
theorem d_Mo_feed_23 : decode b_Mo_feed 23 = .ok (.if_icmp .ge 90, 3) := dk_S2 a_Mo_feed_23 (dko_162 _) (by decide +kernel)
theorem d_Mo_feed_26 : decode b_Mo_feed 26 = .ok (.iload 6, 2) := dk_U1 a_Mo_feed_26 (dko_21 _) rfl
theorem d_Mo_feed_28 : decode b_Mo_feed 28 = .ok (.iconst 4, 1) := dk_0 a_Mo_feed_28 (dko_7 _)
theorem d_Mo_feed_29 : decode b_Mo_feed 29 = .ok (.if_icmp .ge 7, 3) := dk_S2 a_Mo_feed_29 (dko_162 _) (by decide +kernel)
theorem d_Mo_feed_32 : decode b_Mo_feed 32 = .ok (.iload_n 1, 1) := dk_0 a_Mo_feed_32 (dko_27 _)
theorem d_Mo_feed_33 : decode b_Mo_feed 33 = .ok (.goto 39, 3) := dk_S2 a_Mo_feed_33 (dko_167 _) (by decide +kernel)
theorem d_Mo_feed_36 : decode b_Mo_feed 36 = .ok (.iload 6, 2) := dk_U1 a_Mo_feed_36 (dko_21 _) rfl
theorem d_Mo_feed_38 : decode b_Mo_feed 38 = .ok (.bipush 8, 2) := dk_S1 a_Mo_feed_38 (dko_16 _) (by decide +kernel)
theorem d_Mo_feed_40 : decode b_Mo_feed 40 = .ok (.if_icmp .ge 7, 3) := dk_S2 a_Mo_feed_40 (dko_162 _) (by decide +kernel)
theorem d_Mo_feed_43 : decode b_Mo_feed 43 = .ok (.iload_n 2, 1) := dk_0 a_Mo_feed_43 (dko_28 _)
theorem d_Mo_feed_44 : decode b_Mo_feed 44 = .ok (.goto 28, 3) := dk_S2 a_Mo_feed_44 (dko_167 _) (by decide +kernel)
theorem d_Mo_feed_47 : decode b_Mo_feed 47 = .ok (.iload 6, 2) := dk_U1 a_Mo_feed_47 (dko_21 _) rfl
theorem d_Mo_feed_49 : decode b_Mo_feed 49 = .ok (.bipush 12, 2) := dk_S1 a_Mo_feed_49 (dko_16 _) (by decide +kernel)
theorem d_Mo_feed_51 : decode b_Mo_feed 51 = .ok (.if_icmp .ge 7, 3) := dk_S2 a_Mo_feed_51 (dko_162 _) (by decide +kernel)
theorem d_Mo_feed_54 : decode b_Mo_feed 54 = .ok (.iload_n 3, 1) := dk_0 a_Mo_feed_54 (dko_29 _)
theorem d_Mo_feed_55 : decode b_Mo_feed 55 = .ok (.goto 17, 3) := dk_S2 a_Mo_feed_55 (dko_167 _) (by decide +kernel)
theorem d_Mo_feed_58 : decode b_Mo_feed 58 = .ok (.iload 6, 2) := dk_U1 a_Mo_feed_58 (dko_21 _) rfl
theorem d_Mo_feed_60 : decode b_Mo_feed 60 = .ok (.bipush 16, 2) := dk_S1 a_Mo_feed_60 (dko_16 _) (by decide +kernel)
theorem d_Mo_feed_62 : decode b_Mo_feed 62 = .ok (.if_icmp .ge 8, 3) := dk_S2 a_Mo_feed_62 (dko_162 _) (by decide +kernel)
theorem d_Mo_feed_65 : decode b_Mo_feed 65 = .ok (.iload 4, 2) := dk_U1 a_Mo_feed_65 (dko_21 _) rfl
theorem d_Mo_feed_67 : decode b_Mo_feed 67 = .ok (.goto 5, 3) := dk_S2 a_Mo_feed_67 (dko_167 _) (by decide +kernel)
theorem d_Mo_feed_70 : decode b_Mo_feed 70 = .ok (.iload 5, 2) := dk_U1 a_Mo_feed_70 (dko_21 _) rfl
theorem d_Mo_feed_72 : decode b_Mo_feed 72 = .ok (.istore 7, 2) := dk_U1 a_Mo_feed_72 (dko_54 _) rfl
theorem d_Mo_feed_74 : decode b_Mo_feed 74 = .ok (.aload_n 0, 1) := dk_0 a_Mo_feed_74 (dko_42 _)
theorem d_Mo_feed_75 : decode b_Mo_feed 75 = .ok (.getfield 9, 3) := dk_U2 a_Mo_feed_75 (dko_180 _) rfl
theorem d_Mo_feed_78 : decode b_Mo_feed 78 = .ok (.aload_n 0, 1) := dk_0 a_Mo_feed_78 (dko_42 _)
theorem d_Mo_feed_79 : decode b_Mo_feed 79 = .ok (.getfield 212, 3) := dk_U2 a_Mo_feed_79 (dko_180 _) rfl
theorem d_Mo_feed_82 : decode b_Mo_feed 82 = .ok (.iload 7, 2) := dk_U1 a_Mo_feed_82 (dko_21 _) rfl
theorem d_Mo_feed_84 : decode b_Mo_feed 84 = .ok (.bipush 24, 2) := dk_S1 a_Mo_feed_84 (dko_16 _) (by decide +kernel)
theorem d_Mo_feed_86 : decode b_Mo_feed 86 = .ok (.bipush 8, 2) := dk_S1 a_Mo_feed_86 (dko_16 _) (by decide +kernel)
theorem d_Mo_feed_88 : decode b_Mo_feed 88 = .ok (.iload 6, 2) := dk_U1 a_Mo_feed_88 (dko_21 _) rfl
theorem d_Mo_feed_90 : decode b_Mo_feed 90 = .ok (.iconst 4, 1) := dk_0 a_Mo_feed_90 (dko_7 _)
theorem d_Mo_feed_91 : decode b_Mo_feed 91 = .ok (.irem, 1) := dk_0 a_Mo_feed_91 (dko_112 _)
theorem d_Mo_feed_92 : decode b_Mo_feed 92 = .ok (.imul, 1) := dk_0 a_Mo_feed_92 (dko_104 _)
theorem d_Mo_feed_93 : decode b_Mo_feed 93 = .ok (.isub, 1) := dk_0 a_Mo_feed_93 (dko_100 _)
theorem d_Mo_feed_94 : decode b_Mo_feed 94 = .ok (.iushr, 1) := dk_0 a_Mo_feed_94 (dko_124 _)
theorem d_Mo_feed_95 : decode b_Mo_feed 95 = .ok (.i2b, 1) := dk_0 a_Mo_feed_95 (dko_145 _)
theorem d_Mo_feed_96 : decode b_Mo_feed 96 = .ok (.bastore, 1) := dk_0 a_Mo_feed_96 (dko_84 _)
theorem d_Mo_feed_97 : decode b_Mo_feed 97 = .ok (.aload_n 0, 1) := dk_0 a_Mo_feed_97 (dko_42 _)
theorem d_Mo_feed_98 : decode b_Mo_feed 98 = .ok (.dup, 1) := dk_0 a_Mo_feed_98 (dko_89 _)
theorem d_Mo_feed_99 : decode b_Mo_feed 99 = .ok (.getfield 212, 3) := dk_U2 a_Mo_feed_99 (dko_180 _) rfl
theorem d_Mo_feed_102 : decode b_Mo_feed 102 = .ok (.iconst 1, 1) := dk_0 a_Mo_feed_102 (dko_4 _)
theorem d_Mo_feed_103 : decode b_Mo_feed 103 = .ok (.iadd, 1) := dk_0 a_Mo_feed_103 (dko_96 _)
theorem d_Mo_feed_104 : decode b_Mo_feed 104 = .ok (.putfield 212, 3) := dk_U2 a_Mo_feed_104 (dko_181 _) rfl
theorem d_Mo_feed_107 : decode b_Mo_feed 107 = .ok (.iinc 6 1, 3) := dk_US a_Mo_feed_107 (dko_132 _) (by decide +kernel)
theorem d_Mo_feed_110 : decode b_Mo_feed 110 = .ok (.goto (-91), 3) := dk_S2 a_Mo_feed_110 (dko_167 _) (by decide +kernel)
theorem d_Mo_feed_113 : decode b_Mo_feed 113 = .ok (.aload_n 0, 1) := dk_0 a_Mo_feed_113 (dko_42 _)
theorem d_Mo_feed_114 : decode b_Mo_feed 114 = .ok (.getfield 212, 3) := dk_U2 a_Mo_feed_114 (dko_180 _) rfl
theorem d_Mo_feed_117 : decode b_Mo_feed 117 = .ok (.ireturn, 1) := dk_0 a_Mo_feed_117 (dko_172 _)
set_option maxHeartbeats 4000000 in
set_option maxRecDepth 100000 in
theorem c_Mo_feed (l : Launch) (dC : Nat → ClassId) (dI : Nat → Nat → Nat) (cI cB cZ cJ : ClassId) (a1 : Int32) (b1 : Int32) (c1 : Int32) (d1 : Int32) (e1 : Int32) (oM : Nat) (am_tape : Nat) (fm : List Value) (hm_tape : fx fm 0 (.ref am_tape)) (hm_taped : fx fm 1 (.int 0)) (sz : Nat) : Met l y_Mo_feed w_Mo_feed ({ frames := 0, cells := 0, slots := 0, locals := 0 }) (va_Pc [.ref oM, .int a1, .int b1, .int c1, .int d1, .int e1] (PW dC dI cI cB cZ cJ [(oM, .inr (12, fm)), (am_tape, .inl (cB, 4020, .inl (fun _ => 0)))] sz)) (va_Qi (fun (r : Int32) (_ : Unit) => r = 20) (fun _ _ => True) (va_A [(oM, .inr (12, fm)), (am_tape, .inl (cB, 4020, .inl (fun _ => 0)))] sz)) 0 0 (va_A [(oM, .inr (12, fm)), (am_tape, .inl (cB, 4020, .inl (fun _ => 0)))] sz) := by
  refine Met.ofW (cc := b_Mo_feed) (maxL := 8) (ret := (some .int)) (by decide) rfl ?_
  intro p e s m args below meth c s₁ B hml hv
  obtain ⟨rfl, hsz, hP, hK, hD⟩ := hv
  have hx := B.exec
  have hb := B.bytes
  have hr := B.returns
  have hts := atoms_spec (ws := w_Mo_feed) B.pre
  have hown : s.vm.findClass R_Mo = some m.cls := findClass_of_methodNamed B.named
  have hlocks := B.notSynchronized
  subst hsz
  have hD := hD.self (sz := s.heap.size)
  generalize hAe : va_A [(oM, .inr (12, fm)), (am_tape, .inl (cB, 4020, .inl (fun _ => 0)))] s.heap.size = A at hD ⊢
  have hA : ∀ q : Nat, s.heap.size ≤ q → A q := fun q h => by rw [← hAe]; exact Or.inr h
  have hS : va_S A s.heap s.heap [] := va_S.rf
  have hP : va_P (dC, dI) classes [(oM, .inr (12, fm)), (am_tape, .inl (cB, 4020, .inl (fun _ => 0)))] s.heap := hP
  have hl := lv_entry ([.ref oM, .int a1, .int b1, .int c1, .int d1, .int e1]) (n := 8) (Nat.le_of_ble_eq_true rfl)
  rw [lg_entry_eq]
  generalize (lg_sl ([.ref oM, .int a1, .int b1, .int c1, .int d1, .int e1]) ++ List.replicate (8 - (lg_sl ([.ref oM, .int a1, .int b1, .int c1, .int d1, .int e1])).length) Slot.unset).toArray = ls at hl ⊢
  have hl : lv_has ls 8 [(0, .ref oM), (1, .int a1), (2, .int b1), (3, .int c1), (4, .int d1), (5, .int e1)] := hl
  refine lv_aload_n hx hb d_Mo_feed_0 rfl (lv_at hl 0 rfl) ?_
  refine va_get (D := (dC, dI)) (ci := 12) (v := .int 0) (C := R_Mo) (T := F_Mo) (N := 87) hx hb hts (fun w h => List.mem_cons_of_mem _ (in_Mo w h)) hown hK.1 hP 0 rfl rfl 1 (by decide) (hts _ (List.mem_cons_of_mem _ mw_1795)) (fun _ h9 => h9) hm_taped d_Mo_feed_1 ?_
  refine lv_bipush (v := 20) hx hb d_Mo_feed_4 (by decide) ?_
  refine lv_iadd hx hb d_Mo_feed_6 ?_
  refine lv_topi (fun x0 e0 => ?_)
  obtain rfl : x0 = 20 := e0.trans (by decide)
  refine lv_sipush (v := 4020) hx hb d_Mo_feed_7 (by decide) ?_
  refine lv_icmp_le (tgt := 16) hx hb d_Mo_feed_10 (by decide) (fun _ => ?_) (fun h => absurd (by decide) h)
  refine lv_iconst (v := 0) hx hb d_Mo_feed_16 (by decide) ?_
  refine lv_istore hx hb d_Mo_feed_17 hl (by decide) rfl (fun ls hl => ?_)
  have hl : lv_has ls 8 [(6, .int 0), (0, .ref oM), (1, .int a1), (2, .int b1), (3, .int c1), (4, .int d1), (5, .int e1)] := hl
  refine lv_iload hx hb d_Mo_feed_19 (lv_at hl 0 rfl) ?_
  refine lv_bipush (v := 20) hx hb d_Mo_feed_21 (by decide) ?_
  refine lv_icmp_ge (tgt := 113) hx hb d_Mo_feed_23 (by decide) (fun h => absurd h (by decide)) (fun _ => ?_)
  refine lv_iload hx hb d_Mo_feed_26 (lv_at hl 0 rfl) ?_
  refine lv_iconst (v := 4) hx hb d_Mo_feed_28 (by decide) ?_
  refine lv_icmp_ge (tgt := 36) hx hb d_Mo_feed_29 (by decide) (fun h => absurd h (by decide)) (fun _ => ?_)
  refine lv_iload_n hx hb d_Mo_feed_32 rfl (lv_at hl 2 rfl) ?_
  refine lv_goto (tgt := 72) hx hb d_Mo_feed_33 (by decide) ?_
  refine lv_istore hx hb d_Mo_feed_72 hl (by decide) rfl (fun ls hl => ?_)
  have hl : lv_has ls 8 [(7, .int a1), (6, .int 0), (0, .ref oM), (1, .int a1), (2, .int b1), (3, .int c1), (4, .int d1), (5, .int e1)] := hl
  refine lv_aload_n hx hb d_Mo_feed_74 rfl (lv_at hl 2 rfl) ?_
  refine va_get (D := (dC, dI)) (ci := 12) (v := .ref am_tape) (C := R_Mo) (T := F_Mo) (N := 87) hx hb hts (fun w h => List.mem_cons_of_mem _ (in_Mo w h)) hown hK.1 hP 0 rfl rfl 0 (by decide) (hts _ (List.mem_cons_of_mem _ mw_1794)) (fun _ h9 => h9) hm_tape d_Mo_feed_75 ?_
  refine lv_aload_n hx hb d_Mo_feed_78 rfl (lv_at hl 2 rfl) ?_
  refine va_get (D := (dC, dI)) (ci := 12) (v := .int 0) (C := R_Mo) (T := F_Mo) (N := 87) hx hb hts (fun w h => List.mem_cons_of_mem _ (in_Mo w h)) hown hK.1 hP 0 rfl rfl 1 (by decide) (hts _ (List.mem_cons_of_mem _ mw_1795)) (fun _ h9 => h9) hm_taped d_Mo_feed_79 ?_
  refine lv_iload hx hb d_Mo_feed_82 (lv_at hl 0 rfl) ?_
  refine lv_bipush (v := 24) hx hb d_Mo_feed_84 (by decide) ?_
  refine lv_bipush (v := 8) hx hb d_Mo_feed_86 (by decide) ?_
  refine lv_iload hx hb d_Mo_feed_88 (lv_at hl 1 rfl) ?_
  refine lv_iconst (v := 4) hx hb d_Mo_feed_90 (by decide) ?_
  refine lv_irem hx hb d_Mo_feed_91 (by decide) ?_
  refine lv_topi (fun x0 e0 => ?_)
  obtain rfl : x0 = 0 := e0.trans (by decide)
  refine lv_imul hx hb d_Mo_feed_92 ?_
  refine lv_topi (fun x0 e0 => ?_)
  obtain rfl : x0 = 0 := e0.trans (by decide)
  refine lv_isub hx hb d_Mo_feed_93 ?_
  refine lv_topi (fun x0 e0 => ?_)
  obtain rfl : x0 = 24 := e0.trans (by decide)
  refine lv_iushr hx hb d_Mo_feed_94 rfl ?_
  refine lv_topi (fun z94_1 ez94_1 => ?_)
  refine lv_i2b hx hb d_Mo_feed_95 rfl ?_
  refine lv_topi (fun z95_2 ez95_2 => ?_)
  refine va_bast hx hb hK.1 hP hD hS 1 1 rfl rfl (vp_in_iff.mpr (by decide)) d_Mo_feed_96 (fun H locs hP hD hS => ?_)
  have hP : va_P (dC, dI) classes [(oM, .inr (12, fm)), (am_tape, .inl (cB, 4020, .inl ((upd (fun _ => 0) (0 : Int32).toNatClampNeg (vp_nar .byte z95_2)))))] H := hP
  have hD : va_D A [(oM, .inr (12, fm)), (am_tape, .inl (cB, 4020, .inl ((upd (fun _ => 0) (0 : Int32).toNatClampNeg (vp_nar .byte z95_2)))))] := hD
  generalize (upd (fun _ => 0) (0 : Int32).toNatClampNeg (vp_nar .byte z95_2)) = f96_3 at hP hD
  refine lv_aload_n hx hb d_Mo_feed_97 rfl (lv_at hl 2 rfl) ?_
  refine lv_dup hx hb d_Mo_feed_98 rfl ?_
  refine va_get (D := (dC, dI)) (ci := 12) (v := .int 0) (C := R_Mo) (T := F_Mo) (N := 87) hx hb hts (fun w h => List.mem_cons_of_mem _ (in_Mo w h)) hown hK.1 hP 0 rfl rfl 1 (by decide) (hts _ (List.mem_cons_of_mem _ mw_1795)) (fun _ h9 => h9) hm_taped d_Mo_feed_99 ?_
  refine lv_iconst (v := 1) hx hb d_Mo_feed_102 (by decide) ?_
  refine lv_iadd hx hb d_Mo_feed_103 ?_
  refine lv_topi (fun x0 e0 => ?_)
  obtain rfl : x0 = 1 := e0.trans (by decide)
  refine va_put (D := (dC, dI)) (ci := 12) (v := .int 1) (ty := .int) (C := R_Mo) (T := F_Mo) (N := 87) hx hb hts (fun w h => List.mem_cons_of_mem _ (in_Mo w h)) t_Mo t_Mo_ok n_Mo hown hK.1 hP hD hS 0 rfl rfl 1 (by decide) (hts _ (List.mem_cons_of_mem _ mw_1795)) (fun _ h9 => h9) rfl (by decide +kernel) rfl rfl (st_lt hm_taped) d_Mo_feed_104 (fun H locs hP hD hS => ?_)
  have g104_0 : fx (fm.set 1 (.int 1)) 0 (.ref am_tape) := (st_ne hm_tape (by decide))
  have g104_1 : fx (fm.set 1 (.int 1)) 1 (.int 1) := (st_eq hm_taped)
  have hP : va_P (dC, dI) classes [(oM, .inr (12, (fm.set 1 (.int 1)))), (am_tape, .inl (cB, 4020, .inl f96_3))] H := hP
  have hD : va_D A [(oM, .inr (12, (fm.set 1 (.int 1)))), (am_tape, .inl (cB, 4020, .inl f96_3))] := hD
  refine lv_iinc (k := 1) (v := 1) hx hb d_Mo_feed_107 hl rfl (by first | rfl | decide | exact nI_1 i | exact pv_1 j hj) (by decide) rfl (fun ls hl => ?_)
  have hl : lv_has ls 8 [(6, .int 1), (7, .int a1), (0, .ref oM), (1, .int a1), (2, .int b1), (3, .int c1), (4, .int d1), (5, .int e1)] := hl
  refine lv_goto (tgt := 19) hx hb d_Mo_feed_110 (by decide) ?_
  refine lv_iload hx hb d_Mo_feed_19 (lv_at hl 0 rfl) ?_
  refine lv_bipush (v := 20) hx hb d_Mo_feed_21 (by decide) ?_
  refine lv_icmp_ge (tgt := 113) hx hb d_Mo_feed_23 (by decide) (fun h => absurd h (by decide)) (fun _ => ?_)
  refine lv_iload hx hb d_Mo_feed_26 (lv_at hl 0 rfl) ?_
  refine lv_iconst (v := 4) hx hb d_Mo_feed_28 (by decide) ?_
  refine lv_icmp_ge (tgt := 36) hx hb d_Mo_feed_29 (by decide) (fun h => absurd h (by decide)) (fun _ => ?_)
  refine lv_iload_n hx hb d_Mo_feed_32 rfl (lv_at hl 3 rfl) ?_
  refine lv_goto (tgt := 72) hx hb d_Mo_feed_33 (by decide) ?_
  refine lv_istore hx hb d_Mo_feed_72 hl (by decide) rfl (fun ls hl => ?_)
  have hl : lv_has ls 8 [(7, .int a1), (6, .int 1), (0, .ref oM), (1, .int a1), (2, .int b1), (3, .int c1), (4, .int d1), (5, .int e1)] := hl
  refine lv_aload_n hx hb d_Mo_feed_74 rfl (lv_at hl 2 rfl) ?_
  refine va_get (D := (dC, dI)) (ci := 12) (v := .ref am_tape) (C := R_Mo) (T := F_Mo) (N := 87) hx hb hts (fun w h => List.mem_cons_of_mem _ (in_Mo w h)) hown hK.1 hP 0 rfl rfl 0 (by decide) (hts _ (List.mem_cons_of_mem _ mw_1794)) (fun _ h9 => h9) g104_0 d_Mo_feed_75 ?_
  refine lv_aload_n hx hb d_Mo_feed_78 rfl (lv_at hl 2 rfl) ?_
  refine va_get (D := (dC, dI)) (ci := 12) (v := .int 1) (C := R_Mo) (T := F_Mo) (N := 87) hx hb hts (fun w h => List.mem_cons_of_mem _ (in_Mo w h)) hown hK.1 hP 0 rfl rfl 1 (by decide) (hts _ (List.mem_cons_of_mem _ mw_1795)) (fun _ h9 => h9) g104_1 d_Mo_feed_79 ?_
  refine lv_iload hx hb d_Mo_feed_82 (lv_at hl 0 rfl) ?_
  refine lv_bipush (v := 24) hx hb d_Mo_feed_84 (by decide) ?_
  refine lv_bipush (v := 8) hx hb d_Mo_feed_86 (by decide) ?_
  refine lv_iload hx hb d_Mo_feed_88 (lv_at hl 1 rfl) ?_
  refine lv_iconst (v := 4) hx hb d_Mo_feed_90 (by decide) ?_
  refine lv_irem hx hb d_Mo_feed_91 (by decide) ?_
  refine lv_topi (fun x0 e0 => ?_)
  obtain rfl : x0 = 1 := e0.trans (by decide)
  refine lv_imul hx hb d_Mo_feed_92 ?_
  refine lv_topi (fun x0 e0 => ?_)
  obtain rfl : x0 = 8 := e0.trans (by decide)
  refine lv_isub hx hb d_Mo_feed_93 ?_
  refine lv_topi (fun x0 e0 => ?_)
  obtain rfl : x0 = 16 := e0.trans (by decide)
  refine lv_iushr hx hb d_Mo_feed_94 rfl ?_
  refine lv_topi (fun z94_5 ez94_5 => ?_)
  refine lv_i2b hx hb d_Mo_feed_95 rfl ?_
  refine lv_topi (fun z95_6 ez95_6 => ?_)
  refine va_bast hx hb hK.1 hP hD hS 1 1 rfl rfl (vp_in_iff.mpr (by decide)) d_Mo_feed_96 (fun H locs hP hD hS => ?_)
  have hP : va_P (dC, dI) classes [(oM, .inr (12, (fm.set 1 (.int 1)))), (am_tape, .inl (cB, 4020, .inl ((upd f96_3 (1 : Int32).toNatClampNeg (vp_nar .byte z95_6)))))] H := hP
  have hD : va_D A [(oM, .inr (12, (fm.set 1 (.int 1)))), (am_tape, .inl (cB, 4020, .inl ((upd f96_3 (1 : Int32).toNatClampNeg (vp_nar .byte z95_6)))))] := hD
  generalize (upd f96_3 (1 : Int32).toNatClampNeg (vp_nar .byte z95_6)) = f96_7 at hP hD
  refine lv_aload_n hx hb d_Mo_feed_97 rfl (lv_at hl 2 rfl) ?_
  refine lv_dup hx hb d_Mo_feed_98 rfl ?_
  refine va_get (D := (dC, dI)) (ci := 12) (v := .int 1) (C := R_Mo) (T := F_Mo) (N := 87) hx hb hts (fun w h => List.mem_cons_of_mem _ (in_Mo w h)) hown hK.1 hP 0 rfl rfl 1 (by decide) (hts _ (List.mem_cons_of_mem _ mw_1795)) (fun _ h9 => h9) g104_1 d_Mo_feed_99 ?_
  refine lv_iconst (v := 1) hx hb d_Mo_feed_102 (by decide) ?_
  refine lv_iadd hx hb d_Mo_feed_103 ?_
  refine lv_topi (fun x0 e0 => ?_)
  obtain rfl : x0 = 2 := e0.trans (by decide)
  refine va_put (D := (dC, dI)) (ci := 12) (v := .int 2) (ty := .int) (C := R_Mo) (T := F_Mo) (N := 87) hx hb hts (fun w h => List.mem_cons_of_mem _ (in_Mo w h)) t_Mo t_Mo_ok n_Mo hown hK.1 hP hD hS 0 rfl rfl 1 (by decide) (hts _ (List.mem_cons_of_mem _ mw_1795)) (fun _ h9 => h9) rfl (by decide +kernel) rfl rfl (st_lt g104_1) d_Mo_feed_104 (fun H locs hP hD hS => ?_)
  have g104_0 : fx ((fm.set 1 (.int 1)).set 1 (.int 2)) 0 (.ref am_tape) := (st_ne g104_0 (by decide))
  have g104_1 : fx ((fm.set 1 (.int 1)).set 1 (.int 2)) 1 (.int 2) := (st_eq g104_1)
  have hP : va_P (dC, dI) classes [(oM, .inr (12, ((fm.set 1 (.int 1)).set 1 (.int 2)))), (am_tape, .inl (cB, 4020, .inl f96_7))] H := hP
  have hD : va_D A [(oM, .inr (12, ((fm.set 1 (.int 1)).set 1 (.int 2)))), (am_tape, .inl (cB, 4020, .inl f96_7))] := hD
  refine lv_iinc (k := 1) (v := 2) hx hb d_Mo_feed_107 hl rfl (by first | rfl | decide | exact nI_1 i | exact pv_1 j hj) (by decide) rfl (fun ls hl => ?_)
  have hl : lv_has ls 8 [(6, .int 2), (7, .int a1), (0, .ref oM), (1, .int a1), (2, .int b1), (3, .int c1), (4, .int d1), (5, .int e1)] := hl
  refine lv_goto (tgt := 19) hx hb d_Mo_feed_110 (by decide) ?_
  refine lv_iload hx hb d_Mo_feed_19 (lv_at hl 0 rfl) ?_
  refine lv_bipush (v := 20) hx hb d_Mo_feed_21 (by decide) ?_
  refine lv_icmp_ge (tgt := 113) hx hb d_Mo_feed_23 (by decide) (fun h => absurd h (by decide)) (fun _ => ?_)
  refine lv_iload hx hb d_Mo_feed_26 (lv_at hl 0 rfl) ?_
  refine lv_iconst (v := 4) hx hb d_Mo_feed_28 (by decide) ?_
  refine lv_icmp_ge (tgt := 36) hx hb d_Mo_feed_29 (by decide) (fun h => absurd h (by decide)) (fun _ => ?_)
  refine lv_iload_n hx hb d_Mo_feed_32 rfl (lv_at hl 3 rfl) ?_
  refine lv_goto (tgt := 72) hx hb d_Mo_feed_33 (by decide) ?_
  refine lv_istore hx hb d_Mo_feed_72 hl (by decide) rfl (fun ls hl => ?_)
  have hl : lv_has ls 8 [(7, .int a1), (6, .int 2), (0, .ref oM), (1, .int a1), (2, .int b1), (3, .int c1), (4, .int d1), (5, .int e1)] := hl
  refine lv_aload_n hx hb d_Mo_feed_74 rfl (lv_at hl 2 rfl) ?_
  refine va_get (D := (dC, dI)) (ci := 12) (v := .ref am_tape) (C := R_Mo) (T := F_Mo) (N := 87) hx hb hts (fun w h => List.mem_cons_of_mem _ (in_Mo w h)) hown hK.1 hP 0 rfl rfl 0 (by decide) (hts _ (List.mem_cons_of_mem _ mw_1794)) (fun _ h9 => h9) g104_0 d_Mo_feed_75 ?_
  refine lv_aload_n hx hb d_Mo_feed_78 rfl (lv_at hl 2 rfl) ?_
  refine va_get (D := (dC, dI)) (ci := 12) (v := .int 2) (C := R_Mo) (T := F_Mo) (N := 87) hx hb hts (fun w h => List.mem_cons_of_mem _ (in_Mo w h)) hown hK.1 hP 0 rfl rfl 1 (by decide) (hts _ (List.mem_cons_of_mem _ mw_1795)) (fun _ h9 => h9) g104_1 d_Mo_feed_79 ?_
  refine lv_iload hx hb d_Mo_feed_82 (lv_at hl 0 rfl) ?_
  refine lv_bipush (v := 24) hx hb d_Mo_feed_84 (by decide) ?_
  refine lv_bipush (v := 8) hx hb d_Mo_feed_86 (by decide) ?_
  refine lv_iload hx hb d_Mo_feed_88 (lv_at hl 1 rfl) ?_
  refine lv_iconst (v := 4) hx hb d_Mo_feed_90 (by decide) ?_
  refine lv_irem hx hb d_Mo_feed_91 (by decide) ?_
  refine lv_topi (fun x0 e0 => ?_)
  obtain rfl : x0 = 2 := e0.trans (by decide)
  refine lv_imul hx hb d_Mo_feed_92 ?_
  refine lv_topi (fun x0 e0 => ?_)
  obtain rfl : x0 = 16 := e0.trans (by decide)
  refine lv_isub hx hb d_Mo_feed_93 ?_
  refine lv_topi (fun x0 e0 => ?_)
  obtain rfl : x0 = 8 := e0.trans (by decide)
  refine lv_iushr hx hb d_Mo_feed_94 rfl ?_
  refine lv_topi (fun z94_9 ez94_9 => ?_)
  refine lv_i2b hx hb d_Mo_feed_95 rfl ?_
  refine lv_topi (fun z95_10 ez95_10 => ?_)
  refine va_bast hx hb hK.1 hP hD hS 1 1 rfl rfl (vp_in_iff.mpr (by decide)) d_Mo_feed_96 (fun H locs hP hD hS => ?_)
  have hP : va_P (dC, dI) classes [(oM, .inr (12, ((fm.set 1 (.int 1)).set 1 (.int 2)))), (am_tape, .inl (cB, 4020, .inl ((upd f96_7 (2 : Int32).toNatClampNeg (vp_nar .byte z95_10)))))] H := hP
  have hD : va_D A [(oM, .inr (12, ((fm.set 1 (.int 1)).set 1 (.int 2)))), (am_tape, .inl (cB, 4020, .inl ((upd f96_7 (2 : Int32).toNatClampNeg (vp_nar .byte z95_10)))))] := hD
  generalize (upd f96_7 (2 : Int32).toNatClampNeg (vp_nar .byte z95_10)) = f96_11 at hP hD
  refine lv_aload_n hx hb d_Mo_feed_97 rfl (lv_at hl 2 rfl) ?_
  refine lv_dup hx hb d_Mo_feed_98 rfl ?_
  refine va_get (D := (dC, dI)) (ci := 12) (v := .int 2) (C := R_Mo) (T := F_Mo) (N := 87) hx hb hts (fun w h => List.mem_cons_of_mem _ (in_Mo w h)) hown hK.1 hP 0 rfl rfl 1 (by decide) (hts _ (List.mem_cons_of_mem _ mw_1795)) (fun _ h9 => h9) g104_1 d_Mo_feed_99 ?_
  refine lv_iconst (v := 1) hx hb d_Mo_feed_102 (by decide) ?_
  refine lv_iadd hx hb d_Mo_feed_103 ?_
  refine lv_topi (fun x0 e0 => ?_)
  obtain rfl : x0 = 3 := e0.trans (by decide)
  refine va_put (D := (dC, dI)) (ci := 12) (v := .int 3) (ty := .int) (C := R_Mo) (T := F_Mo) (N := 87) hx hb hts (fun w h => List.mem_cons_of_mem _ (in_Mo w h)) t_Mo t_Mo_ok n_Mo hown hK.1 hP hD hS 0 rfl rfl 1 (by decide) (hts _ (List.mem_cons_of_mem _ mw_1795)) (fun _ h9 => h9) rfl (by decide +kernel) rfl rfl (st_lt g104_1) d_Mo_feed_104 (fun H locs hP hD hS => ?_)
  have g104_0 : fx (((fm.set 1 (.int 1)).set 1 (.int 2)).set 1 (.int 3)) 0 (.ref am_tape) := (st_ne g104_0 (by decide))
  have g104_1 : fx (((fm.set 1 (.int 1)).set 1 (.int 2)).set 1 (.int 3)) 1 (.int 3) := (st_eq g104_1)
  have hP : va_P (dC, dI) classes [(oM, .inr (12, (((fm.set 1 (.int 1)).set 1 (.int 2)).set 1 (.int 3)))), (am_tape, .inl (cB, 4020, .inl f96_11))] H := hP
  have hD : va_D A [(oM, .inr (12, (((fm.set 1 (.int 1)).set 1 (.int 2)).set 1 (.int 3)))), (am_tape, .inl (cB, 4020, .inl f96_11))] := hD
  refine lv_iinc (k := 1) (v := 3) hx hb d_Mo_feed_107 hl rfl (by first | rfl | decide | exact nI_1 i | exact pv_1 j hj) (by decide) rfl (fun ls hl => ?_)
  have hl : lv_has ls 8 [(6, .int 3), (7, .int a1), (0, .ref oM), (1, .int a1), (2, .int b1), (3, .int c1), (4, .int d1), (5, .int e1)] := hl
  refine lv_goto (tgt := 19) hx hb d_Mo_feed_110 (by decide) ?_
  refine lv_iload hx hb d_Mo_feed_19 (lv_at hl 0 rfl) ?_
  refine lv_bipush (v := 20) hx hb d_Mo_feed_21 (by decide) ?_
  refine lv_icmp_ge (tgt := 113) hx hb d_Mo_feed_23 (by decide) (fun h => absurd h (by decide)) (fun _ => ?_)
  refine lv_iload hx hb d_Mo_feed_26 (lv_at hl 0 rfl) ?_
  refine lv_iconst (v := 4) hx hb d_Mo_feed_28 (by decide) ?_
  refine lv_icmp_ge (tgt := 36) hx hb d_Mo_feed_29 (by decide) (fun h => absurd h (by decide)) (fun _ => ?_)
  refine lv_iload_n hx hb d_Mo_feed_32 rfl (lv_at hl 3 rfl) ?_
  refine lv_goto (tgt := 72) hx hb d_Mo_feed_33 (by decide) ?_
  refine lv_istore hx hb d_Mo_feed_72 hl (by decide) rfl (fun ls hl => ?_)
  have hl : lv_has ls 8 [(7, .int a1), (6, .int 3), (0, .ref oM), (1, .int a1), (2, .int b1), (3, .int c1), (4, .int d1), (5, .int e1)] := hl
  refine lv_aload_n hx hb d_Mo_feed_74 rfl (lv_at hl 2 rfl) ?_
  refine va_get (D := (dC, dI)) (ci := 12) (v := .ref am_tape) (C := R_Mo) (T := F_Mo) (N := 87) hx hb hts (fun w h => List.mem_cons_of_mem _ (in_Mo w h)) hown hK.1 hP 0 rfl rfl 0 (by decide) (hts _ (List.mem_cons_of_mem _ mw_1794)) (fun _ h9 => h9) g104_0 d_Mo_feed_75 ?_
  refine lv_aload_n hx hb d_Mo_feed_78 rfl (lv_at hl 2 rfl) ?_
  refine va_get (D := (dC, dI)) (ci := 12) (v := .int 3) (C := R_Mo) (T := F_Mo) (N := 87) hx hb hts (fun w h => List.mem_cons_of_mem _ (in_Mo w h)) hown hK.1 hP 0 rfl rfl 1 (by decide) (hts _ (List.mem_cons_of_mem _ mw_1795)) (fun _ h9 => h9) g104_1 d_Mo_feed_79 ?_
  refine lv_iload hx hb d_Mo_feed_82 (lv_at hl 0 rfl) ?_
  refine lv_bipush (v := 24) hx hb d_Mo_feed_84 (by decide) ?_
  refine lv_bipush (v := 8) hx hb d_Mo_feed_86 (by decide) ?_
  refine lv_iload hx hb d_Mo_feed_88 (lv_at hl 1 rfl) ?_
  refine lv_iconst (v := 4) hx hb d_Mo_feed_90 (by decide) ?_
  refine lv_irem hx hb d_Mo_feed_91 (by decide) ?_
  refine lv_topi (fun x0 e0 => ?_)
  obtain rfl : x0 = 3 := e0.trans (by decide)
  refine lv_imul hx hb d_Mo_feed_92 ?_
  refine lv_topi (fun x0 e0 => ?_)
  obtain rfl : x0 = 24 := e0.trans (by decide)
  refine lv_isub hx hb d_Mo_feed_93 ?_
  refine lv_topi (fun x0 e0 => ?_)
  obtain rfl : x0 = 0 := e0.trans (by decide)
  refine lv_iushr hx hb d_Mo_feed_94 rfl ?_
  refine lv_topi (fun z94_13 ez94_13 => ?_)
  refine lv_i2b hx hb d_Mo_feed_95 rfl ?_
  refine lv_topi (fun z95_14 ez95_14 => ?_)
  refine va_bast hx hb hK.1 hP hD hS 1 1 rfl rfl (vp_in_iff.mpr (by decide)) d_Mo_feed_96 (fun H locs hP hD hS => ?_)
  have hP : va_P (dC, dI) classes [(oM, .inr (12, (((fm.set 1 (.int 1)).set 1 (.int 2)).set 1 (.int 3)))), (am_tape, .inl (cB, 4020, .inl ((upd f96_11 (3 : Int32).toNatClampNeg (vp_nar .byte z95_14)))))] H := hP
  have hD : va_D A [(oM, .inr (12, (((fm.set 1 (.int 1)).set 1 (.int 2)).set 1 (.int 3)))), (am_tape, .inl (cB, 4020, .inl ((upd f96_11 (3 : Int32).toNatClampNeg (vp_nar .byte z95_14)))))] := hD
  generalize (upd f96_11 (3 : Int32).toNatClampNeg (vp_nar .byte z95_14)) = f96_15 at hP hD
  refine lv_aload_n hx hb d_Mo_feed_97 rfl (lv_at hl 2 rfl) ?_
  refine lv_dup hx hb d_Mo_feed_98 rfl ?_
  refine va_get (D := (dC, dI)) (ci := 12) (v := .int 3) (C := R_Mo) (T := F_Mo) (N := 87) hx hb hts (fun w h => List.mem_cons_of_mem _ (in_Mo w h)) hown hK.1 hP 0 rfl rfl 1 (by decide) (hts _ (List.mem_cons_of_mem _ mw_1795)) (fun _ h9 => h9) g104_1 d_Mo_feed_99 ?_
  refine lv_iconst (v := 1) hx hb d_Mo_feed_102 (by decide) ?_
  refine lv_iadd hx hb d_Mo_feed_103 ?_
  refine lv_topi (fun x0 e0 => ?_)
  obtain rfl : x0 = 4 := e0.trans (by decide)
  refine va_put (D := (dC, dI)) (ci := 12) (v := .int 4) (ty := .int) (C := R_Mo) (T := F_Mo) (N := 87) hx hb hts (fun w h => List.mem_cons_of_mem _ (in_Mo w h)) t_Mo t_Mo_ok n_Mo hown hK.1 hP hD hS 0 rfl rfl 1 (by decide) (hts _ (List.mem_cons_of_mem _ mw_1795)) (fun _ h9 => h9) rfl (by decide +kernel) rfl rfl (st_lt g104_1) d_Mo_feed_104 (fun H locs hP hD hS => ?_)
  have g104_0 : fx ((((fm.set 1 (.int 1)).set 1 (.int 2)).set 1 (.int 3)).set 1 (.int 4)) 0 (.ref am_tape) := (st_ne g104_0 (by decide))
  have g104_1 : fx ((((fm.set 1 (.int 1)).set 1 (.int 2)).set 1 (.int 3)).set 1 (.int 4)) 1 (.int 4) := (st_eq g104_1)
  have hP : va_P (dC, dI) classes [(oM, .inr (12, ((((fm.set 1 (.int 1)).set 1 (.int 2)).set 1 (.int 3)).set 1 (.int 4)))), (am_tape, .inl (cB, 4020, .inl f96_15))] H := hP
  have hD : va_D A [(oM, .inr (12, ((((fm.set 1 (.int 1)).set 1 (.int 2)).set 1 (.int 3)).set 1 (.int 4)))), (am_tape, .inl (cB, 4020, .inl f96_15))] := hD
  refine lv_iinc (k := 1) (v := 4) hx hb d_Mo_feed_107 hl rfl (by first | rfl | decide | exact nI_1 i | exact pv_1 j hj) (by decide) rfl (fun ls hl => ?_)
  have hl : lv_has ls 8 [(6, .int 4), (7, .int a1), (0, .ref oM), (1, .int a1), (2, .int b1), (3, .int c1), (4, .int d1), (5, .int e1)] := hl
  refine lv_goto (tgt := 19) hx hb d_Mo_feed_110 (by decide) ?_
  refine lv_iload hx hb d_Mo_feed_19 (lv_at hl 0 rfl) ?_
  refine lv_bipush (v := 20) hx hb d_Mo_feed_21 (by decide) ?_
  refine lv_icmp_ge (tgt := 113) hx hb d_Mo_feed_23 (by decide) (fun h => absurd h (by decide)) (fun _ => ?_)
  refine lv_iload hx hb d_Mo_feed_26 (lv_at hl 0 rfl) ?_
  refine lv_iconst (v := 4) hx hb d_Mo_feed_28 (by decide) ?_
  refine lv_icmp_ge (tgt := 36) hx hb d_Mo_feed_29 (by decide) (fun _ => ?_) (fun h => absurd (by decide) h)
  refine lv_iload hx hb d_Mo_feed_36 (lv_at hl 0 rfl) ?_
  refine lv_bipush (v := 8) hx hb d_Mo_feed_38 (by decide) ?_
  refine lv_icmp_ge (tgt := 47) hx hb d_Mo_feed_40 (by decide) (fun h => absurd h (by decide)) (fun _ => ?_)
  refine lv_iload_n hx hb d_Mo_feed_43 rfl (lv_at hl 4 rfl) ?_
  refine lv_goto (tgt := 72) hx hb d_Mo_feed_44 (by decide) ?_
  refine lv_istore hx hb d_Mo_feed_72 hl (by decide) rfl (fun ls hl => ?_)
  have hl : lv_has ls 8 [(7, .int b1), (6, .int 4), (0, .ref oM), (1, .int a1), (2, .int b1), (3, .int c1), (4, .int d1), (5, .int e1)] := hl
  refine lv_aload_n hx hb d_Mo_feed_74 rfl (lv_at hl 2 rfl) ?_
  refine va_get (D := (dC, dI)) (ci := 12) (v := .ref am_tape) (C := R_Mo) (T := F_Mo) (N := 87) hx hb hts (fun w h => List.mem_cons_of_mem _ (in_Mo w h)) hown hK.1 hP 0 rfl rfl 0 (by decide) (hts _ (List.mem_cons_of_mem _ mw_1794)) (fun _ h9 => h9) g104_0 d_Mo_feed_75 ?_
  refine lv_aload_n hx hb d_Mo_feed_78 rfl (lv_at hl 2 rfl) ?_
  refine va_get (D := (dC, dI)) (ci := 12) (v := .int 4) (C := R_Mo) (T := F_Mo) (N := 87) hx hb hts (fun w h => List.mem_cons_of_mem _ (in_Mo w h)) hown hK.1 hP 0 rfl rfl 1 (by decide) (hts _ (List.mem_cons_of_mem _ mw_1795)) (fun _ h9 => h9) g104_1 d_Mo_feed_79 ?_
  refine lv_iload hx hb d_Mo_feed_82 (lv_at hl 0 rfl) ?_
  refine lv_bipush (v := 24) hx hb d_Mo_feed_84 (by decide) ?_
  refine lv_bipush (v := 8) hx hb d_Mo_feed_86 (by decide) ?_
  refine lv_iload hx hb d_Mo_feed_88 (lv_at hl 1 rfl) ?_
  refine lv_iconst (v := 4) hx hb d_Mo_feed_90 (by decide) ?_
  refine lv_irem hx hb d_Mo_feed_91 (by decide) ?_
  refine lv_topi (fun x0 e0 => ?_)
  obtain rfl : x0 = 0 := e0.trans (by decide)
  refine lv_imul hx hb d_Mo_feed_92 ?_
  refine lv_topi (fun x0 e0 => ?_)
  obtain rfl : x0 = 0 := e0.trans (by decide)
  refine lv_isub hx hb d_Mo_feed_93 ?_
  refine lv_topi (fun x0 e0 => ?_)
  obtain rfl : x0 = 24 := e0.trans (by decide)
  refine lv_iushr hx hb d_Mo_feed_94 rfl ?_
  refine lv_topi (fun z94_17 ez94_17 => ?_)
  refine lv_i2b hx hb d_Mo_feed_95 rfl ?_
  refine lv_topi (fun z95_18 ez95_18 => ?_)
  refine va_bast hx hb hK.1 hP hD hS 1 1 rfl rfl (vp_in_iff.mpr (by decide)) d_Mo_feed_96 (fun H locs hP hD hS => ?_)
  have hP : va_P (dC, dI) classes [(oM, .inr (12, ((((fm.set 1 (.int 1)).set 1 (.int 2)).set 1 (.int 3)).set 1 (.int 4)))), (am_tape, .inl (cB, 4020, .inl ((upd f96_15 (4 : Int32).toNatClampNeg (vp_nar .byte z95_18)))))] H := hP
  have hD : va_D A [(oM, .inr (12, ((((fm.set 1 (.int 1)).set 1 (.int 2)).set 1 (.int 3)).set 1 (.int 4)))), (am_tape, .inl (cB, 4020, .inl ((upd f96_15 (4 : Int32).toNatClampNeg (vp_nar .byte z95_18)))))] := hD
  generalize (upd f96_15 (4 : Int32).toNatClampNeg (vp_nar .byte z95_18)) = f96_19 at hP hD
  refine lv_aload_n hx hb d_Mo_feed_97 rfl (lv_at hl 2 rfl) ?_
  refine lv_dup hx hb d_Mo_feed_98 rfl ?_
  refine va_get (D := (dC, dI)) (ci := 12) (v := .int 4) (C := R_Mo) (T := F_Mo) (N := 87) hx hb hts (fun w h => List.mem_cons_of_mem _ (in_Mo w h)) hown hK.1 hP 0 rfl rfl 1 (by decide) (hts _ (List.mem_cons_of_mem _ mw_1795)) (fun _ h9 => h9) g104_1 d_Mo_feed_99 ?_
  refine lv_iconst (v := 1) hx hb d_Mo_feed_102 (by decide) ?_
  refine lv_iadd hx hb d_Mo_feed_103 ?_
  refine lv_topi (fun x0 e0 => ?_)
  obtain rfl : x0 = 5 := e0.trans (by decide)
  refine va_put (D := (dC, dI)) (ci := 12) (v := .int 5) (ty := .int) (C := R_Mo) (T := F_Mo) (N := 87) hx hb hts (fun w h => List.mem_cons_of_mem _ (in_Mo w h)) t_Mo t_Mo_ok n_Mo hown hK.1 hP hD hS 0 rfl rfl 1 (by decide) (hts _ (List.mem_cons_of_mem _ mw_1795)) (fun _ h9 => h9) rfl (by decide +kernel) rfl rfl (st_lt g104_1) d_Mo_feed_104 (fun H locs hP hD hS => ?_)
  have g104_0 : fx (((((fm.set 1 (.int 1)).set 1 (.int 2)).set 1 (.int 3)).set 1 (.int 4)).set 1 (.int 5)) 0 (.ref am_tape) := (st_ne g104_0 (by decide))
  have g104_1 : fx (((((fm.set 1 (.int 1)).set 1 (.int 2)).set 1 (.int 3)).set 1 (.int 4)).set 1 (.int 5)) 1 (.int 5) := (st_eq g104_1)
  have hP : va_P (dC, dI) classes [(oM, .inr (12, (((((fm.set 1 (.int 1)).set 1 (.int 2)).set 1 (.int 3)).set 1 (.int 4)).set 1 (.int 5)))), (am_tape, .inl (cB, 4020, .inl f96_19))] H := hP
  have hD : va_D A [(oM, .inr (12, (((((fm.set 1 (.int 1)).set 1 (.int 2)).set 1 (.int 3)).set 1 (.int 4)).set 1 (.int 5)))), (am_tape, .inl (cB, 4020, .inl f96_19))] := hD
  refine lv_iinc (k := 1) (v := 5) hx hb d_Mo_feed_107 hl rfl (by first | rfl | decide | exact nI_1 i | exact pv_1 j hj) (by decide) rfl (fun ls hl => ?_)
  have hl : lv_has ls 8 [(6, .int 5), (7, .int b1), (0, .ref oM), (1, .int a1), (2, .int b1), (3, .int c1), (4, .int d1), (5, .int e1)] := hl
  refine lv_goto (tgt := 19) hx hb d_Mo_feed_110 (by decide) ?_
  refine lv_iload hx hb d_Mo_feed_19 (lv_at hl 0 rfl) ?_
  refine lv_bipush (v := 20) hx hb d_Mo_feed_21 (by decide) ?_
  refine lv_icmp_ge (tgt := 113) hx hb d_Mo_feed_23 (by decide) (fun h => absurd h (by decide)) (fun _ => ?_)
  refine lv_iload hx hb d_Mo_feed_26 (lv_at hl 0 rfl) ?_
  refine lv_iconst (v := 4) hx hb d_Mo_feed_28 (by decide) ?_
  refine lv_icmp_ge (tgt := 36) hx hb d_Mo_feed_29 (by decide) (fun _ => ?_) (fun h => absurd (by decide) h)
  refine lv_iload hx hb d_Mo_feed_36 (lv_at hl 0 rfl) ?_
  refine lv_bipush (v := 8) hx hb d_Mo_feed_38 (by decide) ?_
  refine lv_icmp_ge (tgt := 47) hx hb d_Mo_feed_40 (by decide) (fun h => absurd h (by decide)) (fun _ => ?_)
  refine lv_iload_n hx hb d_Mo_feed_43 rfl (lv_at hl 4 rfl) ?_
  refine lv_goto (tgt := 72) hx hb d_Mo_feed_44 (by decide) ?_
  refine lv_istore hx hb d_Mo_feed_72 hl (by decide) rfl (fun ls hl => ?_)
  have hl : lv_has ls 8 [(7, .int b1), (6, .int 5), (0, .ref oM), (1, .int a1), (2, .int b1), (3, .int c1), (4, .int d1), (5, .int e1)] := hl
  refine lv_aload_n hx hb d_Mo_feed_74 rfl (lv_at hl 2 rfl) ?_
  refine va_get (D := (dC, dI)) (ci := 12) (v := .ref am_tape) (C := R_Mo) (T := F_Mo) (N := 87) hx hb hts (fun w h => List.mem_cons_of_mem _ (in_Mo w h)) hown hK.1 hP 0 rfl rfl 0 (by decide) (hts _ (List.mem_cons_of_mem _ mw_1794)) (fun _ h9 => h9) g104_0 d_Mo_feed_75 ?_
  refine lv_aload_n hx hb d_Mo_feed_78 rfl (lv_at hl 2 rfl) ?_
  refine va_get (D := (dC, dI)) (ci := 12) (v := .int 5) (C := R_Mo) (T := F_Mo) (N := 87) hx hb hts (fun w h => List.mem_cons_of_mem _ (in_Mo w h)) hown hK.1 hP 0 rfl rfl 1 (by decide) (hts _ (List.mem_cons_of_mem _ mw_1795)) (fun _ h9 => h9) g104_1 d_Mo_feed_79 ?_
  refine lv_iload hx hb d_Mo_feed_82 (lv_at hl 0 rfl) ?_
  refine lv_bipush (v := 24) hx hb d_Mo_feed_84 (by decide) ?_
  refine lv_bipush (v := 8) hx hb d_Mo_feed_86 (by decide) ?_
  refine lv_iload hx hb d_Mo_feed_88 (lv_at hl 1 rfl) ?_
  refine lv_iconst (v := 4) hx hb d_Mo_feed_90 (by decide) ?_
  refine lv_irem hx hb d_Mo_feed_91 (by decide) ?_
  refine lv_topi (fun x0 e0 => ?_)
  obtain rfl : x0 = 1 := e0.trans (by decide)
  refine lv_imul hx hb d_Mo_feed_92 ?_
  refine lv_topi (fun x0 e0 => ?_)
  obtain rfl : x0 = 8 := e0.trans (by decide)
  refine lv_isub hx hb d_Mo_feed_93 ?_
  refine lv_topi (fun x0 e0 => ?_)
  obtain rfl : x0 = 16 := e0.trans (by decide)
  refine lv_iushr hx hb d_Mo_feed_94 rfl ?_
  refine lv_topi (fun z94_21 ez94_21 => ?_)
  refine lv_i2b hx hb d_Mo_feed_95 rfl ?_
  refine lv_topi (fun z95_22 ez95_22 => ?_)
  refine va_bast hx hb hK.1 hP hD hS 1 1 rfl rfl (vp_in_iff.mpr (by decide)) d_Mo_feed_96 (fun H locs hP hD hS => ?_)
  have hP : va_P (dC, dI) classes [(oM, .inr (12, (((((fm.set 1 (.int 1)).set 1 (.int 2)).set 1 (.int 3)).set 1 (.int 4)).set 1 (.int 5)))), (am_tape, .inl (cB, 4020, .inl ((upd f96_19 (5 : Int32).toNatClampNeg (vp_nar .byte z95_22)))))] H := hP
  have hD : va_D A [(oM, .inr (12, (((((fm.set 1 (.int 1)).set 1 (.int 2)).set 1 (.int 3)).set 1 (.int 4)).set 1 (.int 5)))), (am_tape, .inl (cB, 4020, .inl ((upd f96_19 (5 : Int32).toNatClampNeg (vp_nar .byte z95_22)))))] := hD
  generalize (upd f96_19 (5 : Int32).toNatClampNeg (vp_nar .byte z95_22)) = f96_23 at hP hD
  refine lv_aload_n hx hb d_Mo_feed_97 rfl (lv_at hl 2 rfl) ?_
  refine lv_dup hx hb d_Mo_feed_98 rfl ?_
  refine va_get (D := (dC, dI)) (ci := 12) (v := .int 5) (C := R_Mo) (T := F_Mo) (N := 87) hx hb hts (fun w h => List.mem_cons_of_mem _ (in_Mo w h)) hown hK.1 hP 0 rfl rfl 1 (by decide) (hts _ (List.mem_cons_of_mem _ mw_1795)) (fun _ h9 => h9) g104_1 d_Mo_feed_99 ?_
  refine lv_iconst (v := 1) hx hb d_Mo_feed_102 (by decide) ?_
  refine lv_iadd hx hb d_Mo_feed_103 ?_
  refine lv_topi (fun x0 e0 => ?_)
  obtain rfl : x0 = 6 := e0.trans (by decide)
  refine va_put (D := (dC, dI)) (ci := 12) (v := .int 6) (ty := .int) (C := R_Mo) (T := F_Mo) (N := 87) hx hb hts (fun w h => List.mem_cons_of_mem _ (in_Mo w h)) t_Mo t_Mo_ok n_Mo hown hK.1 hP hD hS 0 rfl rfl 1 (by decide) (hts _ (List.mem_cons_of_mem _ mw_1795)) (fun _ h9 => h9) rfl (by decide +kernel) rfl rfl (st_lt g104_1) d_Mo_feed_104 (fun H locs hP hD hS => ?_)
  have g104_0 : fx ((((((fm.set 1 (.int 1)).set 1 (.int 2)).set 1 (.int 3)).set 1 (.int 4)).set 1 (.int 5)).set 1 (.int 6)) 0 (.ref am_tape) := (st_ne g104_0 (by decide))
  have g104_1 : fx ((((((fm.set 1 (.int 1)).set 1 (.int 2)).set 1 (.int 3)).set 1 (.int 4)).set 1 (.int 5)).set 1 (.int 6)) 1 (.int 6) := (st_eq g104_1)
  have hP : va_P (dC, dI) classes [(oM, .inr (12, ((((((fm.set 1 (.int 1)).set 1 (.int 2)).set 1 (.int 3)).set 1 (.int 4)).set 1 (.int 5)).set 1 (.int 6)))), (am_tape, .inl (cB, 4020, .inl f96_23))] H := hP
  have hD : va_D A [(oM, .inr (12, ((((((fm.set 1 (.int 1)).set 1 (.int 2)).set 1 (.int 3)).set 1 (.int 4)).set 1 (.int 5)).set 1 (.int 6)))), (am_tape, .inl (cB, 4020, .inl f96_23))] := hD
  refine lv_iinc (k := 1) (v := 6) hx hb d_Mo_feed_107 hl rfl (by first | rfl | decide | exact nI_1 i | exact pv_1 j hj) (by decide) rfl (fun ls hl => ?_)
  have hl : lv_has ls 8 [(6, .int 6), (7, .int b1), (0, .ref oM), (1, .int a1), (2, .int b1), (3, .int c1), (4, .int d1), (5, .int e1)] := hl
  refine lv_goto (tgt := 19) hx hb d_Mo_feed_110 (by decide) ?_
  refine lv_iload hx hb d_Mo_feed_19 (lv_at hl 0 rfl) ?_
  refine lv_bipush (v := 20) hx hb d_Mo_feed_21 (by decide) ?_
  refine lv_icmp_ge (tgt := 113) hx hb d_Mo_feed_23 (by decide) (fun h => absurd h (by decide)) (fun _ => ?_)
  refine lv_iload hx hb d_Mo_feed_26 (lv_at hl 0 rfl) ?_
  refine lv_iconst (v := 4) hx hb d_Mo_feed_28 (by decide) ?_
  refine lv_icmp_ge (tgt := 36) hx hb d_Mo_feed_29 (by decide) (fun _ => ?_) (fun h => absurd (by decide) h)
  refine lv_iload hx hb d_Mo_feed_36 (lv_at hl 0 rfl) ?_
  refine lv_bipush (v := 8) hx hb d_Mo_feed_38 (by decide) ?_
  refine lv_icmp_ge (tgt := 47) hx hb d_Mo_feed_40 (by decide) (fun h => absurd h (by decide)) (fun _ => ?_)
  refine lv_iload_n hx hb d_Mo_feed_43 rfl (lv_at hl 4 rfl) ?_
  refine lv_goto (tgt := 72) hx hb d_Mo_feed_44 (by decide) ?_
  refine lv_istore hx hb d_Mo_feed_72 hl (by decide) rfl (fun ls hl => ?_)
  have hl : lv_has ls 8 [(7, .int b1), (6, .int 6), (0, .ref oM), (1, .int a1), (2, .int b1), (3, .int c1), (4, .int d1), (5, .int e1)] := hl
  refine lv_aload_n hx hb d_Mo_feed_74 rfl (lv_at hl 2 rfl) ?_
  refine va_get (D := (dC, dI)) (ci := 12) (v := .ref am_tape) (C := R_Mo) (T := F_Mo) (N := 87) hx hb hts (fun w h => List.mem_cons_of_mem _ (in_Mo w h)) hown hK.1 hP 0 rfl rfl 0 (by decide) (hts _ (List.mem_cons_of_mem _ mw_1794)) (fun _ h9 => h9) g104_0 d_Mo_feed_75 ?_
  refine lv_aload_n hx hb d_Mo_feed_78 rfl (lv_at hl 2 rfl) ?_
  refine va_get (D := (dC, dI)) (ci := 12) (v := .int 6) (C := R_Mo) (T := F_Mo) (N := 87) hx hb hts (fun w h => List.mem_cons_of_mem _ (in_Mo w h)) hown hK.1 hP 0 rfl rfl 1 (by decide) (hts _ (List.mem_cons_of_mem _ mw_1795)) (fun _ h9 => h9) g104_1 d_Mo_feed_79 ?_
  refine lv_iload hx hb d_Mo_feed_82 (lv_at hl 0 rfl) ?_
  refine lv_bipush (v := 24) hx hb d_Mo_feed_84 (by decide) ?_
  refine lv_bipush (v := 8) hx hb d_Mo_feed_86 (by decide) ?_
  refine lv_iload hx hb d_Mo_feed_88 (lv_at hl 1 rfl) ?_
  refine lv_iconst (v := 4) hx hb d_Mo_feed_90 (by decide) ?_
  refine lv_irem hx hb d_Mo_feed_91 (by decide) ?_
  refine lv_topi (fun x0 e0 => ?_)
  obtain rfl : x0 = 2 := e0.trans (by decide)
  refine lv_imul hx hb d_Mo_feed_92 ?_
  refine lv_topi (fun x0 e0 => ?_)
  obtain rfl : x0 = 16 := e0.trans (by decide)
  refine lv_isub hx hb d_Mo_feed_93 ?_
  refine lv_topi (fun x0 e0 => ?_)
  obtain rfl : x0 = 8 := e0.trans (by decide)
  refine lv_iushr hx hb d_Mo_feed_94 rfl ?_
  refine lv_topi (fun z94_25 ez94_25 => ?_)
  refine lv_i2b hx hb d_Mo_feed_95 rfl ?_
  refine lv_topi (fun z95_26 ez95_26 => ?_)
  refine va_bast hx hb hK.1 hP hD hS 1 1 rfl rfl (vp_in_iff.mpr (by decide)) d_Mo_feed_96 (fun H locs hP hD hS => ?_)
  have hP : va_P (dC, dI) classes [(oM, .inr (12, ((((((fm.set 1 (.int 1)).set 1 (.int 2)).set 1 (.int 3)).set 1 (.int 4)).set 1 (.int 5)).set 1 (.int 6)))), (am_tape, .inl (cB, 4020, .inl ((upd f96_23 (6 : Int32).toNatClampNeg (vp_nar .byte z95_26)))))] H := hP
  have hD : va_D A [(oM, .inr (12, ((((((fm.set 1 (.int 1)).set 1 (.int 2)).set 1 (.int 3)).set 1 (.int 4)).set 1 (.int 5)).set 1 (.int 6)))), (am_tape, .inl (cB, 4020, .inl ((upd f96_23 (6 : Int32).toNatClampNeg (vp_nar .byte z95_26)))))] := hD
  generalize (upd f96_23 (6 : Int32).toNatClampNeg (vp_nar .byte z95_26)) = f96_27 at hP hD
  refine lv_aload_n hx hb d_Mo_feed_97 rfl (lv_at hl 2 rfl) ?_
  refine lv_dup hx hb d_Mo_feed_98 rfl ?_
  refine va_get (D := (dC, dI)) (ci := 12) (v := .int 6) (C := R_Mo) (T := F_Mo) (N := 87) hx hb hts (fun w h => List.mem_cons_of_mem _ (in_Mo w h)) hown hK.1 hP 0 rfl rfl 1 (by decide) (hts _ (List.mem_cons_of_mem _ mw_1795)) (fun _ h9 => h9) g104_1 d_Mo_feed_99 ?_
  refine lv_iconst (v := 1) hx hb d_Mo_feed_102 (by decide) ?_
  refine lv_iadd hx hb d_Mo_feed_103 ?_
  refine lv_topi (fun x0 e0 => ?_)
  obtain rfl : x0 = 7 := e0.trans (by decide)
  refine va_put (D := (dC, dI)) (ci := 12) (v := .int 7) (ty := .int) (C := R_Mo) (T := F_Mo) (N := 87) hx hb hts (fun w h => List.mem_cons_of_mem _ (in_Mo w h)) t_Mo t_Mo_ok n_Mo hown hK.1 hP hD hS 0 rfl rfl 1 (by decide) (hts _ (List.mem_cons_of_mem _ mw_1795)) (fun _ h9 => h9) rfl (by decide +kernel) rfl rfl (st_lt g104_1) d_Mo_feed_104 (fun H locs hP hD hS => ?_)
  have g104_0 : fx (((((((fm.set 1 (.int 1)).set 1 (.int 2)).set 1 (.int 3)).set 1 (.int 4)).set 1 (.int 5)).set 1 (.int 6)).set 1 (.int 7)) 0 (.ref am_tape) := (st_ne g104_0 (by decide))
  have g104_1 : fx (((((((fm.set 1 (.int 1)).set 1 (.int 2)).set 1 (.int 3)).set 1 (.int 4)).set 1 (.int 5)).set 1 (.int 6)).set 1 (.int 7)) 1 (.int 7) := (st_eq g104_1)
  have hP : va_P (dC, dI) classes [(oM, .inr (12, (((((((fm.set 1 (.int 1)).set 1 (.int 2)).set 1 (.int 3)).set 1 (.int 4)).set 1 (.int 5)).set 1 (.int 6)).set 1 (.int 7)))), (am_tape, .inl (cB, 4020, .inl f96_27))] H := hP
  have hD : va_D A [(oM, .inr (12, (((((((fm.set 1 (.int 1)).set 1 (.int 2)).set 1 (.int 3)).set 1 (.int 4)).set 1 (.int 5)).set 1 (.int 6)).set 1 (.int 7)))), (am_tape, .inl (cB, 4020, .inl f96_27))] := hD
  refine lv_iinc (k := 1) (v := 7) hx hb d_Mo_feed_107 hl rfl (by first | rfl | decide | exact nI_1 i | exact pv_1 j hj) (by decide) rfl (fun ls hl => ?_)
  have hl : lv_has ls 8 [(6, .int 7), (7, .int b1), (0, .ref oM), (1, .int a1), (2, .int b1), (3, .int c1), (4, .int d1), (5, .int e1)] := hl
  refine lv_goto (tgt := 19) hx hb d_Mo_feed_110 (by decide) ?_
  refine lv_iload hx hb d_Mo_feed_19 (lv_at hl 0 rfl) ?_
  refine lv_bipush (v := 20) hx hb d_Mo_feed_21 (by decide) ?_
  refine lv_icmp_ge (tgt := 113) hx hb d_Mo_feed_23 (by decide) (fun h => absurd h (by decide)) (fun _ => ?_)
  refine lv_iload hx hb d_Mo_feed_26 (lv_at hl 0 rfl) ?_
  refine lv_iconst (v := 4) hx hb d_Mo_feed_28 (by decide) ?_
  refine lv_icmp_ge (tgt := 36) hx hb d_Mo_feed_29 (by decide) (fun _ => ?_) (fun h => absurd (by decide) h)
  refine lv_iload hx hb d_Mo_feed_36 (lv_at hl 0 rfl) ?_
  refine lv_bipush (v := 8) hx hb d_Mo_feed_38 (by decide) ?_
  refine lv_icmp_ge (tgt := 47) hx hb d_Mo_feed_40 (by decide) (fun h => absurd h (by decide)) (fun _ => ?_)
  refine lv_iload_n hx hb d_Mo_feed_43 rfl (lv_at hl 4 rfl) ?_
  refine lv_goto (tgt := 72) hx hb d_Mo_feed_44 (by decide) ?_
  refine lv_istore hx hb d_Mo_feed_72 hl (by decide) rfl (fun ls hl => ?_)
  have hl : lv_has ls 8 [(7, .int b1), (6, .int 7), (0, .ref oM), (1, .int a1), (2, .int b1), (3, .int c1), (4, .int d1), (5, .int e1)] := hl
  refine lv_aload_n hx hb d_Mo_feed_74 rfl (lv_at hl 2 rfl) ?_
  refine va_get (D := (dC, dI)) (ci := 12) (v := .ref am_tape) (C := R_Mo) (T := F_Mo) (N := 87) hx hb hts (fun w h => List.mem_cons_of_mem _ (in_Mo w h)) hown hK.1 hP 0 rfl rfl 0 (by decide) (hts _ (List.mem_cons_of_mem _ mw_1794)) (fun _ h9 => h9) g104_0 d_Mo_feed_75 ?_
  refine lv_aload_n hx hb d_Mo_feed_78 rfl (lv_at hl 2 rfl) ?_
  refine va_get (D := (dC, dI)) (ci := 12) (v := .int 7) (C := R_Mo) (T := F_Mo) (N := 87) hx hb hts (fun w h => List.mem_cons_of_mem _ (in_Mo w h)) hown hK.1 hP 0 rfl rfl 1 (by decide) (hts _ (List.mem_cons_of_mem _ mw_1795)) (fun _ h9 => h9) g104_1 d_Mo_feed_79 ?_
  refine lv_iload hx hb d_Mo_feed_82 (lv_at hl 0 rfl) ?_
  refine lv_bipush (v := 24) hx hb d_Mo_feed_84 (by decide) ?_
  refine lv_bipush (v := 8) hx hb d_Mo_feed_86 (by decide) ?_
  refine lv_iload hx hb d_Mo_feed_88 (lv_at hl 1 rfl) ?_
  refine lv_iconst (v := 4) hx hb d_Mo_feed_90 (by decide) ?_
  refine lv_irem hx hb d_Mo_feed_91 (by decide) ?_
  refine lv_topi (fun x0 e0 => ?_)
  obtain rfl : x0 = 3 := e0.trans (by decide)
  refine lv_imul hx hb d_Mo_feed_92 ?_
  refine lv_topi (fun x0 e0 => ?_)
  obtain rfl : x0 = 24 := e0.trans (by decide)
  refine lv_isub hx hb d_Mo_feed_93 ?_
  refine lv_topi (fun x0 e0 => ?_)
  obtain rfl : x0 = 0 := e0.trans (by decide)
  refine lv_iushr hx hb d_Mo_feed_94 rfl ?_
  refine lv_topi (fun z94_29 ez94_29 => ?_)
  refine lv_i2b hx hb d_Mo_feed_95 rfl ?_
  refine lv_topi (fun z95_30 ez95_30 => ?_)
  refine va_bast hx hb hK.1 hP hD hS 1 1 rfl rfl (vp_in_iff.mpr (by decide)) d_Mo_feed_96 (fun H locs hP hD hS => ?_)
  have hP : va_P (dC, dI) classes [(oM, .inr (12, (((((((fm.set 1 (.int 1)).set 1 (.int 2)).set 1 (.int 3)).set 1 (.int 4)).set 1 (.int 5)).set 1 (.int 6)).set 1 (.int 7)))), (am_tape, .inl (cB, 4020, .inl ((upd f96_27 (7 : Int32).toNatClampNeg (vp_nar .byte z95_30)))))] H := hP
  have hD : va_D A [(oM, .inr (12, (((((((fm.set 1 (.int 1)).set 1 (.int 2)).set 1 (.int 3)).set 1 (.int 4)).set 1 (.int 5)).set 1 (.int 6)).set 1 (.int 7)))), (am_tape, .inl (cB, 4020, .inl ((upd f96_27 (7 : Int32).toNatClampNeg (vp_nar .byte z95_30)))))] := hD
  generalize (upd f96_27 (7 : Int32).toNatClampNeg (vp_nar .byte z95_30)) = f96_31 at hP hD
  refine lv_aload_n hx hb d_Mo_feed_97 rfl (lv_at hl 2 rfl) ?_
  refine lv_dup hx hb d_Mo_feed_98 rfl ?_
  refine va_get (D := (dC, dI)) (ci := 12) (v := .int 7) (C := R_Mo) (T := F_Mo) (N := 87) hx hb hts (fun w h => List.mem_cons_of_mem _ (in_Mo w h)) hown hK.1 hP 0 rfl rfl 1 (by decide) (hts _ (List.mem_cons_of_mem _ mw_1795)) (fun _ h9 => h9) g104_1 d_Mo_feed_99 ?_
  refine lv_iconst (v := 1) hx hb d_Mo_feed_102 (by decide) ?_
  refine lv_iadd hx hb d_Mo_feed_103 ?_
  refine lv_topi (fun x0 e0 => ?_)
  obtain rfl : x0 = 8 := e0.trans (by decide)
  refine va_put (D := (dC, dI)) (ci := 12) (v := .int 8) (ty := .int) (C := R_Mo) (T := F_Mo) (N := 87) hx hb hts (fun w h => List.mem_cons_of_mem _ (in_Mo w h)) t_Mo t_Mo_ok n_Mo hown hK.1 hP hD hS 0 rfl rfl 1 (by decide) (hts _ (List.mem_cons_of_mem _ mw_1795)) (fun _ h9 => h9) rfl (by decide +kernel) rfl rfl (st_lt g104_1) d_Mo_feed_104 (fun H locs hP hD hS => ?_)
  have g104_0 : fx ((((((((fm.set 1 (.int 1)).set 1 (.int 2)).set 1 (.int 3)).set 1 (.int 4)).set 1 (.int 5)).set 1 (.int 6)).set 1 (.int 7)).set 1 (.int 8)) 0 (.ref am_tape) := (st_ne g104_0 (by decide))
  have g104_1 : fx ((((((((fm.set 1 (.int 1)).set 1 (.int 2)).set 1 (.int 3)).set 1 (.int 4)).set 1 (.int 5)).set 1 (.int 6)).set 1 (.int 7)).set 1 (.int 8)) 1 (.int 8) := (st_eq g104_1)
  have hP : va_P (dC, dI) classes [(oM, .inr (12, ((((((((fm.set 1 (.int 1)).set 1 (.int 2)).set 1 (.int 3)).set 1 (.int 4)).set 1 (.int 5)).set 1 (.int 6)).set 1 (.int 7)).set 1 (.int 8)))), (am_tape, .inl (cB, 4020, .inl f96_31))] H := hP
  have hD : va_D A [(oM, .inr (12, ((((((((fm.set 1 (.int 1)).set 1 (.int 2)).set 1 (.int 3)).set 1 (.int 4)).set 1 (.int 5)).set 1 (.int 6)).set 1 (.int 7)).set 1 (.int 8)))), (am_tape, .inl (cB, 4020, .inl f96_31))] := hD
  refine lv_iinc (k := 1) (v := 8) hx hb d_Mo_feed_107 hl rfl (by first | rfl | decide | exact nI_1 i | exact pv_1 j hj) (by decide) rfl (fun ls hl => ?_)
  have hl : lv_has ls 8 [(6, .int 8), (7, .int b1), (0, .ref oM), (1, .int a1), (2, .int b1), (3, .int c1), (4, .int d1), (5, .int e1)] := hl
  refine lv_goto (tgt := 19) hx hb d_Mo_feed_110 (by decide) ?_
  refine lv_iload hx hb d_Mo_feed_19 (lv_at hl 0 rfl) ?_
  refine lv_bipush (v := 20) hx hb d_Mo_feed_21 (by decide) ?_
  refine lv_icmp_ge (tgt := 113) hx hb d_Mo_feed_23 (by decide) (fun h => absurd h (by decide)) (fun _ => ?_)
  refine lv_iload hx hb d_Mo_feed_26 (lv_at hl 0 rfl) ?_
  refine lv_iconst (v := 4) hx hb d_Mo_feed_28 (by decide) ?_
  refine lv_icmp_ge (tgt := 36) hx hb d_Mo_feed_29 (by decide) (fun _ => ?_) (fun h => absurd (by decide) h)
  refine lv_iload hx hb d_Mo_feed_36 (lv_at hl 0 rfl) ?_
  refine lv_bipush (v := 8) hx hb d_Mo_feed_38 (by decide) ?_
  refine lv_icmp_ge (tgt := 47) hx hb d_Mo_feed_40 (by decide) (fun _ => ?_) (fun h => absurd (by decide) h)
  refine lv_iload hx hb d_Mo_feed_47 (lv_at hl 0 rfl) ?_
  refine lv_bipush (v := 12) hx hb d_Mo_feed_49 (by decide) ?_
  refine lv_icmp_ge (tgt := 58) hx hb d_Mo_feed_51 (by decide) (fun h => absurd h (by decide)) (fun _ => ?_)
  refine lv_iload_n hx hb d_Mo_feed_54 rfl (lv_at hl 5 rfl) ?_
  refine lv_goto (tgt := 72) hx hb d_Mo_feed_55 (by decide) ?_
  refine lv_istore hx hb d_Mo_feed_72 hl (by decide) rfl (fun ls hl => ?_)
  have hl : lv_has ls 8 [(7, .int c1), (6, .int 8), (0, .ref oM), (1, .int a1), (2, .int b1), (3, .int c1), (4, .int d1), (5, .int e1)] := hl
  refine lv_aload_n hx hb d_Mo_feed_74 rfl (lv_at hl 2 rfl) ?_
  refine va_get (D := (dC, dI)) (ci := 12) (v := .ref am_tape) (C := R_Mo) (T := F_Mo) (N := 87) hx hb hts (fun w h => List.mem_cons_of_mem _ (in_Mo w h)) hown hK.1 hP 0 rfl rfl 0 (by decide) (hts _ (List.mem_cons_of_mem _ mw_1794)) (fun _ h9 => h9) g104_0 d_Mo_feed_75 ?_
  refine lv_aload_n hx hb d_Mo_feed_78 rfl (lv_at hl 2 rfl) ?_
  refine va_get (D := (dC, dI)) (ci := 12) (v := .int 8) (C := R_Mo) (T := F_Mo) (N := 87) hx hb hts (fun w h => List.mem_cons_of_mem _ (in_Mo w h)) hown hK.1 hP 0 rfl rfl 1 (by decide) (hts _ (List.mem_cons_of_mem _ mw_1795)) (fun _ h9 => h9) g104_1 d_Mo_feed_79 ?_
  refine lv_iload hx hb d_Mo_feed_82 (lv_at hl 0 rfl) ?_
  refine lv_bipush (v := 24) hx hb d_Mo_feed_84 (by decide) ?_
  refine lv_bipush (v := 8) hx hb d_Mo_feed_86 (by decide) ?_
  refine lv_iload hx hb d_Mo_feed_88 (lv_at hl 1 rfl) ?_
  refine lv_iconst (v := 4) hx hb d_Mo_feed_90 (by decide) ?_
  refine lv_irem hx hb d_Mo_feed_91 (by decide) ?_
  refine lv_topi (fun x0 e0 => ?_)
  obtain rfl : x0 = 0 := e0.trans (by decide)
  refine lv_imul hx hb d_Mo_feed_92 ?_
  refine lv_topi (fun x0 e0 => ?_)
  obtain rfl : x0 = 0 := e0.trans (by decide)
  refine lv_isub hx hb d_Mo_feed_93 ?_
  refine lv_topi (fun x0 e0 => ?_)
  obtain rfl : x0 = 24 := e0.trans (by decide)
  refine lv_iushr hx hb d_Mo_feed_94 rfl ?_
  refine lv_topi (fun z94_33 ez94_33 => ?_)
  refine lv_i2b hx hb d_Mo_feed_95 rfl ?_
  refine lv_topi (fun z95_34 ez95_34 => ?_)
  refine va_bast hx hb hK.1 hP hD hS 1 1 rfl rfl (vp_in_iff.mpr (by decide)) d_Mo_feed_96 (fun H locs hP hD hS => ?_)
  have hP : va_P (dC, dI) classes [(oM, .inr (12, ((((((((fm.set 1 (.int 1)).set 1 (.int 2)).set 1 (.int 3)).set 1 (.int 4)).set 1 (.int 5)).set 1 (.int 6)).set 1 (.int 7)).set 1 (.int 8)))), (am_tape, .inl (cB, 4020, .inl ((upd f96_31 (8 : Int32).toNatClampNeg (vp_nar .byte z95_34)))))] H := hP
  have hD : va_D A [(oM, .inr (12, ((((((((fm.set 1 (.int 1)).set 1 (.int 2)).set 1 (.int 3)).set 1 (.int 4)).set 1 (.int 5)).set 1 (.int 6)).set 1 (.int 7)).set 1 (.int 8)))), (am_tape, .inl (cB, 4020, .inl ((upd f96_31 (8 : Int32).toNatClampNeg (vp_nar .byte z95_34)))))] := hD
  generalize (upd f96_31 (8 : Int32).toNatClampNeg (vp_nar .byte z95_34)) = f96_35 at hP hD
  refine lv_aload_n hx hb d_Mo_feed_97 rfl (lv_at hl 2 rfl) ?_
  refine lv_dup hx hb d_Mo_feed_98 rfl ?_
  refine va_get (D := (dC, dI)) (ci := 12) (v := .int 8) (C := R_Mo) (T := F_Mo) (N := 87) hx hb hts (fun w h => List.mem_cons_of_mem _ (in_Mo w h)) hown hK.1 hP 0 rfl rfl 1 (by decide) (hts _ (List.mem_cons_of_mem _ mw_1795)) (fun _ h9 => h9) g104_1 d_Mo_feed_99 ?_
  refine lv_iconst (v := 1) hx hb d_Mo_feed_102 (by decide) ?_
  refine lv_iadd hx hb d_Mo_feed_103 ?_
  refine lv_topi (fun x0 e0 => ?_)
  obtain rfl : x0 = 9 := e0.trans (by decide)
  refine va_put (D := (dC, dI)) (ci := 12) (v := .int 9) (ty := .int) (C := R_Mo) (T := F_Mo) (N := 87) hx hb hts (fun w h => List.mem_cons_of_mem _ (in_Mo w h)) t_Mo t_Mo_ok n_Mo hown hK.1 hP hD hS 0 rfl rfl 1 (by decide) (hts _ (List.mem_cons_of_mem _ mw_1795)) (fun _ h9 => h9) rfl (by decide +kernel) rfl rfl (st_lt g104_1) d_Mo_feed_104 (fun H locs hP hD hS => ?_)
  have g104_0 : fx (((((((((fm.set 1 (.int 1)).set 1 (.int 2)).set 1 (.int 3)).set 1 (.int 4)).set 1 (.int 5)).set 1 (.int 6)).set 1 (.int 7)).set 1 (.int 8)).set 1 (.int 9)) 0 (.ref am_tape) := (st_ne g104_0 (by decide))
  have g104_1 : fx (((((((((fm.set 1 (.int 1)).set 1 (.int 2)).set 1 (.int 3)).set 1 (.int 4)).set 1 (.int 5)).set 1 (.int 6)).set 1 (.int 7)).set 1 (.int 8)).set 1 (.int 9)) 1 (.int 9) := (st_eq g104_1)
  have hP : va_P (dC, dI) classes [(oM, .inr (12, (((((((((fm.set 1 (.int 1)).set 1 (.int 2)).set 1 (.int 3)).set 1 (.int 4)).set 1 (.int 5)).set 1 (.int 6)).set 1 (.int 7)).set 1 (.int 8)).set 1 (.int 9)))), (am_tape, .inl (cB, 4020, .inl f96_35))] H := hP
  have hD : va_D A [(oM, .inr (12, (((((((((fm.set 1 (.int 1)).set 1 (.int 2)).set 1 (.int 3)).set 1 (.int 4)).set 1 (.int 5)).set 1 (.int 6)).set 1 (.int 7)).set 1 (.int 8)).set 1 (.int 9)))), (am_tape, .inl (cB, 4020, .inl f96_35))] := hD
  refine lv_iinc (k := 1) (v := 9) hx hb d_Mo_feed_107 hl rfl (by first | rfl | decide | exact nI_1 i | exact pv_1 j hj) (by decide) rfl (fun ls hl => ?_)
  have hl : lv_has ls 8 [(6, .int 9), (7, .int c1), (0, .ref oM), (1, .int a1), (2, .int b1), (3, .int c1), (4, .int d1), (5, .int e1)] := hl
  refine lv_goto (tgt := 19) hx hb d_Mo_feed_110 (by decide) ?_
  refine lv_iload hx hb d_Mo_feed_19 (lv_at hl 0 rfl) ?_
  refine lv_bipush (v := 20) hx hb d_Mo_feed_21 (by decide) ?_
  refine lv_icmp_ge (tgt := 113) hx hb d_Mo_feed_23 (by decide) (fun h => absurd h (by decide)) (fun _ => ?_)
  refine lv_iload hx hb d_Mo_feed_26 (lv_at hl 0 rfl) ?_
  refine lv_iconst (v := 4) hx hb d_Mo_feed_28 (by decide) ?_
  refine lv_icmp_ge (tgt := 36) hx hb d_Mo_feed_29 (by decide) (fun _ => ?_) (fun h => absurd (by decide) h)
  refine lv_iload hx hb d_Mo_feed_36 (lv_at hl 0 rfl) ?_
  refine lv_bipush (v := 8) hx hb d_Mo_feed_38 (by decide) ?_
  refine lv_icmp_ge (tgt := 47) hx hb d_Mo_feed_40 (by decide) (fun _ => ?_) (fun h => absurd (by decide) h)
  refine lv_iload hx hb d_Mo_feed_47 (lv_at hl 0 rfl) ?_
  refine lv_bipush (v := 12) hx hb d_Mo_feed_49 (by decide) ?_
  refine lv_icmp_ge (tgt := 58) hx hb d_Mo_feed_51 (by decide) (fun h => absurd h (by decide)) (fun _ => ?_)
  refine lv_iload_n hx hb d_Mo_feed_54 rfl (lv_at hl 5 rfl) ?_
  refine lv_goto (tgt := 72) hx hb d_Mo_feed_55 (by decide) ?_
  refine lv_istore hx hb d_Mo_feed_72 hl (by decide) rfl (fun ls hl => ?_)
  have hl : lv_has ls 8 [(7, .int c1), (6, .int 9), (0, .ref oM), (1, .int a1), (2, .int b1), (3, .int c1), (4, .int d1), (5, .int e1)] := hl
  refine lv_aload_n hx hb d_Mo_feed_74 rfl (lv_at hl 2 rfl) ?_
  refine va_get (D := (dC, dI)) (ci := 12) (v := .ref am_tape) (C := R_Mo) (T := F_Mo) (N := 87) hx hb hts (fun w h => List.mem_cons_of_mem _ (in_Mo w h)) hown hK.1 hP 0 rfl rfl 0 (by decide) (hts _ (List.mem_cons_of_mem _ mw_1794)) (fun _ h9 => h9) g104_0 d_Mo_feed_75 ?_
  refine lv_aload_n hx hb d_Mo_feed_78 rfl (lv_at hl 2 rfl) ?_
  refine va_get (D := (dC, dI)) (ci := 12) (v := .int 9) (C := R_Mo) (T := F_Mo) (N := 87) hx hb hts (fun w h => List.mem_cons_of_mem _ (in_Mo w h)) hown hK.1 hP 0 rfl rfl 1 (by decide) (hts _ (List.mem_cons_of_mem _ mw_1795)) (fun _ h9 => h9) g104_1 d_Mo_feed_79 ?_
  refine lv_iload hx hb d_Mo_feed_82 (lv_at hl 0 rfl) ?_
  refine lv_bipush (v := 24) hx hb d_Mo_feed_84 (by decide) ?_
  refine lv_bipush (v := 8) hx hb d_Mo_feed_86 (by decide) ?_
  refine lv_iload hx hb d_Mo_feed_88 (lv_at hl 1 rfl) ?_
  refine lv_iconst (v := 4) hx hb d_Mo_feed_90 (by decide) ?_
  refine lv_irem hx hb d_Mo_feed_91 (by decide) ?_
  refine lv_topi (fun x0 e0 => ?_)
  obtain rfl : x0 = 1 := e0.trans (by decide)
  refine lv_imul hx hb d_Mo_feed_92 ?_
  refine lv_topi (fun x0 e0 => ?_)
  obtain rfl : x0 = 8 := e0.trans (by decide)
  refine lv_isub hx hb d_Mo_feed_93 ?_
  refine lv_topi (fun x0 e0 => ?_)
  obtain rfl : x0 = 16 := e0.trans (by decide)
  refine lv_iushr hx hb d_Mo_feed_94 rfl ?_
  refine lv_topi (fun z94_37 ez94_37 => ?_)
  refine lv_i2b hx hb d_Mo_feed_95 rfl ?_
  refine lv_topi (fun z95_38 ez95_38 => ?_)
  refine va_bast hx hb hK.1 hP hD hS 1 1 rfl rfl (vp_in_iff.mpr (by decide)) d_Mo_feed_96 (fun H locs hP hD hS => ?_)
  have hP : va_P (dC, dI) classes [(oM, .inr (12, (((((((((fm.set 1 (.int 1)).set 1 (.int 2)).set 1 (.int 3)).set 1 (.int 4)).set 1 (.int 5)).set 1 (.int 6)).set 1 (.int 7)).set 1 (.int 8)).set 1 (.int 9)))), (am_tape, .inl (cB, 4020, .inl ((upd f96_35 (9 : Int32).toNatClampNeg (vp_nar .byte z95_38)))))] H := hP
  have hD : va_D A [(oM, .inr (12, (((((((((fm.set 1 (.int 1)).set 1 (.int 2)).set 1 (.int 3)).set 1 (.int 4)).set 1 (.int 5)).set 1 (.int 6)).set 1 (.int 7)).set 1 (.int 8)).set 1 (.int 9)))), (am_tape, .inl (cB, 4020, .inl ((upd f96_35 (9 : Int32).toNatClampNeg (vp_nar .byte z95_38)))))] := hD
  generalize (upd f96_35 (9 : Int32).toNatClampNeg (vp_nar .byte z95_38)) = f96_39 at hP hD
  refine lv_aload_n hx hb d_Mo_feed_97 rfl (lv_at hl 2 rfl) ?_
  refine lv_dup hx hb d_Mo_feed_98 rfl ?_
  refine va_get (D := (dC, dI)) (ci := 12) (v := .int 9) (C := R_Mo) (T := F_Mo) (N := 87) hx hb hts (fun w h => List.mem_cons_of_mem _ (in_Mo w h)) hown hK.1 hP 0 rfl rfl 1 (by decide) (hts _ (List.mem_cons_of_mem _ mw_1795)) (fun _ h9 => h9) g104_1 d_Mo_feed_99 ?_
  refine lv_iconst (v := 1) hx hb d_Mo_feed_102 (by decide) ?_
  refine lv_iadd hx hb d_Mo_feed_103 ?_
  refine lv_topi (fun x0 e0 => ?_)
  obtain rfl : x0 = 10 := e0.trans (by decide)
  refine va_put (D := (dC, dI)) (ci := 12) (v := .int 10) (ty := .int) (C := R_Mo) (T := F_Mo) (N := 87) hx hb hts (fun w h => List.mem_cons_of_mem _ (in_Mo w h)) t_Mo t_Mo_ok n_Mo hown hK.1 hP hD hS 0 rfl rfl 1 (by decide) (hts _ (List.mem_cons_of_mem _ mw_1795)) (fun _ h9 => h9) rfl (by decide +kernel) rfl rfl (st_lt g104_1) d_Mo_feed_104 (fun H locs hP hD hS => ?_)
  have g104_0 : fx ((((((((((fm.set 1 (.int 1)).set 1 (.int 2)).set 1 (.int 3)).set 1 (.int 4)).set 1 (.int 5)).set 1 (.int 6)).set 1 (.int 7)).set 1 (.int 8)).set 1 (.int 9)).set 1 (.int 10)) 0 (.ref am_tape) := (st_ne g104_0 (by decide))
  have g104_1 : fx ((((((((((fm.set 1 (.int 1)).set 1 (.int 2)).set 1 (.int 3)).set 1 (.int 4)).set 1 (.int 5)).set 1 (.int 6)).set 1 (.int 7)).set 1 (.int 8)).set 1 (.int 9)).set 1 (.int 10)) 1 (.int 10) := (st_eq g104_1)
  have hP : va_P (dC, dI) classes [(oM, .inr (12, ((((((((((fm.set 1 (.int 1)).set 1 (.int 2)).set 1 (.int 3)).set 1 (.int 4)).set 1 (.int 5)).set 1 (.int 6)).set 1 (.int 7)).set 1 (.int 8)).set 1 (.int 9)).set 1 (.int 10)))), (am_tape, .inl (cB, 4020, .inl f96_39))] H := hP
  have hD : va_D A [(oM, .inr (12, ((((((((((fm.set 1 (.int 1)).set 1 (.int 2)).set 1 (.int 3)).set 1 (.int 4)).set 1 (.int 5)).set 1 (.int 6)).set 1 (.int 7)).set 1 (.int 8)).set 1 (.int 9)).set 1 (.int 10)))), (am_tape, .inl (cB, 4020, .inl f96_39))] := hD
  refine lv_iinc (k := 1) (v := 10) hx hb d_Mo_feed_107 hl rfl (by first | rfl | decide | exact nI_1 i | exact pv_1 j hj) (by decide) rfl (fun ls hl => ?_)
  have hl : lv_has ls 8 [(6, .int 10), (7, .int c1), (0, .ref oM), (1, .int a1), (2, .int b1), (3, .int c1), (4, .int d1), (5, .int e1)] := hl
  refine lv_goto (tgt := 19) hx hb d_Mo_feed_110 (by decide) ?_
  refine lv_iload hx hb d_Mo_feed_19 (lv_at hl 0 rfl) ?_
  refine lv_bipush (v := 20) hx hb d_Mo_feed_21 (by decide) ?_
  refine lv_icmp_ge (tgt := 113) hx hb d_Mo_feed_23 (by decide) (fun h => absurd h (by decide)) (fun _ => ?_)
  refine lv_iload hx hb d_Mo_feed_26 (lv_at hl 0 rfl) ?_
  refine lv_iconst (v := 4) hx hb d_Mo_feed_28 (by decide) ?_
  refine lv_icmp_ge (tgt := 36) hx hb d_Mo_feed_29 (by decide) (fun _ => ?_) (fun h => absurd (by decide) h)
  refine lv_iload hx hb d_Mo_feed_36 (lv_at hl 0 rfl) ?_
  refine lv_bipush (v := 8) hx hb d_Mo_feed_38 (by decide) ?_
  refine lv_icmp_ge (tgt := 47) hx hb d_Mo_feed_40 (by decide) (fun _ => ?_) (fun h => absurd (by decide) h)
  refine lv_iload hx hb d_Mo_feed_47 (lv_at hl 0 rfl) ?_
  refine lv_bipush (v := 12) hx hb d_Mo_feed_49 (by decide) ?_
  refine lv_icmp_ge (tgt := 58) hx hb d_Mo_feed_51 (by decide) (fun h => absurd h (by decide)) (fun _ => ?_)
  refine lv_iload_n hx hb d_Mo_feed_54 rfl (lv_at hl 5 rfl) ?_
  refine lv_goto (tgt := 72) hx hb d_Mo_feed_55 (by decide) ?_
  refine lv_istore hx hb d_Mo_feed_72 hl (by decide) rfl (fun ls hl => ?_)
  have hl : lv_has ls 8 [(7, .int c1), (6, .int 10), (0, .ref oM), (1, .int a1), (2, .int b1), (3, .int c1), (4, .int d1), (5, .int e1)] := hl
  refine lv_aload_n hx hb d_Mo_feed_74 rfl (lv_at hl 2 rfl) ?_
  refine va_get (D := (dC, dI)) (ci := 12) (v := .ref am_tape) (C := R_Mo) (T := F_Mo) (N := 87) hx hb hts (fun w h => List.mem_cons_of_mem _ (in_Mo w h)) hown hK.1 hP 0 rfl rfl 0 (by decide) (hts _ (List.mem_cons_of_mem _ mw_1794)) (fun _ h9 => h9) g104_0 d_Mo_feed_75 ?_
  refine lv_aload_n hx hb d_Mo_feed_78 rfl (lv_at hl 2 rfl) ?_
  refine va_get (D := (dC, dI)) (ci := 12) (v := .int 10) (C := R_Mo) (T := F_Mo) (N := 87) hx hb hts (fun w h => List.mem_cons_of_mem _ (in_Mo w h)) hown hK.1 hP 0 rfl rfl 1 (by decide) (hts _ (List.mem_cons_of_mem _ mw_1795)) (fun _ h9 => h9) g104_1 d_Mo_feed_79 ?_
  refine lv_iload hx hb d_Mo_feed_82 (lv_at hl 0 rfl) ?_
  refine lv_bipush (v := 24) hx hb d_Mo_feed_84 (by decide) ?_
  refine lv_bipush (v := 8) hx hb d_Mo_feed_86 (by decide) ?_
  refine lv_iload hx hb d_Mo_feed_88 (lv_at hl 1 rfl) ?_
  refine lv_iconst (v := 4) hx hb d_Mo_feed_90 (by decide) ?_
  refine lv_irem hx hb d_Mo_feed_91 (by decide) ?_
  refine lv_topi (fun x0 e0 => ?_)
  obtain rfl : x0 = 2 := e0.trans (by decide)
  refine lv_imul hx hb d_Mo_feed_92 ?_
  refine lv_topi (fun x0 e0 => ?_)
  obtain rfl : x0 = 16 := e0.trans (by decide)
  refine lv_isub hx hb d_Mo_feed_93 ?_
  refine lv_topi (fun x0 e0 => ?_)
  obtain rfl : x0 = 8 := e0.trans (by decide)
  refine lv_iushr hx hb d_Mo_feed_94 rfl ?_
  refine lv_topi (fun z94_41 ez94_41 => ?_)
  refine lv_i2b hx hb d_Mo_feed_95 rfl ?_
  refine lv_topi (fun z95_42 ez95_42 => ?_)
  refine va_bast hx hb hK.1 hP hD hS 1 1 rfl rfl (vp_in_iff.mpr (by decide)) d_Mo_feed_96 (fun H locs hP hD hS => ?_)
  have hP : va_P (dC, dI) classes [(oM, .inr (12, ((((((((((fm.set 1 (.int 1)).set 1 (.int 2)).set 1 (.int 3)).set 1 (.int 4)).set 1 (.int 5)).set 1 (.int 6)).set 1 (.int 7)).set 1 (.int 8)).set 1 (.int 9)).set 1 (.int 10)))), (am_tape, .inl (cB, 4020, .inl ((upd f96_39 (10 : Int32).toNatClampNeg (vp_nar .byte z95_42)))))] H := hP
  have hD : va_D A [(oM, .inr (12, ((((((((((fm.set 1 (.int 1)).set 1 (.int 2)).set 1 (.int 3)).set 1 (.int 4)).set 1 (.int 5)).set 1 (.int 6)).set 1 (.int 7)).set 1 (.int 8)).set 1 (.int 9)).set 1 (.int 10)))), (am_tape, .inl (cB, 4020, .inl ((upd f96_39 (10 : Int32).toNatClampNeg (vp_nar .byte z95_42)))))] := hD
  generalize (upd f96_39 (10 : Int32).toNatClampNeg (vp_nar .byte z95_42)) = f96_43 at hP hD
  refine lv_aload_n hx hb d_Mo_feed_97 rfl (lv_at hl 2 rfl) ?_
  refine lv_dup hx hb d_Mo_feed_98 rfl ?_
  refine va_get (D := (dC, dI)) (ci := 12) (v := .int 10) (C := R_Mo) (T := F_Mo) (N := 87) hx hb hts (fun w h => List.mem_cons_of_mem _ (in_Mo w h)) hown hK.1 hP 0 rfl rfl 1 (by decide) (hts _ (List.mem_cons_of_mem _ mw_1795)) (fun _ h9 => h9) g104_1 d_Mo_feed_99 ?_
  refine lv_iconst (v := 1) hx hb d_Mo_feed_102 (by decide) ?_
  refine lv_iadd hx hb d_Mo_feed_103 ?_
  refine lv_topi (fun x0 e0 => ?_)
  obtain rfl : x0 = 11 := e0.trans (by decide)
  refine va_put (D := (dC, dI)) (ci := 12) (v := .int 11) (ty := .int) (C := R_Mo) (T := F_Mo) (N := 87) hx hb hts (fun w h => List.mem_cons_of_mem _ (in_Mo w h)) t_Mo t_Mo_ok n_Mo hown hK.1 hP hD hS 0 rfl rfl 1 (by decide) (hts _ (List.mem_cons_of_mem _ mw_1795)) (fun _ h9 => h9) rfl (by decide +kernel) rfl rfl (st_lt g104_1) d_Mo_feed_104 (fun H locs hP hD hS => ?_)
  have g104_0 : fx (((((((((((fm.set 1 (.int 1)).set 1 (.int 2)).set 1 (.int 3)).set 1 (.int 4)).set 1 (.int 5)).set 1 (.int 6)).set 1 (.int 7)).set 1 (.int 8)).set 1 (.int 9)).set 1 (.int 10)).set 1 (.int 11)) 0 (.ref am_tape) := (st_ne g104_0 (by decide))
  have g104_1 : fx (((((((((((fm.set 1 (.int 1)).set 1 (.int 2)).set 1 (.int 3)).set 1 (.int 4)).set 1 (.int 5)).set 1 (.int 6)).set 1 (.int 7)).set 1 (.int 8)).set 1 (.int 9)).set 1 (.int 10)).set 1 (.int 11)) 1 (.int 11) := (st_eq g104_1)
  have hP : va_P (dC, dI) classes [(oM, .inr (12, (((((((((((fm.set 1 (.int 1)).set 1 (.int 2)).set 1 (.int 3)).set 1 (.int 4)).set 1 (.int 5)).set 1 (.int 6)).set 1 (.int 7)).set 1 (.int 8)).set 1 (.int 9)).set 1 (.int 10)).set 1 (.int 11)))), (am_tape, .inl (cB, 4020, .inl f96_43))] H := hP
  have hD : va_D A [(oM, .inr (12, (((((((((((fm.set 1 (.int 1)).set 1 (.int 2)).set 1 (.int 3)).set 1 (.int 4)).set 1 (.int 5)).set 1 (.int 6)).set 1 (.int 7)).set 1 (.int 8)).set 1 (.int 9)).set 1 (.int 10)).set 1 (.int 11)))), (am_tape, .inl (cB, 4020, .inl f96_43))] := hD
  refine lv_iinc (k := 1) (v := 11) hx hb d_Mo_feed_107 hl rfl (by first | rfl | decide | exact nI_1 i | exact pv_1 j hj) (by decide) rfl (fun ls hl => ?_)
  have hl : lv_has ls 8 [(6, .int 11), (7, .int c1), (0, .ref oM), (1, .int a1), (2, .int b1), (3, .int c1), (4, .int d1), (5, .int e1)] := hl
  refine lv_goto (tgt := 19) hx hb d_Mo_feed_110 (by decide) ?_
  refine lv_iload hx hb d_Mo_feed_19 (lv_at hl 0 rfl) ?_
  refine lv_bipush (v := 20) hx hb d_Mo_feed_21 (by decide) ?_
  refine lv_icmp_ge (tgt := 113) hx hb d_Mo_feed_23 (by decide) (fun h => absurd h (by decide)) (fun _ => ?_)
  refine lv_iload hx hb d_Mo_feed_26 (lv_at hl 0 rfl) ?_
  refine lv_iconst (v := 4) hx hb d_Mo_feed_28 (by decide) ?_
  refine lv_icmp_ge (tgt := 36) hx hb d_Mo_feed_29 (by decide) (fun _ => ?_) (fun h => absurd (by decide) h)
  refine lv_iload hx hb d_Mo_feed_36 (lv_at hl 0 rfl) ?_
  refine lv_bipush (v := 8) hx hb d_Mo_feed_38 (by decide) ?_
  refine lv_icmp_ge (tgt := 47) hx hb d_Mo_feed_40 (by decide) (fun _ => ?_) (fun h => absurd (by decide) h)
  refine lv_iload hx hb d_Mo_feed_47 (lv_at hl 0 rfl) ?_
  refine lv_bipush (v := 12) hx hb d_Mo_feed_49 (by decide) ?_
  refine lv_icmp_ge (tgt := 58) hx hb d_Mo_feed_51 (by decide) (fun h => absurd h (by decide)) (fun _ => ?_)
  refine lv_iload_n hx hb d_Mo_feed_54 rfl (lv_at hl 5 rfl) ?_
  refine lv_goto (tgt := 72) hx hb d_Mo_feed_55 (by decide) ?_
  refine lv_istore hx hb d_Mo_feed_72 hl (by decide) rfl (fun ls hl => ?_)
  have hl : lv_has ls 8 [(7, .int c1), (6, .int 11), (0, .ref oM), (1, .int a1), (2, .int b1), (3, .int c1), (4, .int d1), (5, .int e1)] := hl
  refine lv_aload_n hx hb d_Mo_feed_74 rfl (lv_at hl 2 rfl) ?_
  refine va_get (D := (dC, dI)) (ci := 12) (v := .ref am_tape) (C := R_Mo) (T := F_Mo) (N := 87) hx hb hts (fun w h => List.mem_cons_of_mem _ (in_Mo w h)) hown hK.1 hP 0 rfl rfl 0 (by decide) (hts _ (List.mem_cons_of_mem _ mw_1794)) (fun _ h9 => h9) g104_0 d_Mo_feed_75 ?_
  refine lv_aload_n hx hb d_Mo_feed_78 rfl (lv_at hl 2 rfl) ?_
  refine va_get (D := (dC, dI)) (ci := 12) (v := .int 11) (C := R_Mo) (T := F_Mo) (N := 87) hx hb hts (fun w h => List.mem_cons_of_mem _ (in_Mo w h)) hown hK.1 hP 0 rfl rfl 1 (by decide) (hts _ (List.mem_cons_of_mem _ mw_1795)) (fun _ h9 => h9) g104_1 d_Mo_feed_79 ?_
  refine lv_iload hx hb d_Mo_feed_82 (lv_at hl 0 rfl) ?_
  refine lv_bipush (v := 24) hx hb d_Mo_feed_84 (by decide) ?_
  refine lv_bipush (v := 8) hx hb d_Mo_feed_86 (by decide) ?_
  refine lv_iload hx hb d_Mo_feed_88 (lv_at hl 1 rfl) ?_
  refine lv_iconst (v := 4) hx hb d_Mo_feed_90 (by decide) ?_
  refine lv_irem hx hb d_Mo_feed_91 (by decide) ?_
  refine lv_topi (fun x0 e0 => ?_)
  obtain rfl : x0 = 3 := e0.trans (by decide)
  refine lv_imul hx hb d_Mo_feed_92 ?_
  refine lv_topi (fun x0 e0 => ?_)
  obtain rfl : x0 = 24 := e0.trans (by decide)
  refine lv_isub hx hb d_Mo_feed_93 ?_
  refine lv_topi (fun x0 e0 => ?_)
  obtain rfl : x0 = 0 := e0.trans (by decide)
  refine lv_iushr hx hb d_Mo_feed_94 rfl ?_
  refine lv_topi (fun z94_45 ez94_45 => ?_)
  refine lv_i2b hx hb d_Mo_feed_95 rfl ?_
  refine lv_topi (fun z95_46 ez95_46 => ?_)
  refine va_bast hx hb hK.1 hP hD hS 1 1 rfl rfl (vp_in_iff.mpr (by decide)) d_Mo_feed_96 (fun H locs hP hD hS => ?_)
  have hP : va_P (dC, dI) classes [(oM, .inr (12, (((((((((((fm.set 1 (.int 1)).set 1 (.int 2)).set 1 (.int 3)).set 1 (.int 4)).set 1 (.int 5)).set 1 (.int 6)).set 1 (.int 7)).set 1 (.int 8)).set 1 (.int 9)).set 1 (.int 10)).set 1 (.int 11)))), (am_tape, .inl (cB, 4020, .inl ((upd f96_43 (11 : Int32).toNatClampNeg (vp_nar .byte z95_46)))))] H := hP
  have hD : va_D A [(oM, .inr (12, (((((((((((fm.set 1 (.int 1)).set 1 (.int 2)).set 1 (.int 3)).set 1 (.int 4)).set 1 (.int 5)).set 1 (.int 6)).set 1 (.int 7)).set 1 (.int 8)).set 1 (.int 9)).set 1 (.int 10)).set 1 (.int 11)))), (am_tape, .inl (cB, 4020, .inl ((upd f96_43 (11 : Int32).toNatClampNeg (vp_nar .byte z95_46)))))] := hD
  generalize (upd f96_43 (11 : Int32).toNatClampNeg (vp_nar .byte z95_46)) = f96_47 at hP hD
  refine lv_aload_n hx hb d_Mo_feed_97 rfl (lv_at hl 2 rfl) ?_
  refine lv_dup hx hb d_Mo_feed_98 rfl ?_
  refine va_get (D := (dC, dI)) (ci := 12) (v := .int 11) (C := R_Mo) (T := F_Mo) (N := 87) hx hb hts (fun w h => List.mem_cons_of_mem _ (in_Mo w h)) hown hK.1 hP 0 rfl rfl 1 (by decide) (hts _ (List.mem_cons_of_mem _ mw_1795)) (fun _ h9 => h9) g104_1 d_Mo_feed_99 ?_
  refine lv_iconst (v := 1) hx hb d_Mo_feed_102 (by decide) ?_
  refine lv_iadd hx hb d_Mo_feed_103 ?_
  refine lv_topi (fun x0 e0 => ?_)
  obtain rfl : x0 = 12 := e0.trans (by decide)
  refine va_put (D := (dC, dI)) (ci := 12) (v := .int 12) (ty := .int) (C := R_Mo) (T := F_Mo) (N := 87) hx hb hts (fun w h => List.mem_cons_of_mem _ (in_Mo w h)) t_Mo t_Mo_ok n_Mo hown hK.1 hP hD hS 0 rfl rfl 1 (by decide) (hts _ (List.mem_cons_of_mem _ mw_1795)) (fun _ h9 => h9) rfl (by decide +kernel) rfl rfl (st_lt g104_1) d_Mo_feed_104 (fun H locs hP hD hS => ?_)
  have g104_0 : fx ((((((((((((fm.set 1 (.int 1)).set 1 (.int 2)).set 1 (.int 3)).set 1 (.int 4)).set 1 (.int 5)).set 1 (.int 6)).set 1 (.int 7)).set 1 (.int 8)).set 1 (.int 9)).set 1 (.int 10)).set 1 (.int 11)).set 1 (.int 12)) 0 (.ref am_tape) := (st_ne g104_0 (by decide))
  have g104_1 : fx ((((((((((((fm.set 1 (.int 1)).set 1 (.int 2)).set 1 (.int 3)).set 1 (.int 4)).set 1 (.int 5)).set 1 (.int 6)).set 1 (.int 7)).set 1 (.int 8)).set 1 (.int 9)).set 1 (.int 10)).set 1 (.int 11)).set 1 (.int 12)) 1 (.int 12) := (st_eq g104_1)
  have hP : va_P (dC, dI) classes [(oM, .inr (12, ((((((((((((fm.set 1 (.int 1)).set 1 (.int 2)).set 1 (.int 3)).set 1 (.int 4)).set 1 (.int 5)).set 1 (.int 6)).set 1 (.int 7)).set 1 (.int 8)).set 1 (.int 9)).set 1 (.int 10)).set 1 (.int 11)).set 1 (.int 12)))), (am_tape, .inl (cB, 4020, .inl f96_47))] H := hP
  have hD : va_D A [(oM, .inr (12, ((((((((((((fm.set 1 (.int 1)).set 1 (.int 2)).set 1 (.int 3)).set 1 (.int 4)).set 1 (.int 5)).set 1 (.int 6)).set 1 (.int 7)).set 1 (.int 8)).set 1 (.int 9)).set 1 (.int 10)).set 1 (.int 11)).set 1 (.int 12)))), (am_tape, .inl (cB, 4020, .inl f96_47))] := hD
  refine lv_iinc (k := 1) (v := 12) hx hb d_Mo_feed_107 hl rfl (by first | rfl | decide | exact nI_1 i | exact pv_1 j hj) (by decide) rfl (fun ls hl => ?_)
  have hl : lv_has ls 8 [(6, .int 12), (7, .int c1), (0, .ref oM), (1, .int a1), (2, .int b1), (3, .int c1), (4, .int d1), (5, .int e1)] := hl
  refine lv_goto (tgt := 19) hx hb d_Mo_feed_110 (by decide) ?_
  refine lv_iload hx hb d_Mo_feed_19 (lv_at hl 0 rfl) ?_
  refine lv_bipush (v := 20) hx hb d_Mo_feed_21 (by decide) ?_
  refine lv_icmp_ge (tgt := 113) hx hb d_Mo_feed_23 (by decide) (fun h => absurd h (by decide)) (fun _ => ?_)
  refine lv_iload hx hb d_Mo_feed_26 (lv_at hl 0 rfl) ?_
  refine lv_iconst (v := 4) hx hb d_Mo_feed_28 (by decide) ?_
  refine lv_icmp_ge (tgt := 36) hx hb d_Mo_feed_29 (by decide) (fun _ => ?_) (fun h => absurd (by decide) h)
  refine lv_iload hx hb d_Mo_feed_36 (lv_at hl 0 rfl) ?_
  refine lv_bipush (v := 8) hx hb d_Mo_feed_38 (by decide) ?_
  refine lv_icmp_ge (tgt := 47) hx hb d_Mo_feed_40 (by decide) (fun _ => ?_) (fun h => absurd (by decide) h)
  refine lv_iload hx hb d_Mo_feed_47 (lv_at hl 0 rfl) ?_
  refine lv_bipush (v := 12) hx hb d_Mo_feed_49 (by decide) ?_
  refine lv_icmp_ge (tgt := 58) hx hb d_Mo_feed_51 (by decide) (fun _ => ?_) (fun h => absurd (by decide) h)
  refine lv_iload hx hb d_Mo_feed_58 (lv_at hl 0 rfl) ?_
  refine lv_bipush (v := 16) hx hb d_Mo_feed_60 (by decide) ?_
  refine lv_icmp_ge (tgt := 70) hx hb d_Mo_feed_62 (by decide) (fun h => absurd h (by decide)) (fun _ => ?_)
  refine lv_iload hx hb d_Mo_feed_65 (lv_at hl 6 rfl) ?_
  refine lv_goto (tgt := 72) hx hb d_Mo_feed_67 (by decide) ?_
  refine lv_istore hx hb d_Mo_feed_72 hl (by decide) rfl (fun ls hl => ?_)
  have hl : lv_has ls 8 [(7, .int d1), (6, .int 12), (0, .ref oM), (1, .int a1), (2, .int b1), (3, .int c1), (4, .int d1), (5, .int e1)] := hl
  refine lv_aload_n hx hb d_Mo_feed_74 rfl (lv_at hl 2 rfl) ?_
  refine va_get (D := (dC, dI)) (ci := 12) (v := .ref am_tape) (C := R_Mo) (T := F_Mo) (N := 87) hx hb hts (fun w h => List.mem_cons_of_mem _ (in_Mo w h)) hown hK.1 hP 0 rfl rfl 0 (by decide) (hts _ (List.mem_cons_of_mem _ mw_1794)) (fun _ h9 => h9) g104_0 d_Mo_feed_75 ?_
  refine lv_aload_n hx hb d_Mo_feed_78 rfl (lv_at hl 2 rfl) ?_
  refine va_get (D := (dC, dI)) (ci := 12) (v := .int 12) (C := R_Mo) (T := F_Mo) (N := 87) hx hb hts (fun w h => List.mem_cons_of_mem _ (in_Mo w h)) hown hK.1 hP 0 rfl rfl 1 (by decide) (hts _ (List.mem_cons_of_mem _ mw_1795)) (fun _ h9 => h9) g104_1 d_Mo_feed_79 ?_
  refine lv_iload hx hb d_Mo_feed_82 (lv_at hl 0 rfl) ?_
  refine lv_bipush (v := 24) hx hb d_Mo_feed_84 (by decide) ?_
  refine lv_bipush (v := 8) hx hb d_Mo_feed_86 (by decide) ?_
  refine lv_iload hx hb d_Mo_feed_88 (lv_at hl 1 rfl) ?_
  refine lv_iconst (v := 4) hx hb d_Mo_feed_90 (by decide) ?_
  refine lv_irem hx hb d_Mo_feed_91 (by decide) ?_
  refine lv_topi (fun x0 e0 => ?_)
  obtain rfl : x0 = 0 := e0.trans (by decide)
  refine lv_imul hx hb d_Mo_feed_92 ?_
  refine lv_topi (fun x0 e0 => ?_)
  obtain rfl : x0 = 0 := e0.trans (by decide)
  refine lv_isub hx hb d_Mo_feed_93 ?_
  refine lv_topi (fun x0 e0 => ?_)
  obtain rfl : x0 = 24 := e0.trans (by decide)
  refine lv_iushr hx hb d_Mo_feed_94 rfl ?_
  refine lv_topi (fun z94_49 ez94_49 => ?_)
  refine lv_i2b hx hb d_Mo_feed_95 rfl ?_
  refine lv_topi (fun z95_50 ez95_50 => ?_)
  refine va_bast hx hb hK.1 hP hD hS 1 1 rfl rfl (vp_in_iff.mpr (by decide)) d_Mo_feed_96 (fun H locs hP hD hS => ?_)
  have hP : va_P (dC, dI) classes [(oM, .inr (12, ((((((((((((fm.set 1 (.int 1)).set 1 (.int 2)).set 1 (.int 3)).set 1 (.int 4)).set 1 (.int 5)).set 1 (.int 6)).set 1 (.int 7)).set 1 (.int 8)).set 1 (.int 9)).set 1 (.int 10)).set 1 (.int 11)).set 1 (.int 12)))), (am_tape, .inl (cB, 4020, .inl ((upd f96_47 (12 : Int32).toNatClampNeg (vp_nar .byte z95_50)))))] H := hP
  have hD : va_D A [(oM, .inr (12, ((((((((((((fm.set 1 (.int 1)).set 1 (.int 2)).set 1 (.int 3)).set 1 (.int 4)).set 1 (.int 5)).set 1 (.int 6)).set 1 (.int 7)).set 1 (.int 8)).set 1 (.int 9)).set 1 (.int 10)).set 1 (.int 11)).set 1 (.int 12)))), (am_tape, .inl (cB, 4020, .inl ((upd f96_47 (12 : Int32).toNatClampNeg (vp_nar .byte z95_50)))))] := hD
  generalize (upd f96_47 (12 : Int32).toNatClampNeg (vp_nar .byte z95_50)) = f96_51 at hP hD
  refine lv_aload_n hx hb d_Mo_feed_97 rfl (lv_at hl 2 rfl) ?_
  refine lv_dup hx hb d_Mo_feed_98 rfl ?_
  refine va_get (D := (dC, dI)) (ci := 12) (v := .int 12) (C := R_Mo) (T := F_Mo) (N := 87) hx hb hts (fun w h => List.mem_cons_of_mem _ (in_Mo w h)) hown hK.1 hP 0 rfl rfl 1 (by decide) (hts _ (List.mem_cons_of_mem _ mw_1795)) (fun _ h9 => h9) g104_1 d_Mo_feed_99 ?_
  refine lv_iconst (v := 1) hx hb d_Mo_feed_102 (by decide) ?_
  refine lv_iadd hx hb d_Mo_feed_103 ?_
  refine lv_topi (fun x0 e0 => ?_)
  obtain rfl : x0 = 13 := e0.trans (by decide)
  refine va_put (D := (dC, dI)) (ci := 12) (v := .int 13) (ty := .int) (C := R_Mo) (T := F_Mo) (N := 87) hx hb hts (fun w h => List.mem_cons_of_mem _ (in_Mo w h)) t_Mo t_Mo_ok n_Mo hown hK.1 hP hD hS 0 rfl rfl 1 (by decide) (hts _ (List.mem_cons_of_mem _ mw_1795)) (fun _ h9 => h9) rfl (by decide +kernel) rfl rfl (st_lt g104_1) d_Mo_feed_104 (fun H locs hP hD hS => ?_)
  have g104_0 : fx (((((((((((((fm.set 1 (.int 1)).set 1 (.int 2)).set 1 (.int 3)).set 1 (.int 4)).set 1 (.int 5)).set 1 (.int 6)).set 1 (.int 7)).set 1 (.int 8)).set 1 (.int 9)).set 1 (.int 10)).set 1 (.int 11)).set 1 (.int 12)).set 1 (.int 13)) 0 (.ref am_tape) := (st_ne g104_0 (by decide))
  have g104_1 : fx (((((((((((((fm.set 1 (.int 1)).set 1 (.int 2)).set 1 (.int 3)).set 1 (.int 4)).set 1 (.int 5)).set 1 (.int 6)).set 1 (.int 7)).set 1 (.int 8)).set 1 (.int 9)).set 1 (.int 10)).set 1 (.int 11)).set 1 (.int 12)).set 1 (.int 13)) 1 (.int 13) := (st_eq g104_1)
  have hP : va_P (dC, dI) classes [(oM, .inr (12, (((((((((((((fm.set 1 (.int 1)).set 1 (.int 2)).set 1 (.int 3)).set 1 (.int 4)).set 1 (.int 5)).set 1 (.int 6)).set 1 (.int 7)).set 1 (.int 8)).set 1 (.int 9)).set 1 (.int 10)).set 1 (.int 11)).set 1 (.int 12)).set 1 (.int 13)))), (am_tape, .inl (cB, 4020, .inl f96_51))] H := hP
  have hD : va_D A [(oM, .inr (12, (((((((((((((fm.set 1 (.int 1)).set 1 (.int 2)).set 1 (.int 3)).set 1 (.int 4)).set 1 (.int 5)).set 1 (.int 6)).set 1 (.int 7)).set 1 (.int 8)).set 1 (.int 9)).set 1 (.int 10)).set 1 (.int 11)).set 1 (.int 12)).set 1 (.int 13)))), (am_tape, .inl (cB, 4020, .inl f96_51))] := hD
  refine lv_iinc (k := 1) (v := 13) hx hb d_Mo_feed_107 hl rfl (by first | rfl | decide | exact nI_1 i | exact pv_1 j hj) (by decide) rfl (fun ls hl => ?_)
  have hl : lv_has ls 8 [(6, .int 13), (7, .int d1), (0, .ref oM), (1, .int a1), (2, .int b1), (3, .int c1), (4, .int d1), (5, .int e1)] := hl
  refine lv_goto (tgt := 19) hx hb d_Mo_feed_110 (by decide) ?_
  refine lv_iload hx hb d_Mo_feed_19 (lv_at hl 0 rfl) ?_
  refine lv_bipush (v := 20) hx hb d_Mo_feed_21 (by decide) ?_
  refine lv_icmp_ge (tgt := 113) hx hb d_Mo_feed_23 (by decide) (fun h => absurd h (by decide)) (fun _ => ?_)
  refine lv_iload hx hb d_Mo_feed_26 (lv_at hl 0 rfl) ?_
  refine lv_iconst (v := 4) hx hb d_Mo_feed_28 (by decide) ?_
  refine lv_icmp_ge (tgt := 36) hx hb d_Mo_feed_29 (by decide) (fun _ => ?_) (fun h => absurd (by decide) h)
  refine lv_iload hx hb d_Mo_feed_36 (lv_at hl 0 rfl) ?_
  refine lv_bipush (v := 8) hx hb d_Mo_feed_38 (by decide) ?_
  refine lv_icmp_ge (tgt := 47) hx hb d_Mo_feed_40 (by decide) (fun _ => ?_) (fun h => absurd (by decide) h)
  refine lv_iload hx hb d_Mo_feed_47 (lv_at hl 0 rfl) ?_
  refine lv_bipush (v := 12) hx hb d_Mo_feed_49 (by decide) ?_
  refine lv_icmp_ge (tgt := 58) hx hb d_Mo_feed_51 (by decide) (fun _ => ?_) (fun h => absurd (by decide) h)
  refine lv_iload hx hb d_Mo_feed_58 (lv_at hl 0 rfl) ?_
  refine lv_bipush (v := 16) hx hb d_Mo_feed_60 (by decide) ?_
  refine lv_icmp_ge (tgt := 70) hx hb d_Mo_feed_62 (by decide) (fun h => absurd h (by decide)) (fun _ => ?_)
  refine lv_iload hx hb d_Mo_feed_65 (lv_at hl 6 rfl) ?_
  refine lv_goto (tgt := 72) hx hb d_Mo_feed_67 (by decide) ?_
  refine lv_istore hx hb d_Mo_feed_72 hl (by decide) rfl (fun ls hl => ?_)
  have hl : lv_has ls 8 [(7, .int d1), (6, .int 13), (0, .ref oM), (1, .int a1), (2, .int b1), (3, .int c1), (4, .int d1), (5, .int e1)] := hl
  refine lv_aload_n hx hb d_Mo_feed_74 rfl (lv_at hl 2 rfl) ?_
  refine va_get (D := (dC, dI)) (ci := 12) (v := .ref am_tape) (C := R_Mo) (T := F_Mo) (N := 87) hx hb hts (fun w h => List.mem_cons_of_mem _ (in_Mo w h)) hown hK.1 hP 0 rfl rfl 0 (by decide) (hts _ (List.mem_cons_of_mem _ mw_1794)) (fun _ h9 => h9) g104_0 d_Mo_feed_75 ?_
  refine lv_aload_n hx hb d_Mo_feed_78 rfl (lv_at hl 2 rfl) ?_
  refine va_get (D := (dC, dI)) (ci := 12) (v := .int 13) (C := R_Mo) (T := F_Mo) (N := 87) hx hb hts (fun w h => List.mem_cons_of_mem _ (in_Mo w h)) hown hK.1 hP 0 rfl rfl 1 (by decide) (hts _ (List.mem_cons_of_mem _ mw_1795)) (fun _ h9 => h9) g104_1 d_Mo_feed_79 ?_
  refine lv_iload hx hb d_Mo_feed_82 (lv_at hl 0 rfl) ?_
  refine lv_bipush (v := 24) hx hb d_Mo_feed_84 (by decide) ?_
  refine lv_bipush (v := 8) hx hb d_Mo_feed_86 (by decide) ?_
  refine lv_iload hx hb d_Mo_feed_88 (lv_at hl 1 rfl) ?_
  refine lv_iconst (v := 4) hx hb d_Mo_feed_90 (by decide) ?_
  refine lv_irem hx hb d_Mo_feed_91 (by decide) ?_
  refine lv_topi (fun x0 e0 => ?_)
  obtain rfl : x0 = 1 := e0.trans (by decide)
  refine lv_imul hx hb d_Mo_feed_92 ?_
  refine lv_topi (fun x0 e0 => ?_)
  obtain rfl : x0 = 8 := e0.trans (by decide)
  refine lv_isub hx hb d_Mo_feed_93 ?_
  refine lv_topi (fun x0 e0 => ?_)
  obtain rfl : x0 = 16 := e0.trans (by decide)
  refine lv_iushr hx hb d_Mo_feed_94 rfl ?_
  refine lv_topi (fun z94_53 ez94_53 => ?_)
  refine lv_i2b hx hb d_Mo_feed_95 rfl ?_
  refine lv_topi (fun z95_54 ez95_54 => ?_)
  refine va_bast hx hb hK.1 hP hD hS 1 1 rfl rfl (vp_in_iff.mpr (by decide)) d_Mo_feed_96 (fun H locs hP hD hS => ?_)
  have hP : va_P (dC, dI) classes [(oM, .inr (12, (((((((((((((fm.set 1 (.int 1)).set 1 (.int 2)).set 1 (.int 3)).set 1 (.int 4)).set 1 (.int 5)).set 1 (.int 6)).set 1 (.int 7)).set 1 (.int 8)).set 1 (.int 9)).set 1 (.int 10)).set 1 (.int 11)).set 1 (.int 12)).set 1 (.int 13)))), (am_tape, .inl (cB, 4020, .inl ((upd f96_51 (13 : Int32).toNatClampNeg (vp_nar .byte z95_54)))))] H := hP
  have hD : va_D A [(oM, .inr (12, (((((((((((((fm.set 1 (.int 1)).set 1 (.int 2)).set 1 (.int 3)).set 1 (.int 4)).set 1 (.int 5)).set 1 (.int 6)).set 1 (.int 7)).set 1 (.int 8)).set 1 (.int 9)).set 1 (.int 10)).set 1 (.int 11)).set 1 (.int 12)).set 1 (.int 13)))), (am_tape, .inl (cB, 4020, .inl ((upd f96_51 (13 : Int32).toNatClampNeg (vp_nar .byte z95_54)))))] := hD
  generalize (upd f96_51 (13 : Int32).toNatClampNeg (vp_nar .byte z95_54)) = f96_55 at hP hD
  refine lv_aload_n hx hb d_Mo_feed_97 rfl (lv_at hl 2 rfl) ?_
  refine lv_dup hx hb d_Mo_feed_98 rfl ?_
  refine va_get (D := (dC, dI)) (ci := 12) (v := .int 13) (C := R_Mo) (T := F_Mo) (N := 87) hx hb hts (fun w h => List.mem_cons_of_mem _ (in_Mo w h)) hown hK.1 hP 0 rfl rfl 1 (by decide) (hts _ (List.mem_cons_of_mem _ mw_1795)) (fun _ h9 => h9) g104_1 d_Mo_feed_99 ?_
  refine lv_iconst (v := 1) hx hb d_Mo_feed_102 (by decide) ?_
  refine lv_iadd hx hb d_Mo_feed_103 ?_
  refine lv_topi (fun x0 e0 => ?_)
  obtain rfl : x0 = 14 := e0.trans (by decide)
  refine va_put (D := (dC, dI)) (ci := 12) (v := .int 14) (ty := .int) (C := R_Mo) (T := F_Mo) (N := 87) hx hb hts (fun w h => List.mem_cons_of_mem _ (in_Mo w h)) t_Mo t_Mo_ok n_Mo hown hK.1 hP hD hS 0 rfl rfl 1 (by decide) (hts _ (List.mem_cons_of_mem _ mw_1795)) (fun _ h9 => h9) rfl (by decide +kernel) rfl rfl (st_lt g104_1) d_Mo_feed_104 (fun H locs hP hD hS => ?_)
  have g104_0 : fx ((((((((((((((fm.set 1 (.int 1)).set 1 (.int 2)).set 1 (.int 3)).set 1 (.int 4)).set 1 (.int 5)).set 1 (.int 6)).set 1 (.int 7)).set 1 (.int 8)).set 1 (.int 9)).set 1 (.int 10)).set 1 (.int 11)).set 1 (.int 12)).set 1 (.int 13)).set 1 (.int 14)) 0 (.ref am_tape) := (st_ne g104_0 (by decide))
  have g104_1 : fx ((((((((((((((fm.set 1 (.int 1)).set 1 (.int 2)).set 1 (.int 3)).set 1 (.int 4)).set 1 (.int 5)).set 1 (.int 6)).set 1 (.int 7)).set 1 (.int 8)).set 1 (.int 9)).set 1 (.int 10)).set 1 (.int 11)).set 1 (.int 12)).set 1 (.int 13)).set 1 (.int 14)) 1 (.int 14) := (st_eq g104_1)
  have hP : va_P (dC, dI) classes [(oM, .inr (12, ((((((((((((((fm.set 1 (.int 1)).set 1 (.int 2)).set 1 (.int 3)).set 1 (.int 4)).set 1 (.int 5)).set 1 (.int 6)).set 1 (.int 7)).set 1 (.int 8)).set 1 (.int 9)).set 1 (.int 10)).set 1 (.int 11)).set 1 (.int 12)).set 1 (.int 13)).set 1 (.int 14)))), (am_tape, .inl (cB, 4020, .inl f96_55))] H := hP
  have hD : va_D A [(oM, .inr (12, ((((((((((((((fm.set 1 (.int 1)).set 1 (.int 2)).set 1 (.int 3)).set 1 (.int 4)).set 1 (.int 5)).set 1 (.int 6)).set 1 (.int 7)).set 1 (.int 8)).set 1 (.int 9)).set 1 (.int 10)).set 1 (.int 11)).set 1 (.int 12)).set 1 (.int 13)).set 1 (.int 14)))), (am_tape, .inl (cB, 4020, .inl f96_55))] := hD
  refine lv_iinc (k := 1) (v := 14) hx hb d_Mo_feed_107 hl rfl (by first | rfl | decide | exact nI_1 i | exact pv_1 j hj) (by decide) rfl (fun ls hl => ?_)
  have hl : lv_has ls 8 [(6, .int 14), (7, .int d1), (0, .ref oM), (1, .int a1), (2, .int b1), (3, .int c1), (4, .int d1), (5, .int e1)] := hl
  refine lv_goto (tgt := 19) hx hb d_Mo_feed_110 (by decide) ?_
  refine lv_iload hx hb d_Mo_feed_19 (lv_at hl 0 rfl) ?_
  refine lv_bipush (v := 20) hx hb d_Mo_feed_21 (by decide) ?_
  refine lv_icmp_ge (tgt := 113) hx hb d_Mo_feed_23 (by decide) (fun h => absurd h (by decide)) (fun _ => ?_)
  refine lv_iload hx hb d_Mo_feed_26 (lv_at hl 0 rfl) ?_
  refine lv_iconst (v := 4) hx hb d_Mo_feed_28 (by decide) ?_
  refine lv_icmp_ge (tgt := 36) hx hb d_Mo_feed_29 (by decide) (fun _ => ?_) (fun h => absurd (by decide) h)
  refine lv_iload hx hb d_Mo_feed_36 (lv_at hl 0 rfl) ?_
  refine lv_bipush (v := 8) hx hb d_Mo_feed_38 (by decide) ?_
  refine lv_icmp_ge (tgt := 47) hx hb d_Mo_feed_40 (by decide) (fun _ => ?_) (fun h => absurd (by decide) h)
  refine lv_iload hx hb d_Mo_feed_47 (lv_at hl 0 rfl) ?_
  refine lv_bipush (v := 12) hx hb d_Mo_feed_49 (by decide) ?_
  refine lv_icmp_ge (tgt := 58) hx hb d_Mo_feed_51 (by decide) (fun _ => ?_) (fun h => absurd (by decide) h)
  refine lv_iload hx hb d_Mo_feed_58 (lv_at hl 0 rfl) ?_
  refine lv_bipush (v := 16) hx hb d_Mo_feed_60 (by decide) ?_
  refine lv_icmp_ge (tgt := 70) hx hb d_Mo_feed_62 (by decide) (fun h => absurd h (by decide)) (fun _ => ?_)
  refine lv_iload hx hb d_Mo_feed_65 (lv_at hl 6 rfl) ?_
  refine lv_goto (tgt := 72) hx hb d_Mo_feed_67 (by decide) ?_
  refine lv_istore hx hb d_Mo_feed_72 hl (by decide) rfl (fun ls hl => ?_)
  have hl : lv_has ls 8 [(7, .int d1), (6, .int 14), (0, .ref oM), (1, .int a1), (2, .int b1), (3, .int c1), (4, .int d1), (5, .int e1)] := hl
  refine lv_aload_n hx hb d_Mo_feed_74 rfl (lv_at hl 2 rfl) ?_
  refine va_get (D := (dC, dI)) (ci := 12) (v := .ref am_tape) (C := R_Mo) (T := F_Mo) (N := 87) hx hb hts (fun w h => List.mem_cons_of_mem _ (in_Mo w h)) hown hK.1 hP 0 rfl rfl 0 (by decide) (hts _ (List.mem_cons_of_mem _ mw_1794)) (fun _ h9 => h9) g104_0 d_Mo_feed_75 ?_
  refine lv_aload_n hx hb d_Mo_feed_78 rfl (lv_at hl 2 rfl) ?_
  refine va_get (D := (dC, dI)) (ci := 12) (v := .int 14) (C := R_Mo) (T := F_Mo) (N := 87) hx hb hts (fun w h => List.mem_cons_of_mem _ (in_Mo w h)) hown hK.1 hP 0 rfl rfl 1 (by decide) (hts _ (List.mem_cons_of_mem _ mw_1795)) (fun _ h9 => h9) g104_1 d_Mo_feed_79 ?_
  refine lv_iload hx hb d_Mo_feed_82 (lv_at hl 0 rfl) ?_
  refine lv_bipush (v := 24) hx hb d_Mo_feed_84 (by decide) ?_
  refine lv_bipush (v := 8) hx hb d_Mo_feed_86 (by decide) ?_
  refine lv_iload hx hb d_Mo_feed_88 (lv_at hl 1 rfl) ?_
  refine lv_iconst (v := 4) hx hb d_Mo_feed_90 (by decide) ?_
  refine lv_irem hx hb d_Mo_feed_91 (by decide) ?_
  refine lv_topi (fun x0 e0 => ?_)
  obtain rfl : x0 = 2 := e0.trans (by decide)
  refine lv_imul hx hb d_Mo_feed_92 ?_
  refine lv_topi (fun x0 e0 => ?_)
  obtain rfl : x0 = 16 := e0.trans (by decide)
  refine lv_isub hx hb d_Mo_feed_93 ?_
  refine lv_topi (fun x0 e0 => ?_)
  obtain rfl : x0 = 8 := e0.trans (by decide)
  refine lv_iushr hx hb d_Mo_feed_94 rfl ?_
  refine lv_topi (fun z94_57 ez94_57 => ?_)
  refine lv_i2b hx hb d_Mo_feed_95 rfl ?_
  refine lv_topi (fun z95_58 ez95_58 => ?_)
  refine va_bast hx hb hK.1 hP hD hS 1 1 rfl rfl (vp_in_iff.mpr (by decide)) d_Mo_feed_96 (fun H locs hP hD hS => ?_)
  have hP : va_P (dC, dI) classes [(oM, .inr (12, ((((((((((((((fm.set 1 (.int 1)).set 1 (.int 2)).set 1 (.int 3)).set 1 (.int 4)).set 1 (.int 5)).set 1 (.int 6)).set 1 (.int 7)).set 1 (.int 8)).set 1 (.int 9)).set 1 (.int 10)).set 1 (.int 11)).set 1 (.int 12)).set 1 (.int 13)).set 1 (.int 14)))), (am_tape, .inl (cB, 4020, .inl ((upd f96_55 (14 : Int32).toNatClampNeg (vp_nar .byte z95_58)))))] H := hP
  have hD : va_D A [(oM, .inr (12, ((((((((((((((fm.set 1 (.int 1)).set 1 (.int 2)).set 1 (.int 3)).set 1 (.int 4)).set 1 (.int 5)).set 1 (.int 6)).set 1 (.int 7)).set 1 (.int 8)).set 1 (.int 9)).set 1 (.int 10)).set 1 (.int 11)).set 1 (.int 12)).set 1 (.int 13)).set 1 (.int 14)))), (am_tape, .inl (cB, 4020, .inl ((upd f96_55 (14 : Int32).toNatClampNeg (vp_nar .byte z95_58)))))] := hD
  generalize (upd f96_55 (14 : Int32).toNatClampNeg (vp_nar .byte z95_58)) = f96_59 at hP hD
  refine lv_aload_n hx hb d_Mo_feed_97 rfl (lv_at hl 2 rfl) ?_
  refine lv_dup hx hb d_Mo_feed_98 rfl ?_
  refine va_get (D := (dC, dI)) (ci := 12) (v := .int 14) (C := R_Mo) (T := F_Mo) (N := 87) hx hb hts (fun w h => List.mem_cons_of_mem _ (in_Mo w h)) hown hK.1 hP 0 rfl rfl 1 (by decide) (hts _ (List.mem_cons_of_mem _ mw_1795)) (fun _ h9 => h9) g104_1 d_Mo_feed_99 ?_
  refine lv_iconst (v := 1) hx hb d_Mo_feed_102 (by decide) ?_
  refine lv_iadd hx hb d_Mo_feed_103 ?_
  refine lv_topi (fun x0 e0 => ?_)
  obtain rfl : x0 = 15 := e0.trans (by decide)
  refine va_put (D := (dC, dI)) (ci := 12) (v := .int 15) (ty := .int) (C := R_Mo) (T := F_Mo) (N := 87) hx hb hts (fun w h => List.mem_cons_of_mem _ (in_Mo w h)) t_Mo t_Mo_ok n_Mo hown hK.1 hP hD hS 0 rfl rfl 1 (by decide) (hts _ (List.mem_cons_of_mem _ mw_1795)) (fun _ h9 => h9) rfl (by decide +kernel) rfl rfl (st_lt g104_1) d_Mo_feed_104 (fun H locs hP hD hS => ?_)
  have g104_0 : fx (((((((((((((((fm.set 1 (.int 1)).set 1 (.int 2)).set 1 (.int 3)).set 1 (.int 4)).set 1 (.int 5)).set 1 (.int 6)).set 1 (.int 7)).set 1 (.int 8)).set 1 (.int 9)).set 1 (.int 10)).set 1 (.int 11)).set 1 (.int 12)).set 1 (.int 13)).set 1 (.int 14)).set 1 (.int 15)) 0 (.ref am_tape) := (st_ne g104_0 (by decide))
  have g104_1 : fx (((((((((((((((fm.set 1 (.int 1)).set 1 (.int 2)).set 1 (.int 3)).set 1 (.int 4)).set 1 (.int 5)).set 1 (.int 6)).set 1 (.int 7)).set 1 (.int 8)).set 1 (.int 9)).set 1 (.int 10)).set 1 (.int 11)).set 1 (.int 12)).set 1 (.int 13)).set 1 (.int 14)).set 1 (.int 15)) 1 (.int 15) := (st_eq g104_1)
  have hP : va_P (dC, dI) classes [(oM, .inr (12, (((((((((((((((fm.set 1 (.int 1)).set 1 (.int 2)).set 1 (.int 3)).set 1 (.int 4)).set 1 (.int 5)).set 1 (.int 6)).set 1 (.int 7)).set 1 (.int 8)).set 1 (.int 9)).set 1 (.int 10)).set 1 (.int 11)).set 1 (.int 12)).set 1 (.int 13)).set 1 (.int 14)).set 1 (.int 15)))), (am_tape, .inl (cB, 4020, .inl f96_59))] H := hP
  have hD : va_D A [(oM, .inr (12, (((((((((((((((fm.set 1 (.int 1)).set 1 (.int 2)).set 1 (.int 3)).set 1 (.int 4)).set 1 (.int 5)).set 1 (.int 6)).set 1 (.int 7)).set 1 (.int 8)).set 1 (.int 9)).set 1 (.int 10)).set 1 (.int 11)).set 1 (.int 12)).set 1 (.int 13)).set 1 (.int 14)).set 1 (.int 15)))), (am_tape, .inl (cB, 4020, .inl f96_59))] := hD
  refine lv_iinc (k := 1) (v := 15) hx hb d_Mo_feed_107 hl rfl (by first | rfl | decide | exact nI_1 i | exact pv_1 j hj) (by decide) rfl (fun ls hl => ?_)
  have hl : lv_has ls 8 [(6, .int 15), (7, .int d1), (0, .ref oM), (1, .int a1), (2, .int b1), (3, .int c1), (4, .int d1), (5, .int e1)] := hl
  refine lv_goto (tgt := 19) hx hb d_Mo_feed_110 (by decide) ?_
  refine lv_iload hx hb d_Mo_feed_19 (lv_at hl 0 rfl) ?_
  refine lv_bipush (v := 20) hx hb d_Mo_feed_21 (by decide) ?_
  refine lv_icmp_ge (tgt := 113) hx hb d_Mo_feed_23 (by decide) (fun h => absurd h (by decide)) (fun _ => ?_)
  refine lv_iload hx hb d_Mo_feed_26 (lv_at hl 0 rfl) ?_
  refine lv_iconst (v := 4) hx hb d_Mo_feed_28 (by decide) ?_
  refine lv_icmp_ge (tgt := 36) hx hb d_Mo_feed_29 (by decide) (fun _ => ?_) (fun h => absurd (by decide) h)
  refine lv_iload hx hb d_Mo_feed_36 (lv_at hl 0 rfl) ?_
  refine lv_bipush (v := 8) hx hb d_Mo_feed_38 (by decide) ?_
  refine lv_icmp_ge (tgt := 47) hx hb d_Mo_feed_40 (by decide) (fun _ => ?_) (fun h => absurd (by decide) h)
  refine lv_iload hx hb d_Mo_feed_47 (lv_at hl 0 rfl) ?_
  refine lv_bipush (v := 12) hx hb d_Mo_feed_49 (by decide) ?_
  refine lv_icmp_ge (tgt := 58) hx hb d_Mo_feed_51 (by decide) (fun _ => ?_) (fun h => absurd (by decide) h)
  refine lv_iload hx hb d_Mo_feed_58 (lv_at hl 0 rfl) ?_
  refine lv_bipush (v := 16) hx hb d_Mo_feed_60 (by decide) ?_
  refine lv_icmp_ge (tgt := 70) hx hb d_Mo_feed_62 (by decide) (fun h => absurd h (by decide)) (fun _ => ?_)
  refine lv_iload hx hb d_Mo_feed_65 (lv_at hl 6 rfl) ?_
  refine lv_goto (tgt := 72) hx hb d_Mo_feed_67 (by decide) ?_
  refine lv_istore hx hb d_Mo_feed_72 hl (by decide) rfl (fun ls hl => ?_)
  have hl : lv_has ls 8 [(7, .int d1), (6, .int 15), (0, .ref oM), (1, .int a1), (2, .int b1), (3, .int c1), (4, .int d1), (5, .int e1)] := hl
  refine lv_aload_n hx hb d_Mo_feed_74 rfl (lv_at hl 2 rfl) ?_
  refine va_get (D := (dC, dI)) (ci := 12) (v := .ref am_tape) (C := R_Mo) (T := F_Mo) (N := 87) hx hb hts (fun w h => List.mem_cons_of_mem _ (in_Mo w h)) hown hK.1 hP 0 rfl rfl 0 (by decide) (hts _ (List.mem_cons_of_mem _ mw_1794)) (fun _ h9 => h9) g104_0 d_Mo_feed_75 ?_
  refine lv_aload_n hx hb d_Mo_feed_78 rfl (lv_at hl 2 rfl) ?_
  refine va_get (D := (dC, dI)) (ci := 12) (v := .int 15) (C := R_Mo) (T := F_Mo) (N := 87) hx hb hts (fun w h => List.mem_cons_of_mem _ (in_Mo w h)) hown hK.1 hP 0 rfl rfl 1 (by decide) (hts _ (List.mem_cons_of_mem _ mw_1795)) (fun _ h9 => h9) g104_1 d_Mo_feed_79 ?_
  refine lv_iload hx hb d_Mo_feed_82 (lv_at hl 0 rfl) ?_
  refine lv_bipush (v := 24) hx hb d_Mo_feed_84 (by decide) ?_
  refine lv_bipush (v := 8) hx hb d_Mo_feed_86 (by decide) ?_
  refine lv_iload hx hb d_Mo_feed_88 (lv_at hl 1 rfl) ?_
  refine lv_iconst (v := 4) hx hb d_Mo_feed_90 (by decide) ?_
  refine lv_irem hx hb d_Mo_feed_91 (by decide) ?_
  refine lv_topi (fun x0 e0 => ?_)
  obtain rfl : x0 = 3 := e0.trans (by decide)
  refine lv_imul hx hb d_Mo_feed_92 ?_
  refine lv_topi (fun x0 e0 => ?_)
  obtain rfl : x0 = 24 := e0.trans (by decide)
  refine lv_isub hx hb d_Mo_feed_93 ?_
  refine lv_topi (fun x0 e0 => ?_)
  obtain rfl : x0 = 0 := e0.trans (by decide)
  refine lv_iushr hx hb d_Mo_feed_94 rfl ?_
  refine lv_topi (fun z94_61 ez94_61 => ?_)
  refine lv_i2b hx hb d_Mo_feed_95 rfl ?_
  refine lv_topi (fun z95_62 ez95_62 => ?_)
  refine va_bast hx hb hK.1 hP hD hS 1 1 rfl rfl (vp_in_iff.mpr (by decide)) d_Mo_feed_96 (fun H locs hP hD hS => ?_)
  have hP : va_P (dC, dI) classes [(oM, .inr (12, (((((((((((((((fm.set 1 (.int 1)).set 1 (.int 2)).set 1 (.int 3)).set 1 (.int 4)).set 1 (.int 5)).set 1 (.int 6)).set 1 (.int 7)).set 1 (.int 8)).set 1 (.int 9)).set 1 (.int 10)).set 1 (.int 11)).set 1 (.int 12)).set 1 (.int 13)).set 1 (.int 14)).set 1 (.int 15)))), (am_tape, .inl (cB, 4020, .inl ((upd f96_59 (15 : Int32).toNatClampNeg (vp_nar .byte z95_62)))))] H := hP
  have hD : va_D A [(oM, .inr (12, (((((((((((((((fm.set 1 (.int 1)).set 1 (.int 2)).set 1 (.int 3)).set 1 (.int 4)).set 1 (.int 5)).set 1 (.int 6)).set 1 (.int 7)).set 1 (.int 8)).set 1 (.int 9)).set 1 (.int 10)).set 1 (.int 11)).set 1 (.int 12)).set 1 (.int 13)).set 1 (.int 14)).set 1 (.int 15)))), (am_tape, .inl (cB, 4020, .inl ((upd f96_59 (15 : Int32).toNatClampNeg (vp_nar .byte z95_62)))))] := hD
  generalize (upd f96_59 (15 : Int32).toNatClampNeg (vp_nar .byte z95_62)) = f96_63 at hP hD
  refine lv_aload_n hx hb d_Mo_feed_97 rfl (lv_at hl 2 rfl) ?_
  refine lv_dup hx hb d_Mo_feed_98 rfl ?_
  refine va_get (D := (dC, dI)) (ci := 12) (v := .int 15) (C := R_Mo) (T := F_Mo) (N := 87) hx hb hts (fun w h => List.mem_cons_of_mem _ (in_Mo w h)) hown hK.1 hP 0 rfl rfl 1 (by decide) (hts _ (List.mem_cons_of_mem _ mw_1795)) (fun _ h9 => h9) g104_1 d_Mo_feed_99 ?_
  refine lv_iconst (v := 1) hx hb d_Mo_feed_102 (by decide) ?_
  refine lv_iadd hx hb d_Mo_feed_103 ?_
  refine lv_topi (fun x0 e0 => ?_)
  obtain rfl : x0 = 16 := e0.trans (by decide)
  refine va_put (D := (dC, dI)) (ci := 12) (v := .int 16) (ty := .int) (C := R_Mo) (T := F_Mo) (N := 87) hx hb hts (fun w h => List.mem_cons_of_mem _ (in_Mo w h)) t_Mo t_Mo_ok n_Mo hown hK.1 hP hD hS 0 rfl rfl 1 (by decide) (hts _ (List.mem_cons_of_mem _ mw_1795)) (fun _ h9 => h9) rfl (by decide +kernel) rfl rfl (st_lt g104_1) d_Mo_feed_104 (fun H locs hP hD hS => ?_)
  have g104_0 : fx ((((((((((((((((fm.set 1 (.int 1)).set 1 (.int 2)).set 1 (.int 3)).set 1 (.int 4)).set 1 (.int 5)).set 1 (.int 6)).set 1 (.int 7)).set 1 (.int 8)).set 1 (.int 9)).set 1 (.int 10)).set 1 (.int 11)).set 1 (.int 12)).set 1 (.int 13)).set 1 (.int 14)).set 1 (.int 15)).set 1 (.int 16)) 0 (.ref am_tape) := (st_ne g104_0 (by decide))
  have g104_1 : fx ((((((((((((((((fm.set 1 (.int 1)).set 1 (.int 2)).set 1 (.int 3)).set 1 (.int 4)).set 1 (.int 5)).set 1 (.int 6)).set 1 (.int 7)).set 1 (.int 8)).set 1 (.int 9)).set 1 (.int 10)).set 1 (.int 11)).set 1 (.int 12)).set 1 (.int 13)).set 1 (.int 14)).set 1 (.int 15)).set 1 (.int 16)) 1 (.int 16) := (st_eq g104_1)
  have hP : va_P (dC, dI) classes [(oM, .inr (12, ((((((((((((((((fm.set 1 (.int 1)).set 1 (.int 2)).set 1 (.int 3)).set 1 (.int 4)).set 1 (.int 5)).set 1 (.int 6)).set 1 (.int 7)).set 1 (.int 8)).set 1 (.int 9)).set 1 (.int 10)).set 1 (.int 11)).set 1 (.int 12)).set 1 (.int 13)).set 1 (.int 14)).set 1 (.int 15)).set 1 (.int 16)))), (am_tape, .inl (cB, 4020, .inl f96_63))] H := hP
  have hD : va_D A [(oM, .inr (12, ((((((((((((((((fm.set 1 (.int 1)).set 1 (.int 2)).set 1 (.int 3)).set 1 (.int 4)).set 1 (.int 5)).set 1 (.int 6)).set 1 (.int 7)).set 1 (.int 8)).set 1 (.int 9)).set 1 (.int 10)).set 1 (.int 11)).set 1 (.int 12)).set 1 (.int 13)).set 1 (.int 14)).set 1 (.int 15)).set 1 (.int 16)))), (am_tape, .inl (cB, 4020, .inl f96_63))] := hD
  refine lv_iinc (k := 1) (v := 16) hx hb d_Mo_feed_107 hl rfl (by first | rfl | decide | exact nI_1 i | exact pv_1 j hj) (by decide) rfl (fun ls hl => ?_)
  have hl : lv_has ls 8 [(6, .int 16), (7, .int d1), (0, .ref oM), (1, .int a1), (2, .int b1), (3, .int c1), (4, .int d1), (5, .int e1)] := hl
  refine lv_goto (tgt := 19) hx hb d_Mo_feed_110 (by decide) ?_
  refine lv_iload hx hb d_Mo_feed_19 (lv_at hl 0 rfl) ?_
  refine lv_bipush (v := 20) hx hb d_Mo_feed_21 (by decide) ?_
  refine lv_icmp_ge (tgt := 113) hx hb d_Mo_feed_23 (by decide) (fun h => absurd h (by decide)) (fun _ => ?_)
  refine lv_iload hx hb d_Mo_feed_26 (lv_at hl 0 rfl) ?_
  refine lv_iconst (v := 4) hx hb d_Mo_feed_28 (by decide) ?_
  refine lv_icmp_ge (tgt := 36) hx hb d_Mo_feed_29 (by decide) (fun _ => ?_) (fun h => absurd (by decide) h)
  refine lv_iload hx hb d_Mo_feed_36 (lv_at hl 0 rfl) ?_
  refine lv_bipush (v := 8) hx hb d_Mo_feed_38 (by decide) ?_
  refine lv_icmp_ge (tgt := 47) hx hb d_Mo_feed_40 (by decide) (fun _ => ?_) (fun h => absurd (by decide) h)
  refine lv_iload hx hb d_Mo_feed_47 (lv_at hl 0 rfl) ?_
  refine lv_bipush (v := 12) hx hb d_Mo_feed_49 (by decide) ?_
  refine lv_icmp_ge (tgt := 58) hx hb d_Mo_feed_51 (by decide) (fun _ => ?_) (fun h => absurd (by decide) h)
  refine lv_iload hx hb d_Mo_feed_58 (lv_at hl 0 rfl) ?_
  refine lv_bipush (v := 16) hx hb d_Mo_feed_60 (by decide) ?_
  refine lv_icmp_ge (tgt := 70) hx hb d_Mo_feed_62 (by decide) (fun _ => ?_) (fun h => absurd (by decide) h)
  refine lv_iload hx hb d_Mo_feed_70 (lv_at hl 7 rfl) ?_
  refine lv_istore hx hb d_Mo_feed_72 hl (by decide) rfl (fun ls hl => ?_)
  have hl : lv_has ls 8 [(7, .int e1), (6, .int 16), (0, .ref oM), (1, .int a1), (2, .int b1), (3, .int c1), (4, .int d1), (5, .int e1)] := hl
  refine lv_aload_n hx hb d_Mo_feed_74 rfl (lv_at hl 2 rfl) ?_
  refine va_get (D := (dC, dI)) (ci := 12) (v := .ref am_tape) (C := R_Mo) (T := F_Mo) (N := 87) hx hb hts (fun w h => List.mem_cons_of_mem _ (in_Mo w h)) hown hK.1 hP 0 rfl rfl 0 (by decide) (hts _ (List.mem_cons_of_mem _ mw_1794)) (fun _ h9 => h9) g104_0 d_Mo_feed_75 ?_
  refine lv_aload_n hx hb d_Mo_feed_78 rfl (lv_at hl 2 rfl) ?_
  refine va_get (D := (dC, dI)) (ci := 12) (v := .int 16) (C := R_Mo) (T := F_Mo) (N := 87) hx hb hts (fun w h => List.mem_cons_of_mem _ (in_Mo w h)) hown hK.1 hP 0 rfl rfl 1 (by decide) (hts _ (List.mem_cons_of_mem _ mw_1795)) (fun _ h9 => h9) g104_1 d_Mo_feed_79 ?_
  refine lv_iload hx hb d_Mo_feed_82 (lv_at hl 0 rfl) ?_
  refine lv_bipush (v := 24) hx hb d_Mo_feed_84 (by decide) ?_
  refine lv_bipush (v := 8) hx hb d_Mo_feed_86 (by decide) ?_
  refine lv_iload hx hb d_Mo_feed_88 (lv_at hl 1 rfl) ?_
  refine lv_iconst (v := 4) hx hb d_Mo_feed_90 (by decide) ?_
  refine lv_irem hx hb d_Mo_feed_91 (by decide) ?_
  refine lv_topi (fun x0 e0 => ?_)
  obtain rfl : x0 = 0 := e0.trans (by decide)
  refine lv_imul hx hb d_Mo_feed_92 ?_
  refine lv_topi (fun x0 e0 => ?_)
  obtain rfl : x0 = 0 := e0.trans (by decide)
  refine lv_isub hx hb d_Mo_feed_93 ?_
  refine lv_topi (fun x0 e0 => ?_)
  obtain rfl : x0 = 24 := e0.trans (by decide)
  refine lv_iushr hx hb d_Mo_feed_94 rfl ?_
  refine lv_topi (fun z94_65 ez94_65 => ?_)
  refine lv_i2b hx hb d_Mo_feed_95 rfl ?_
  refine lv_topi (fun z95_66 ez95_66 => ?_)
  refine va_bast hx hb hK.1 hP hD hS 1 1 rfl rfl (vp_in_iff.mpr (by decide)) d_Mo_feed_96 (fun H locs hP hD hS => ?_)
  have hP : va_P (dC, dI) classes [(oM, .inr (12, ((((((((((((((((fm.set 1 (.int 1)).set 1 (.int 2)).set 1 (.int 3)).set 1 (.int 4)).set 1 (.int 5)).set 1 (.int 6)).set 1 (.int 7)).set 1 (.int 8)).set 1 (.int 9)).set 1 (.int 10)).set 1 (.int 11)).set 1 (.int 12)).set 1 (.int 13)).set 1 (.int 14)).set 1 (.int 15)).set 1 (.int 16)))), (am_tape, .inl (cB, 4020, .inl ((upd f96_63 (16 : Int32).toNatClampNeg (vp_nar .byte z95_66)))))] H := hP
  have hD : va_D A [(oM, .inr (12, ((((((((((((((((fm.set 1 (.int 1)).set 1 (.int 2)).set 1 (.int 3)).set 1 (.int 4)).set 1 (.int 5)).set 1 (.int 6)).set 1 (.int 7)).set 1 (.int 8)).set 1 (.int 9)).set 1 (.int 10)).set 1 (.int 11)).set 1 (.int 12)).set 1 (.int 13)).set 1 (.int 14)).set 1 (.int 15)).set 1 (.int 16)))), (am_tape, .inl (cB, 4020, .inl ((upd f96_63 (16 : Int32).toNatClampNeg (vp_nar .byte z95_66)))))] := hD
  generalize (upd f96_63 (16 : Int32).toNatClampNeg (vp_nar .byte z95_66)) = f96_67 at hP hD
  refine lv_aload_n hx hb d_Mo_feed_97 rfl (lv_at hl 2 rfl) ?_
  refine lv_dup hx hb d_Mo_feed_98 rfl ?_
  refine va_get (D := (dC, dI)) (ci := 12) (v := .int 16) (C := R_Mo) (T := F_Mo) (N := 87) hx hb hts (fun w h => List.mem_cons_of_mem _ (in_Mo w h)) hown hK.1 hP 0 rfl rfl 1 (by decide) (hts _ (List.mem_cons_of_mem _ mw_1795)) (fun _ h9 => h9) g104_1 d_Mo_feed_99 ?_
  refine lv_iconst (v := 1) hx hb d_Mo_feed_102 (by decide) ?_
  refine lv_iadd hx hb d_Mo_feed_103 ?_
  refine lv_topi (fun x0 e0 => ?_)
  obtain rfl : x0 = 17 := e0.trans (by decide)
  refine va_put (D := (dC, dI)) (ci := 12) (v := .int 17) (ty := .int) (C := R_Mo) (T := F_Mo) (N := 87) hx hb hts (fun w h => List.mem_cons_of_mem _ (in_Mo w h)) t_Mo t_Mo_ok n_Mo hown hK.1 hP hD hS 0 rfl rfl 1 (by decide) (hts _ (List.mem_cons_of_mem _ mw_1795)) (fun _ h9 => h9) rfl (by decide +kernel) rfl rfl (st_lt g104_1) d_Mo_feed_104 (fun H locs hP hD hS => ?_)
  have g104_0 : fx (((((((((((((((((fm.set 1 (.int 1)).set 1 (.int 2)).set 1 (.int 3)).set 1 (.int 4)).set 1 (.int 5)).set 1 (.int 6)).set 1 (.int 7)).set 1 (.int 8)).set 1 (.int 9)).set 1 (.int 10)).set 1 (.int 11)).set 1 (.int 12)).set 1 (.int 13)).set 1 (.int 14)).set 1 (.int 15)).set 1 (.int 16)).set 1 (.int 17)) 0 (.ref am_tape) := (st_ne g104_0 (by decide))
  have g104_1 : fx (((((((((((((((((fm.set 1 (.int 1)).set 1 (.int 2)).set 1 (.int 3)).set 1 (.int 4)).set 1 (.int 5)).set 1 (.int 6)).set 1 (.int 7)).set 1 (.int 8)).set 1 (.int 9)).set 1 (.int 10)).set 1 (.int 11)).set 1 (.int 12)).set 1 (.int 13)).set 1 (.int 14)).set 1 (.int 15)).set 1 (.int 16)).set 1 (.int 17)) 1 (.int 17) := (st_eq g104_1)
  have hP : va_P (dC, dI) classes [(oM, .inr (12, (((((((((((((((((fm.set 1 (.int 1)).set 1 (.int 2)).set 1 (.int 3)).set 1 (.int 4)).set 1 (.int 5)).set 1 (.int 6)).set 1 (.int 7)).set 1 (.int 8)).set 1 (.int 9)).set 1 (.int 10)).set 1 (.int 11)).set 1 (.int 12)).set 1 (.int 13)).set 1 (.int 14)).set 1 (.int 15)).set 1 (.int 16)).set 1 (.int 17)))), (am_tape, .inl (cB, 4020, .inl f96_67))] H := hP
  have hD : va_D A [(oM, .inr (12, (((((((((((((((((fm.set 1 (.int 1)).set 1 (.int 2)).set 1 (.int 3)).set 1 (.int 4)).set 1 (.int 5)).set 1 (.int 6)).set 1 (.int 7)).set 1 (.int 8)).set 1 (.int 9)).set 1 (.int 10)).set 1 (.int 11)).set 1 (.int 12)).set 1 (.int 13)).set 1 (.int 14)).set 1 (.int 15)).set 1 (.int 16)).set 1 (.int 17)))), (am_tape, .inl (cB, 4020, .inl f96_67))] := hD
  refine lv_iinc (k := 1) (v := 17) hx hb d_Mo_feed_107 hl rfl (by first | rfl | decide | exact nI_1 i | exact pv_1 j hj) (by decide) rfl (fun ls hl => ?_)
  have hl : lv_has ls 8 [(6, .int 17), (7, .int e1), (0, .ref oM), (1, .int a1), (2, .int b1), (3, .int c1), (4, .int d1), (5, .int e1)] := hl
  refine lv_goto (tgt := 19) hx hb d_Mo_feed_110 (by decide) ?_
  refine lv_iload hx hb d_Mo_feed_19 (lv_at hl 0 rfl) ?_
  refine lv_bipush (v := 20) hx hb d_Mo_feed_21 (by decide) ?_
  refine lv_icmp_ge (tgt := 113) hx hb d_Mo_feed_23 (by decide) (fun h => absurd h (by decide)) (fun _ => ?_)
  refine lv_iload hx hb d_Mo_feed_26 (lv_at hl 0 rfl) ?_
  refine lv_iconst (v := 4) hx hb d_Mo_feed_28 (by decide) ?_
  refine lv_icmp_ge (tgt := 36) hx hb d_Mo_feed_29 (by decide) (fun _ => ?_) (fun h => absurd (by decide) h)
  refine lv_iload hx hb d_Mo_feed_36 (lv_at hl 0 rfl) ?_
  refine lv_bipush (v := 8) hx hb d_Mo_feed_38 (by decide) ?_
  refine lv_icmp_ge (tgt := 47) hx hb d_Mo_feed_40 (by decide) (fun _ => ?_) (fun h => absurd (by decide) h)
  refine lv_iload hx hb d_Mo_feed_47 (lv_at hl 0 rfl) ?_
  refine lv_bipush (v := 12) hx hb d_Mo_feed_49 (by decide) ?_
  refine lv_icmp_ge (tgt := 58) hx hb d_Mo_feed_51 (by decide) (fun _ => ?_) (fun h => absurd (by decide) h)
  refine lv_iload hx hb d_Mo_feed_58 (lv_at hl 0 rfl) ?_
  refine lv_bipush (v := 16) hx hb d_Mo_feed_60 (by decide) ?_
  refine lv_icmp_ge (tgt := 70) hx hb d_Mo_feed_62 (by decide) (fun _ => ?_) (fun h => absurd (by decide) h)
  refine lv_iload hx hb d_Mo_feed_70 (lv_at hl 7 rfl) ?_
  refine lv_istore hx hb d_Mo_feed_72 hl (by decide) rfl (fun ls hl => ?_)
  have hl : lv_has ls 8 [(7, .int e1), (6, .int 17), (0, .ref oM), (1, .int a1), (2, .int b1), (3, .int c1), (4, .int d1), (5, .int e1)] := hl
  refine lv_aload_n hx hb d_Mo_feed_74 rfl (lv_at hl 2 rfl) ?_
  refine va_get (D := (dC, dI)) (ci := 12) (v := .ref am_tape) (C := R_Mo) (T := F_Mo) (N := 87) hx hb hts (fun w h => List.mem_cons_of_mem _ (in_Mo w h)) hown hK.1 hP 0 rfl rfl 0 (by decide) (hts _ (List.mem_cons_of_mem _ mw_1794)) (fun _ h9 => h9) g104_0 d_Mo_feed_75 ?_
  refine lv_aload_n hx hb d_Mo_feed_78 rfl (lv_at hl 2 rfl) ?_
  refine va_get (D := (dC, dI)) (ci := 12) (v := .int 17) (C := R_Mo) (T := F_Mo) (N := 87) hx hb hts (fun w h => List.mem_cons_of_mem _ (in_Mo w h)) hown hK.1 hP 0 rfl rfl 1 (by decide) (hts _ (List.mem_cons_of_mem _ mw_1795)) (fun _ h9 => h9) g104_1 d_Mo_feed_79 ?_
  refine lv_iload hx hb d_Mo_feed_82 (lv_at hl 0 rfl) ?_
  refine lv_bipush (v := 24) hx hb d_Mo_feed_84 (by decide) ?_
  refine lv_bipush (v := 8) hx hb d_Mo_feed_86 (by decide) ?_
  refine lv_iload hx hb d_Mo_feed_88 (lv_at hl 1 rfl) ?_
  refine lv_iconst (v := 4) hx hb d_Mo_feed_90 (by decide) ?_
  refine lv_irem hx hb d_Mo_feed_91 (by decide) ?_
  refine lv_topi (fun x0 e0 => ?_)
  obtain rfl : x0 = 1 := e0.trans (by decide)
  refine lv_imul hx hb d_Mo_feed_92 ?_
  refine lv_topi (fun x0 e0 => ?_)
  obtain rfl : x0 = 8 := e0.trans (by decide)
  refine lv_isub hx hb d_Mo_feed_93 ?_
  refine lv_topi (fun x0 e0 => ?_)
  obtain rfl : x0 = 16 := e0.trans (by decide)
  refine lv_iushr hx hb d_Mo_feed_94 rfl ?_
  refine lv_topi (fun z94_69 ez94_69 => ?_)
  refine lv_i2b hx hb d_Mo_feed_95 rfl ?_
  refine lv_topi (fun z95_70 ez95_70 => ?_)
  refine va_bast hx hb hK.1 hP hD hS 1 1 rfl rfl (vp_in_iff.mpr (by decide)) d_Mo_feed_96 (fun H locs hP hD hS => ?_)
  have hP : va_P (dC, dI) classes [(oM, .inr (12, (((((((((((((((((fm.set 1 (.int 1)).set 1 (.int 2)).set 1 (.int 3)).set 1 (.int 4)).set 1 (.int 5)).set 1 (.int 6)).set 1 (.int 7)).set 1 (.int 8)).set 1 (.int 9)).set 1 (.int 10)).set 1 (.int 11)).set 1 (.int 12)).set 1 (.int 13)).set 1 (.int 14)).set 1 (.int 15)).set 1 (.int 16)).set 1 (.int 17)))), (am_tape, .inl (cB, 4020, .inl ((upd f96_67 (17 : Int32).toNatClampNeg (vp_nar .byte z95_70)))))] H := hP
  have hD : va_D A [(oM, .inr (12, (((((((((((((((((fm.set 1 (.int 1)).set 1 (.int 2)).set 1 (.int 3)).set 1 (.int 4)).set 1 (.int 5)).set 1 (.int 6)).set 1 (.int 7)).set 1 (.int 8)).set 1 (.int 9)).set 1 (.int 10)).set 1 (.int 11)).set 1 (.int 12)).set 1 (.int 13)).set 1 (.int 14)).set 1 (.int 15)).set 1 (.int 16)).set 1 (.int 17)))), (am_tape, .inl (cB, 4020, .inl ((upd f96_67 (17 : Int32).toNatClampNeg (vp_nar .byte z95_70)))))] := hD
  generalize (upd f96_67 (17 : Int32).toNatClampNeg (vp_nar .byte z95_70)) = f96_71 at hP hD
  refine lv_aload_n hx hb d_Mo_feed_97 rfl (lv_at hl 2 rfl) ?_
  refine lv_dup hx hb d_Mo_feed_98 rfl ?_
  refine va_get (D := (dC, dI)) (ci := 12) (v := .int 17) (C := R_Mo) (T := F_Mo) (N := 87) hx hb hts (fun w h => List.mem_cons_of_mem _ (in_Mo w h)) hown hK.1 hP 0 rfl rfl 1 (by decide) (hts _ (List.mem_cons_of_mem _ mw_1795)) (fun _ h9 => h9) g104_1 d_Mo_feed_99 ?_
  refine lv_iconst (v := 1) hx hb d_Mo_feed_102 (by decide) ?_
  refine lv_iadd hx hb d_Mo_feed_103 ?_
  refine lv_topi (fun x0 e0 => ?_)
  obtain rfl : x0 = 18 := e0.trans (by decide)
  refine va_put (D := (dC, dI)) (ci := 12) (v := .int 18) (ty := .int) (C := R_Mo) (T := F_Mo) (N := 87) hx hb hts (fun w h => List.mem_cons_of_mem _ (in_Mo w h)) t_Mo t_Mo_ok n_Mo hown hK.1 hP hD hS 0 rfl rfl 1 (by decide) (hts _ (List.mem_cons_of_mem _ mw_1795)) (fun _ h9 => h9) rfl (by decide +kernel) rfl rfl (st_lt g104_1) d_Mo_feed_104 (fun H locs hP hD hS => ?_)
  have g104_0 : fx ((((((((((((((((((fm.set 1 (.int 1)).set 1 (.int 2)).set 1 (.int 3)).set 1 (.int 4)).set 1 (.int 5)).set 1 (.int 6)).set 1 (.int 7)).set 1 (.int 8)).set 1 (.int 9)).set 1 (.int 10)).set 1 (.int 11)).set 1 (.int 12)).set 1 (.int 13)).set 1 (.int 14)).set 1 (.int 15)).set 1 (.int 16)).set 1 (.int 17)).set 1 (.int 18)) 0 (.ref am_tape) := (st_ne g104_0 (by decide))
  have g104_1 : fx ((((((((((((((((((fm.set 1 (.int 1)).set 1 (.int 2)).set 1 (.int 3)).set 1 (.int 4)).set 1 (.int 5)).set 1 (.int 6)).set 1 (.int 7)).set 1 (.int 8)).set 1 (.int 9)).set 1 (.int 10)).set 1 (.int 11)).set 1 (.int 12)).set 1 (.int 13)).set 1 (.int 14)).set 1 (.int 15)).set 1 (.int 16)).set 1 (.int 17)).set 1 (.int 18)) 1 (.int 18) := (st_eq g104_1)
  have hP : va_P (dC, dI) classes [(oM, .inr (12, ((((((((((((((((((fm.set 1 (.int 1)).set 1 (.int 2)).set 1 (.int 3)).set 1 (.int 4)).set 1 (.int 5)).set 1 (.int 6)).set 1 (.int 7)).set 1 (.int 8)).set 1 (.int 9)).set 1 (.int 10)).set 1 (.int 11)).set 1 (.int 12)).set 1 (.int 13)).set 1 (.int 14)).set 1 (.int 15)).set 1 (.int 16)).set 1 (.int 17)).set 1 (.int 18)))), (am_tape, .inl (cB, 4020, .inl f96_71))] H := hP
  have hD : va_D A [(oM, .inr (12, ((((((((((((((((((fm.set 1 (.int 1)).set 1 (.int 2)).set 1 (.int 3)).set 1 (.int 4)).set 1 (.int 5)).set 1 (.int 6)).set 1 (.int 7)).set 1 (.int 8)).set 1 (.int 9)).set 1 (.int 10)).set 1 (.int 11)).set 1 (.int 12)).set 1 (.int 13)).set 1 (.int 14)).set 1 (.int 15)).set 1 (.int 16)).set 1 (.int 17)).set 1 (.int 18)))), (am_tape, .inl (cB, 4020, .inl f96_71))] := hD
  refine lv_iinc (k := 1) (v := 18) hx hb d_Mo_feed_107 hl rfl (by first | rfl | decide | exact nI_1 i | exact pv_1 j hj) (by decide) rfl (fun ls hl => ?_)
  have hl : lv_has ls 8 [(6, .int 18), (7, .int e1), (0, .ref oM), (1, .int a1), (2, .int b1), (3, .int c1), (4, .int d1), (5, .int e1)] := hl
  refine lv_goto (tgt := 19) hx hb d_Mo_feed_110 (by decide) ?_
  refine lv_iload hx hb d_Mo_feed_19 (lv_at hl 0 rfl) ?_
  refine lv_bipush (v := 20) hx hb d_Mo_feed_21 (by decide) ?_
  refine lv_icmp_ge (tgt := 113) hx hb d_Mo_feed_23 (by decide) (fun h => absurd h (by decide)) (fun _ => ?_)
  refine lv_iload hx hb d_Mo_feed_26 (lv_at hl 0 rfl) ?_
  refine lv_iconst (v := 4) hx hb d_Mo_feed_28 (by decide) ?_
  refine lv_icmp_ge (tgt := 36) hx hb d_Mo_feed_29 (by decide) (fun _ => ?_) (fun h => absurd (by decide) h)
  refine lv_iload hx hb d_Mo_feed_36 (lv_at hl 0 rfl) ?_
  refine lv_bipush (v := 8) hx hb d_Mo_feed_38 (by decide) ?_
  refine lv_icmp_ge (tgt := 47) hx hb d_Mo_feed_40 (by decide) (fun _ => ?_) (fun h => absurd (by decide) h)
  refine lv_iload hx hb d_Mo_feed_47 (lv_at hl 0 rfl) ?_
  refine lv_bipush (v := 12) hx hb d_Mo_feed_49 (by decide) ?_
  refine lv_icmp_ge (tgt := 58) hx hb d_Mo_feed_51 (by decide) (fun _ => ?_) (fun h => absurd (by decide) h)
  refine lv_iload hx hb d_Mo_feed_58 (lv_at hl 0 rfl) ?_
  refine lv_bipush (v := 16) hx hb d_Mo_feed_60 (by decide) ?_
  refine lv_icmp_ge (tgt := 70) hx hb d_Mo_feed_62 (by decide) (fun _ => ?_) (fun h => absurd (by decide) h)
  refine lv_iload hx hb d_Mo_feed_70 (lv_at hl 7 rfl) ?_
  refine lv_istore hx hb d_Mo_feed_72 hl (by decide) rfl (fun ls hl => ?_)
  have hl : lv_has ls 8 [(7, .int e1), (6, .int 18), (0, .ref oM), (1, .int a1), (2, .int b1), (3, .int c1), (4, .int d1), (5, .int e1)] := hl
  refine lv_aload_n hx hb d_Mo_feed_74 rfl (lv_at hl 2 rfl) ?_
  refine va_get (D := (dC, dI)) (ci := 12) (v := .ref am_tape) (C := R_Mo) (T := F_Mo) (N := 87) hx hb hts (fun w h => List.mem_cons_of_mem _ (in_Mo w h)) hown hK.1 hP 0 rfl rfl 0 (by decide) (hts _ (List.mem_cons_of_mem _ mw_1794)) (fun _ h9 => h9) g104_0 d_Mo_feed_75 ?_
  refine lv_aload_n hx hb d_Mo_feed_78 rfl (lv_at hl 2 rfl) ?_
  refine va_get (D := (dC, dI)) (ci := 12) (v := .int 18) (C := R_Mo) (T := F_Mo) (N := 87) hx hb hts (fun w h => List.mem_cons_of_mem _ (in_Mo w h)) hown hK.1 hP 0 rfl rfl 1 (by decide) (hts _ (List.mem_cons_of_mem _ mw_1795)) (fun _ h9 => h9) g104_1 d_Mo_feed_79 ?_
  refine lv_iload hx hb d_Mo_feed_82 (lv_at hl 0 rfl) ?_
  refine lv_bipush (v := 24) hx hb d_Mo_feed_84 (by decide) ?_
  refine lv_bipush (v := 8) hx hb d_Mo_feed_86 (by decide) ?_
  refine lv_iload hx hb d_Mo_feed_88 (lv_at hl 1 rfl) ?_
  refine lv_iconst (v := 4) hx hb d_Mo_feed_90 (by decide) ?_
  refine lv_irem hx hb d_Mo_feed_91 (by decide) ?_
  refine lv_topi (fun x0 e0 => ?_)
  obtain rfl : x0 = 2 := e0.trans (by decide)
  refine lv_imul hx hb d_Mo_feed_92 ?_
  refine lv_topi (fun x0 e0 => ?_)
  obtain rfl : x0 = 16 := e0.trans (by decide)
  refine lv_isub hx hb d_Mo_feed_93 ?_
  refine lv_topi (fun x0 e0 => ?_)
  obtain rfl : x0 = 8 := e0.trans (by decide)
  refine lv_iushr hx hb d_Mo_feed_94 rfl ?_
  refine lv_topi (fun z94_73 ez94_73 => ?_)
  refine lv_i2b hx hb d_Mo_feed_95 rfl ?_
  refine lv_topi (fun z95_74 ez95_74 => ?_)
  refine va_bast hx hb hK.1 hP hD hS 1 1 rfl rfl (vp_in_iff.mpr (by decide)) d_Mo_feed_96 (fun H locs hP hD hS => ?_)
  have hP : va_P (dC, dI) classes [(oM, .inr (12, ((((((((((((((((((fm.set 1 (.int 1)).set 1 (.int 2)).set 1 (.int 3)).set 1 (.int 4)).set 1 (.int 5)).set 1 (.int 6)).set 1 (.int 7)).set 1 (.int 8)).set 1 (.int 9)).set 1 (.int 10)).set 1 (.int 11)).set 1 (.int 12)).set 1 (.int 13)).set 1 (.int 14)).set 1 (.int 15)).set 1 (.int 16)).set 1 (.int 17)).set 1 (.int 18)))), (am_tape, .inl (cB, 4020, .inl ((upd f96_71 (18 : Int32).toNatClampNeg (vp_nar .byte z95_74)))))] H := hP
  have hD : va_D A [(oM, .inr (12, ((((((((((((((((((fm.set 1 (.int 1)).set 1 (.int 2)).set 1 (.int 3)).set 1 (.int 4)).set 1 (.int 5)).set 1 (.int 6)).set 1 (.int 7)).set 1 (.int 8)).set 1 (.int 9)).set 1 (.int 10)).set 1 (.int 11)).set 1 (.int 12)).set 1 (.int 13)).set 1 (.int 14)).set 1 (.int 15)).set 1 (.int 16)).set 1 (.int 17)).set 1 (.int 18)))), (am_tape, .inl (cB, 4020, .inl ((upd f96_71 (18 : Int32).toNatClampNeg (vp_nar .byte z95_74)))))] := hD
  generalize (upd f96_71 (18 : Int32).toNatClampNeg (vp_nar .byte z95_74)) = f96_75 at hP hD
  refine lv_aload_n hx hb d_Mo_feed_97 rfl (lv_at hl 2 rfl) ?_
  refine lv_dup hx hb d_Mo_feed_98 rfl ?_
  refine va_get (D := (dC, dI)) (ci := 12) (v := .int 18) (C := R_Mo) (T := F_Mo) (N := 87) hx hb hts (fun w h => List.mem_cons_of_mem _ (in_Mo w h)) hown hK.1 hP 0 rfl rfl 1 (by decide) (hts _ (List.mem_cons_of_mem _ mw_1795)) (fun _ h9 => h9) g104_1 d_Mo_feed_99 ?_
  refine lv_iconst (v := 1) hx hb d_Mo_feed_102 (by decide) ?_
  refine lv_iadd hx hb d_Mo_feed_103 ?_
  refine lv_topi (fun x0 e0 => ?_)
  obtain rfl : x0 = 19 := e0.trans (by decide)
  refine va_put (D := (dC, dI)) (ci := 12) (v := .int 19) (ty := .int) (C := R_Mo) (T := F_Mo) (N := 87) hx hb hts (fun w h => List.mem_cons_of_mem _ (in_Mo w h)) t_Mo t_Mo_ok n_Mo hown hK.1 hP hD hS 0 rfl rfl 1 (by decide) (hts _ (List.mem_cons_of_mem _ mw_1795)) (fun _ h9 => h9) rfl (by decide +kernel) rfl rfl (st_lt g104_1) d_Mo_feed_104 (fun H locs hP hD hS => ?_)
  have g104_0 : fx (((((((((((((((((((fm.set 1 (.int 1)).set 1 (.int 2)).set 1 (.int 3)).set 1 (.int 4)).set 1 (.int 5)).set 1 (.int 6)).set 1 (.int 7)).set 1 (.int 8)).set 1 (.int 9)).set 1 (.int 10)).set 1 (.int 11)).set 1 (.int 12)).set 1 (.int 13)).set 1 (.int 14)).set 1 (.int 15)).set 1 (.int 16)).set 1 (.int 17)).set 1 (.int 18)).set 1 (.int 19)) 0 (.ref am_tape) := (st_ne g104_0 (by decide))
  have g104_1 : fx (((((((((((((((((((fm.set 1 (.int 1)).set 1 (.int 2)).set 1 (.int 3)).set 1 (.int 4)).set 1 (.int 5)).set 1 (.int 6)).set 1 (.int 7)).set 1 (.int 8)).set 1 (.int 9)).set 1 (.int 10)).set 1 (.int 11)).set 1 (.int 12)).set 1 (.int 13)).set 1 (.int 14)).set 1 (.int 15)).set 1 (.int 16)).set 1 (.int 17)).set 1 (.int 18)).set 1 (.int 19)) 1 (.int 19) := (st_eq g104_1)
  have hP : va_P (dC, dI) classes [(oM, .inr (12, (((((((((((((((((((fm.set 1 (.int 1)).set 1 (.int 2)).set 1 (.int 3)).set 1 (.int 4)).set 1 (.int 5)).set 1 (.int 6)).set 1 (.int 7)).set 1 (.int 8)).set 1 (.int 9)).set 1 (.int 10)).set 1 (.int 11)).set 1 (.int 12)).set 1 (.int 13)).set 1 (.int 14)).set 1 (.int 15)).set 1 (.int 16)).set 1 (.int 17)).set 1 (.int 18)).set 1 (.int 19)))), (am_tape, .inl (cB, 4020, .inl f96_75))] H := hP
  have hD : va_D A [(oM, .inr (12, (((((((((((((((((((fm.set 1 (.int 1)).set 1 (.int 2)).set 1 (.int 3)).set 1 (.int 4)).set 1 (.int 5)).set 1 (.int 6)).set 1 (.int 7)).set 1 (.int 8)).set 1 (.int 9)).set 1 (.int 10)).set 1 (.int 11)).set 1 (.int 12)).set 1 (.int 13)).set 1 (.int 14)).set 1 (.int 15)).set 1 (.int 16)).set 1 (.int 17)).set 1 (.int 18)).set 1 (.int 19)))), (am_tape, .inl (cB, 4020, .inl f96_75))] := hD
  refine lv_iinc (k := 1) (v := 19) hx hb d_Mo_feed_107 hl rfl (by first | rfl | decide | exact nI_1 i | exact pv_1 j hj) (by decide) rfl (fun ls hl => ?_)
  have hl : lv_has ls 8 [(6, .int 19), (7, .int e1), (0, .ref oM), (1, .int a1), (2, .int b1), (3, .int c1), (4, .int d1), (5, .int e1)] := hl
  refine lv_goto (tgt := 19) hx hb d_Mo_feed_110 (by decide) ?_
  refine lv_iload hx hb d_Mo_feed_19 (lv_at hl 0 rfl) ?_
  refine lv_bipush (v := 20) hx hb d_Mo_feed_21 (by decide) ?_
  refine lv_icmp_ge (tgt := 113) hx hb d_Mo_feed_23 (by decide) (fun h => absurd h (by decide)) (fun _ => ?_)
  refine lv_iload hx hb d_Mo_feed_26 (lv_at hl 0 rfl) ?_
  refine lv_iconst (v := 4) hx hb d_Mo_feed_28 (by decide) ?_
  refine lv_icmp_ge (tgt := 36) hx hb d_Mo_feed_29 (by decide) (fun _ => ?_) (fun h => absurd (by decide) h)
  refine lv_iload hx hb d_Mo_feed_36 (lv_at hl 0 rfl) ?_
  refine lv_bipush (v := 8) hx hb d_Mo_feed_38 (by decide) ?_
  refine lv_icmp_ge (tgt := 47) hx hb d_Mo_feed_40 (by decide) (fun _ => ?_) (fun h => absurd (by decide) h)
  refine lv_iload hx hb d_Mo_feed_47 (lv_at hl 0 rfl) ?_
  refine lv_bipush (v := 12) hx hb d_Mo_feed_49 (by decide) ?_
  refine lv_icmp_ge (tgt := 58) hx hb d_Mo_feed_51 (by decide) (fun _ => ?_) (fun h => absurd (by decide) h)
  refine lv_iload hx hb d_Mo_feed_58 (lv_at hl 0 rfl) ?_
  refine lv_bipush (v := 16) hx hb d_Mo_feed_60 (by decide) ?_
  refine lv_icmp_ge (tgt := 70) hx hb d_Mo_feed_62 (by decide) (fun _ => ?_) (fun h => absurd (by decide) h)
  refine lv_iload hx hb d_Mo_feed_70 (lv_at hl 7 rfl) ?_
  refine lv_istore hx hb d_Mo_feed_72 hl (by decide) rfl (fun ls hl => ?_)
  have hl : lv_has ls 8 [(7, .int e1), (6, .int 19), (0, .ref oM), (1, .int a1), (2, .int b1), (3, .int c1), (4, .int d1), (5, .int e1)] := hl
  refine lv_aload_n hx hb d_Mo_feed_74 rfl (lv_at hl 2 rfl) ?_
  refine va_get (D := (dC, dI)) (ci := 12) (v := .ref am_tape) (C := R_Mo) (T := F_Mo) (N := 87) hx hb hts (fun w h => List.mem_cons_of_mem _ (in_Mo w h)) hown hK.1 hP 0 rfl rfl 0 (by decide) (hts _ (List.mem_cons_of_mem _ mw_1794)) (fun _ h9 => h9) g104_0 d_Mo_feed_75 ?_
  refine lv_aload_n hx hb d_Mo_feed_78 rfl (lv_at hl 2 rfl) ?_
  refine va_get (D := (dC, dI)) (ci := 12) (v := .int 19) (C := R_Mo) (T := F_Mo) (N := 87) hx hb hts (fun w h => List.mem_cons_of_mem _ (in_Mo w h)) hown hK.1 hP 0 rfl rfl 1 (by decide) (hts _ (List.mem_cons_of_mem _ mw_1795)) (fun _ h9 => h9) g104_1 d_Mo_feed_79 ?_
  refine lv_iload hx hb d_Mo_feed_82 (lv_at hl 0 rfl) ?_
  refine lv_bipush (v := 24) hx hb d_Mo_feed_84 (by decide) ?_
  refine lv_bipush (v := 8) hx hb d_Mo_feed_86 (by decide) ?_
  refine lv_iload hx hb d_Mo_feed_88 (lv_at hl 1 rfl) ?_
  refine lv_iconst (v := 4) hx hb d_Mo_feed_90 (by decide) ?_
  refine lv_irem hx hb d_Mo_feed_91 (by decide) ?_
  refine lv_topi (fun x0 e0 => ?_)
  obtain rfl : x0 = 3 := e0.trans (by decide)
  refine lv_imul hx hb d_Mo_feed_92 ?_
  refine lv_topi (fun x0 e0 => ?_)
  obtain rfl : x0 = 24 := e0.trans (by decide)
  refine lv_isub hx hb d_Mo_feed_93 ?_
  refine lv_topi (fun x0 e0 => ?_)
  obtain rfl : x0 = 0 := e0.trans (by decide)
  refine lv_iushr hx hb d_Mo_feed_94 rfl ?_
  refine lv_topi (fun z94_77 ez94_77 => ?_)
  refine lv_i2b hx hb d_Mo_feed_95 rfl ?_
  refine lv_topi (fun z95_78 ez95_78 => ?_)
  refine va_bast hx hb hK.1 hP hD hS 1 1 rfl rfl (vp_in_iff.mpr (by decide)) d_Mo_feed_96 (fun H locs hP hD hS => ?_)
  have hP : va_P (dC, dI) classes [(oM, .inr (12, (((((((((((((((((((fm.set 1 (.int 1)).set 1 (.int 2)).set 1 (.int 3)).set 1 (.int 4)).set 1 (.int 5)).set 1 (.int 6)).set 1 (.int 7)).set 1 (.int 8)).set 1 (.int 9)).set 1 (.int 10)).set 1 (.int 11)).set 1 (.int 12)).set 1 (.int 13)).set 1 (.int 14)).set 1 (.int 15)).set 1 (.int 16)).set 1 (.int 17)).set 1 (.int 18)).set 1 (.int 19)))), (am_tape, .inl (cB, 4020, .inl ((upd f96_75 (19 : Int32).toNatClampNeg (vp_nar .byte z95_78)))))] H := hP
  have hD : va_D A [(oM, .inr (12, (((((((((((((((((((fm.set 1 (.int 1)).set 1 (.int 2)).set 1 (.int 3)).set 1 (.int 4)).set 1 (.int 5)).set 1 (.int 6)).set 1 (.int 7)).set 1 (.int 8)).set 1 (.int 9)).set 1 (.int 10)).set 1 (.int 11)).set 1 (.int 12)).set 1 (.int 13)).set 1 (.int 14)).set 1 (.int 15)).set 1 (.int 16)).set 1 (.int 17)).set 1 (.int 18)).set 1 (.int 19)))), (am_tape, .inl (cB, 4020, .inl ((upd f96_75 (19 : Int32).toNatClampNeg (vp_nar .byte z95_78)))))] := hD
  generalize (upd f96_75 (19 : Int32).toNatClampNeg (vp_nar .byte z95_78)) = f96_79 at hP hD
  refine lv_aload_n hx hb d_Mo_feed_97 rfl (lv_at hl 2 rfl) ?_
  refine lv_dup hx hb d_Mo_feed_98 rfl ?_
  refine va_get (D := (dC, dI)) (ci := 12) (v := .int 19) (C := R_Mo) (T := F_Mo) (N := 87) hx hb hts (fun w h => List.mem_cons_of_mem _ (in_Mo w h)) hown hK.1 hP 0 rfl rfl 1 (by decide) (hts _ (List.mem_cons_of_mem _ mw_1795)) (fun _ h9 => h9) g104_1 d_Mo_feed_99 ?_
  refine lv_iconst (v := 1) hx hb d_Mo_feed_102 (by decide) ?_
  refine lv_iadd hx hb d_Mo_feed_103 ?_
  refine lv_topi (fun x0 e0 => ?_)
  obtain rfl : x0 = 20 := e0.trans (by decide)
  refine va_put (D := (dC, dI)) (ci := 12) (v := .int 20) (ty := .int) (C := R_Mo) (T := F_Mo) (N := 87) hx hb hts (fun w h => List.mem_cons_of_mem _ (in_Mo w h)) t_Mo t_Mo_ok n_Mo hown hK.1 hP hD hS 0 rfl rfl 1 (by decide) (hts _ (List.mem_cons_of_mem _ mw_1795)) (fun _ h9 => h9) rfl (by decide +kernel) rfl rfl (st_lt g104_1) d_Mo_feed_104 (fun H locs hP hD hS => ?_)
  have g104_0 : fx ((((((((((((((((((((fm.set 1 (.int 1)).set 1 (.int 2)).set 1 (.int 3)).set 1 (.int 4)).set 1 (.int 5)).set 1 (.int 6)).set 1 (.int 7)).set 1 (.int 8)).set 1 (.int 9)).set 1 (.int 10)).set 1 (.int 11)).set 1 (.int 12)).set 1 (.int 13)).set 1 (.int 14)).set 1 (.int 15)).set 1 (.int 16)).set 1 (.int 17)).set 1 (.int 18)).set 1 (.int 19)).set 1 (.int 20)) 0 (.ref am_tape) := (st_ne g104_0 (by decide))
  have g104_1 : fx ((((((((((((((((((((fm.set 1 (.int 1)).set 1 (.int 2)).set 1 (.int 3)).set 1 (.int 4)).set 1 (.int 5)).set 1 (.int 6)).set 1 (.int 7)).set 1 (.int 8)).set 1 (.int 9)).set 1 (.int 10)).set 1 (.int 11)).set 1 (.int 12)).set 1 (.int 13)).set 1 (.int 14)).set 1 (.int 15)).set 1 (.int 16)).set 1 (.int 17)).set 1 (.int 18)).set 1 (.int 19)).set 1 (.int 20)) 1 (.int 20) := (st_eq g104_1)
  have hP : va_P (dC, dI) classes [(oM, .inr (12, ((((((((((((((((((((fm.set 1 (.int 1)).set 1 (.int 2)).set 1 (.int 3)).set 1 (.int 4)).set 1 (.int 5)).set 1 (.int 6)).set 1 (.int 7)).set 1 (.int 8)).set 1 (.int 9)).set 1 (.int 10)).set 1 (.int 11)).set 1 (.int 12)).set 1 (.int 13)).set 1 (.int 14)).set 1 (.int 15)).set 1 (.int 16)).set 1 (.int 17)).set 1 (.int 18)).set 1 (.int 19)).set 1 (.int 20)))), (am_tape, .inl (cB, 4020, .inl f96_79))] H := hP
  have hD : va_D A [(oM, .inr (12, ((((((((((((((((((((fm.set 1 (.int 1)).set 1 (.int 2)).set 1 (.int 3)).set 1 (.int 4)).set 1 (.int 5)).set 1 (.int 6)).set 1 (.int 7)).set 1 (.int 8)).set 1 (.int 9)).set 1 (.int 10)).set 1 (.int 11)).set 1 (.int 12)).set 1 (.int 13)).set 1 (.int 14)).set 1 (.int 15)).set 1 (.int 16)).set 1 (.int 17)).set 1 (.int 18)).set 1 (.int 19)).set 1 (.int 20)))), (am_tape, .inl (cB, 4020, .inl f96_79))] := hD
  refine lv_iinc (k := 1) (v := 20) hx hb d_Mo_feed_107 hl rfl (by first | rfl | decide | exact nI_1 i | exact pv_1 j hj) (by decide) rfl (fun ls hl => ?_)
  have hl : lv_has ls 8 [(6, .int 20), (7, .int e1), (0, .ref oM), (1, .int a1), (2, .int b1), (3, .int c1), (4, .int d1), (5, .int e1)] := hl
  refine lv_goto (tgt := 19) hx hb d_Mo_feed_110 (by decide) ?_
  refine lv_iload hx hb d_Mo_feed_19 (lv_at hl 0 rfl) ?_
  refine lv_bipush (v := 20) hx hb d_Mo_feed_21 (by decide) ?_
  refine lv_icmp_ge (tgt := 113) hx hb d_Mo_feed_23 (by decide) (fun _ => ?_) (fun h => absurd (by decide) h)
  refine lv_aload_n hx hb d_Mo_feed_113 rfl (lv_at hl 2 rfl) ?_
  refine va_get (D := (dC, dI)) (ci := 12) (v := .int 20) (C := R_Mo) (T := F_Mo) (N := 87) hx hb hts (fun w h => List.mem_cons_of_mem _ (in_Mo w h)) hown hK.1 hP 0 rfl rfl 1 (by decide) (hts _ (List.mem_cons_of_mem _ mw_1795)) (fun _ h9 => h9) g104_1 d_Mo_feed_114 ?_
  exact W.iret (v := 20) hx hb hr (fun t ht hW => ⟨⟨_, (), rfl, (rfl), trivial⟩, hS.F ht⟩) hS.2.2 d_Mo_feed_117
