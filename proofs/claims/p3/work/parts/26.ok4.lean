abbrev t_Ac_isBound_122 : List UInt8 := 172 :: []
abbrev t_Ac_isBound_121 : List UInt8 := 3 :: t_Ac_isBound_122
abbrev t_Ac_isBound_120 : List UInt8 := 172 :: t_Ac_isBound_121
abbrev t_Ac_isBound_117 : List UInt8 := 182 :: 0 :: 61 :: t_Ac_isBound_120
abbrev t_Ac_isBound_116 : List UInt8 := 46 :: t_Ac_isBound_117
abbrev t_Ac_isBound_115 : List UInt8 := 27 :: t_Ac_isBound_116
abbrev t_Ac_isBound_112 : List UInt8 := 180 :: 0 :: 22 :: t_Ac_isBound_115
abbrev t_Ac_isBound_111 : List UInt8 := 42 :: t_Ac_isBound_112
abbrev t_Ac_isBound_108 : List UInt8 := 180 :: 0 :: 31 :: t_Ac_isBound_111
abbrev t_Ac_isBound_107 : List UInt8 := 42 :: t_Ac_isBound_108
abbrev t_Ac_isBound_106 : List UInt8 := 172 :: t_Ac_isBound_107
abbrev t_Ac_isBound_103 : List UInt8 := 182 :: 0 :: 58 :: t_Ac_isBound_106
abbrev t_Ac_isBound_102 : List UInt8 := 46 :: t_Ac_isBound_103
abbrev t_Ac_isBound_101 : List UInt8 := 27 :: t_Ac_isBound_102
abbrev t_Ac_isBound_98 : List UInt8 := 180 :: 0 :: 22 :: t_Ac_isBound_101
abbrev t_Ac_isBound_97 : List UInt8 := 42 :: t_Ac_isBound_98
abbrev t_Ac_isBound_94 : List UInt8 := 180 :: 0 :: 31 :: t_Ac_isBound_97
abbrev t_Ac_isBound_93 : List UInt8 := 42 :: t_Ac_isBound_94
abbrev t_Ac_isBound_92 : List UInt8 := 172 :: t_Ac_isBound_93
abbrev t_Ac_isBound_91 : List UInt8 := 3 :: t_Ac_isBound_92
abbrev t_Ac_isBound_88 : List UInt8 := 167 :: 0 :: 4 :: t_Ac_isBound_91
abbrev t_Ac_isBound_87 : List UInt8 := 4 :: t_Ac_isBound_88
abbrev t_Ac_isBound_84 : List UInt8 := 159 :: 0 :: 7 :: t_Ac_isBound_87
abbrev t_Ac_isBound_83 : List UInt8 := 46 :: t_Ac_isBound_84
abbrev t_Ac_isBound_82 : List UInt8 := 27 :: t_Ac_isBound_83
abbrev t_Ac_isBound_79 : List UInt8 := 180 :: 0 :: 25 :: t_Ac_isBound_82
abbrev t_Ac_isBound_78 : List UInt8 := 42 :: t_Ac_isBound_79
abbrev t_Ac_isBound_77 : List UInt8 := 46 :: t_Ac_isBound_78
abbrev t_Ac_isBound_76 : List UInt8 := 27 :: t_Ac_isBound_77
abbrev t_Ac_isBound_73 : List UInt8 := 180 :: 0 :: 22 :: t_Ac_isBound_76
abbrev t_Ac_isBound_72 : List UInt8 := 42 :: t_Ac_isBound_73
abbrev t_Ac_isBound_69 : List UInt8 := 153 :: 0 :: 22 :: t_Ac_isBound_72
abbrev t_Ac_isBound_66 : List UInt8 := 182 :: 0 :: 53 :: t_Ac_isBound_69
abbrev t_Ac_isBound_65 : List UInt8 := 46 :: t_Ac_isBound_66
abbrev t_Ac_isBound_64 : List UInt8 := 27 :: t_Ac_isBound_65
abbrev t_Ac_isBound_61 : List UInt8 := 180 :: 0 :: 25 :: t_Ac_isBound_64
abbrev t_Ac_isBound_60 : List UInt8 := 42 :: t_Ac_isBound_61
abbrev t_Ac_isBound_57 : List UInt8 := 180 :: 0 :: 31 :: t_Ac_isBound_60
abbrev t_Ac_isBound_56 : List UInt8 := 42 :: t_Ac_isBound_57
abbrev t_Ac_isBound_53 : List UInt8 := 153 :: 0 :: 38 :: t_Ac_isBound_56
abbrev t_Ac_isBound_50 : List UInt8 := 182 :: 0 :: 53 :: t_Ac_isBound_53
abbrev t_Ac_isBound_49 : List UInt8 := 46 :: t_Ac_isBound_50
abbrev t_Ac_isBound_48 : List UInt8 := 27 :: t_Ac_isBound_49
abbrev t_Ac_isBound_45 : List UInt8 := 180 :: 0 :: 22 :: t_Ac_isBound_48
abbrev t_Ac_isBound_44 : List UInt8 := 42 :: t_Ac_isBound_45
abbrev t_Ac_isBound_41 : List UInt8 := 180 :: 0 :: 31 :: t_Ac_isBound_44
abbrev t_Ac_isBound_40 : List UInt8 := 42 :: t_Ac_isBound_41
abbrev t_Ac_isBound_6 : List UInt8 := 170 :: 0 :: 0 :: 0 :: 0 :: 115 :: 0 :: 0 :: 0 :: 0 :: 0 :: 0 :: 0 :: 4 :: 0 :: 0 :: 0 :: 34 :: 0 :: 0 :: 0 :: 34 :: 0 :: 0 :: 0 :: 87 :: 0 :: 0 :: 0 :: 101 :: 0 :: 0 :: 0 :: 101 :: t_Ac_isBound_40
abbrev t_Ac_isBound_5 : List UInt8 := 46 :: t_Ac_isBound_6
abbrev t_Ac_isBound_4 : List UInt8 := 27 :: t_Ac_isBound_5
abbrev t_Ac_isBound_1 : List UInt8 := 180 :: 0 :: 18 :: t_Ac_isBound_4
abbrev t_Ac_isBound_0 : List UInt8 := 42 :: t_Ac_isBound_1
theorem a_Ac_isBound_0 : dk_at b_Ac_isBound 0 t_Ac_isBound_0 := dk_start (by decide +kernel)
theorem a_Ac_isBound_1 : dk_at b_Ac_isBound 1 t_Ac_isBound_1 := dk_go 1 a_Ac_isBound_0 rfl
theorem a_Ac_isBound_4 : dk_at b_Ac_isBound 4 t_Ac_isBound_4 := dk_go 3 a_Ac_isBound_1 rfl
theorem a_Ac_isBound_5 : dk_at b_Ac_isBound 5 t_Ac_isBound_5 := dk_go 1 a_Ac_isBound_4 rfl
theorem a_Ac_isBound_6 : dk_at b_Ac_isBound 6 t_Ac_isBound_6 := dk_go 1 a_Ac_isBound_5 rfl
theorem a_Ac_isBound_40 : dk_at b_Ac_isBound 40 t_Ac_isBound_40 := dk_go 34 a_Ac_isBound_6 rfl
theorem a_Ac_isBound_41 : dk_at b_Ac_isBound 41 t_Ac_isBound_41 := dk_go 1 a_Ac_isBound_40 rfl
theorem a_Ac_isBound_44 : dk_at b_Ac_isBound 44 t_Ac_isBound_44 := dk_go 3 a_Ac_isBound_41 rfl
theorem a_Ac_isBound_45 : dk_at b_Ac_isBound 45 t_Ac_isBound_45 := dk_go 1 a_Ac_isBound_44 rfl
theorem a_Ac_isBound_48 : dk_at b_Ac_isBound 48 t_Ac_isBound_48 := dk_go 3 a_Ac_isBound_45 rfl
theorem a_Ac_isBound_49 : dk_at b_Ac_isBound 49 t_Ac_isBound_49 := dk_go 1 a_Ac_isBound_48 rfl
theorem a_Ac_isBound_50 : dk_at b_Ac_isBound 50 t_Ac_isBound_50 := dk_go 1 a_Ac_isBound_49 rfl
theorem a_Ac_isBound_53 : dk_at b_Ac_isBound 53 t_Ac_isBound_53 := dk_go 3 a_Ac_isBound_50 rfl
theorem a_Ac_isBound_56 : dk_at b_Ac_isBound 56 t_Ac_isBound_56 := dk_go 3 a_Ac_isBound_53 rfl
theorem a_Ac_isBound_57 : dk_at b_Ac_isBound 57 t_Ac_isBound_57 := dk_go 1 a_Ac_isBound_56 rfl
theorem a_Ac_isBound_60 : dk_at b_Ac_isBound 60 t_Ac_isBound_60 := dk_go 3 a_Ac_isBound_57 rfl
theorem a_Ac_isBound_61 : dk_at b_Ac_isBound 61 t_Ac_isBound_61 := dk_go 1 a_Ac_isBound_60 rfl
theorem a_Ac_isBound_64 : dk_at b_Ac_isBound 64 t_Ac_isBound_64 := dk_go 3 a_Ac_isBound_61 rfl
theorem a_Ac_isBound_65 : dk_at b_Ac_isBound 65 t_Ac_isBound_65 := dk_go 1 a_Ac_isBound_64 rfl
theorem a_Ac_isBound_66 : dk_at b_Ac_isBound 66 t_Ac_isBound_66 := dk_go 1 a_Ac_isBound_65 rfl
theorem a_Ac_isBound_69 : dk_at b_Ac_isBound 69 t_Ac_isBound_69 := dk_go 3 a_Ac_isBound_66 rfl
theorem a_Ac_isBound_72 : dk_at b_Ac_isBound 72 t_Ac_isBound_72 := dk_go 3 a_Ac_isBound_69 rfl
theorem a_Ac_isBound_73 : dk_at b_Ac_isBound 73 t_Ac_isBound_73 := dk_go 1 a_Ac_isBound_72 rfl
theorem a_Ac_isBound_76 : dk_at b_Ac_isBound 76 t_Ac_isBound_76 := dk_go 3 a_Ac_isBound_73 rfl
theorem a_Ac_isBound_77 : dk_at b_Ac_isBound 77 t_Ac_isBound_77 := dk_go 1 a_Ac_isBound_76 rfl
theorem a_Ac_isBound_78 : dk_at b_Ac_isBound 78 t_Ac_isBound_78 := dk_go 1 a_Ac_isBound_77 rfl
theorem a_Ac_isBound_79 : dk_at b_Ac_isBound 79 t_Ac_isBound_79 := dk_go 1 a_Ac_isBound_78 rfl
theorem a_Ac_isBound_82 : dk_at b_Ac_isBound 82 t_Ac_isBound_82 := dk_go 3 a_Ac_isBound_79 rfl
theorem a_Ac_isBound_83 : dk_at b_Ac_isBound 83 t_Ac_isBound_83 := dk_go 1 a_Ac_isBound_82 rfl
theorem a_Ac_isBound_84 : dk_at b_Ac_isBound 84 t_Ac_isBound_84 := dk_go 1 a_Ac_isBound_83 rfl
theorem a_Ac_isBound_87 : dk_at b_Ac_isBound 87 t_Ac_isBound_87 := dk_go 3 a_Ac_isBound_84 rfl
theorem a_Ac_isBound_88 : dk_at b_Ac_isBound 88 t_Ac_isBound_88 := dk_go 1 a_Ac_isBound_87 rfl
theorem a_Ac_isBound_91 : dk_at b_Ac_isBound 91 t_Ac_isBound_91 := dk_go 3 a_Ac_isBound_88 rfl
theorem a_Ac_isBound_92 : dk_at b_Ac_isBound 92 t_Ac_isBound_92 := dk_go 1 a_Ac_isBound_91 rfl
theorem a_Ac_isBound_93 : dk_at b_Ac_isBound 93 t_Ac_isBound_93 := dk_go 1 a_Ac_isBound_92 rfl
theorem a_Ac_isBound_94 : dk_at b_Ac_isBound 94 t_Ac_isBound_94 := dk_go 1 a_Ac_isBound_93 rfl
theorem a_Ac_isBound_97 : dk_at b_Ac_isBound 97 t_Ac_isBound_97 := dk_go 3 a_Ac_isBound_94 rfl
theorem a_Ac_isBound_98 : dk_at b_Ac_isBound 98 t_Ac_isBound_98 := dk_go 1 a_Ac_isBound_97 rfl
theorem a_Ac_isBound_101 : dk_at b_Ac_isBound 101 t_Ac_isBound_101 := dk_go 3 a_Ac_isBound_98 rfl
theorem a_Ac_isBound_102 : dk_at b_Ac_isBound 102 t_Ac_isBound_102 := dk_go 1 a_Ac_isBound_101 rfl
theorem a_Ac_isBound_103 : dk_at b_Ac_isBound 103 t_Ac_isBound_103 := dk_go 1 a_Ac_isBound_102 rfl
theorem a_Ac_isBound_106 : dk_at b_Ac_isBound 106 t_Ac_isBound_106 := dk_go 3 a_Ac_isBound_103 rfl
theorem a_Ac_isBound_107 : dk_at b_Ac_isBound 107 t_Ac_isBound_107 := dk_go 1 a_Ac_isBound_106 rfl
theorem a_Ac_isBound_108 : dk_at b_Ac_isBound 108 t_Ac_isBound_108 := dk_go 1 a_Ac_isBound_107 rfl
theorem a_Ac_isBound_111 : dk_at b_Ac_isBound 111 t_Ac_isBound_111 := dk_go 3 a_Ac_isBound_108 rfl
theorem a_Ac_isBound_112 : dk_at b_Ac_isBound 112 t_Ac_isBound_112 := dk_go 1 a_Ac_isBound_111 rfl
theorem a_Ac_isBound_115 : dk_at b_Ac_isBound 115 t_Ac_isBound_115 := dk_go 3 a_Ac_isBound_112 rfl
theorem a_Ac_isBound_116 : dk_at b_Ac_isBound 116 t_Ac_isBound_116 := dk_go 1 a_Ac_isBound_115 rfl
theorem a_Ac_isBound_117 : dk_at b_Ac_isBound 117 t_Ac_isBound_117 := dk_go 1 a_Ac_isBound_116 rfl
theorem a_Ac_isBound_120 : dk_at b_Ac_isBound 120 t_Ac_isBound_120 := dk_go 3 a_Ac_isBound_117 rfl
theorem a_Ac_isBound_121 : dk_at b_Ac_isBound 121 t_Ac_isBound_121 := dk_go 1 a_Ac_isBound_120 rfl
theorem a_Ac_isBound_122 : dk_at b_Ac_isBound 122 t_Ac_isBound_122 := dk_go 1 a_Ac_isBound_121 rfl
theorem d_Ac_isBound_0 : decode b_Ac_isBound 0 = .ok (.aload_n 0, 1) := dk_0 a_Ac_isBound_0 (dko_42 _)
theorem d_Ac_isBound_1 : decode b_Ac_isBound 1 = .ok (.getfield 18, 3) := dk_U2 a_Ac_isBound_1 (dko_180 _) rfl
theorem d_Ac_isBound_4 : decode b_Ac_isBound 4 = .ok (.iload_n 1, 1) := dk_0 a_Ac_isBound_4 (dko_27 _)
theorem d_Ac_isBound_5 : decode b_Ac_isBound 5 = .ok (.iaload, 1) := dk_0 a_Ac_isBound_5 (dko_46 _)
theorem d_Ac_isBound_6 : decode b_Ac_isBound 6 = .ok (.tableswitch 115 0 4 #[34, 34, 87, 101, 101], 34) := by decide +kernel
theorem d_Ac_isBound_40 : decode b_Ac_isBound 40 = .ok (.aload_n 0, 1) := dk_0 a_Ac_isBound_40 (dko_42 _)
theorem d_Ac_isBound_41 : decode b_Ac_isBound 41 = .ok (.getfield 31, 3) := dk_U2 a_Ac_isBound_41 (dko_180 _) rfl
theorem d_Ac_isBound_44 : decode b_Ac_isBound 44 = .ok (.aload_n 0, 1) := dk_0 a_Ac_isBound_44 (dko_42 _)
theorem d_Ac_isBound_45 : decode b_Ac_isBound 45 = .ok (.getfield 22, 3) := dk_U2 a_Ac_isBound_45 (dko_180 _) rfl
theorem d_Ac_isBound_48 : decode b_Ac_isBound 48 = .ok (.iload_n 1, 1) := dk_0 a_Ac_isBound_48 (dko_27 _)
theorem d_Ac_isBound_49 : decode b_Ac_isBound 49 = .ok (.iaload, 1) := dk_0 a_Ac_isBound_49 (dko_46 _)
theorem d_Ac_isBound_50 : decode b_Ac_isBound 50 = .ok (.invokevirtual 53, 3) := dk_U2 a_Ac_isBound_50 (dko_182 _) rfl
theorem d_Ac_isBound_53 : decode b_Ac_isBound 53 = .ok (.ifCond .eq 38, 3) := dk_S2 a_Ac_isBound_53 (dko_153 _) (by decide +kernel)
theorem d_Ac_isBound_56 : decode b_Ac_isBound 56 = .ok (.aload_n 0, 1) := dk_0 a_Ac_isBound_56 (dko_42 _)
theorem d_Ac_isBound_57 : decode b_Ac_isBound 57 = .ok (.getfield 31, 3) := dk_U2 a_Ac_isBound_57 (dko_180 _) rfl
theorem d_Ac_isBound_60 : decode b_Ac_isBound 60 = .ok (.aload_n 0, 1) := dk_0 a_Ac_isBound_60 (dko_42 _)
theorem d_Ac_isBound_61 : decode b_Ac_isBound 61 = .ok (.getfield 25, 3) := dk_U2 a_Ac_isBound_61 (dko_180 _) rfl
theorem d_Ac_isBound_64 : decode b_Ac_isBound 64 = .ok (.iload_n 1, 1) := dk_0 a_Ac_isBound_64 (dko_27 _)
theorem d_Ac_isBound_65 : decode b_Ac_isBound 65 = .ok (.iaload, 1) := dk_0 a_Ac_isBound_65 (dko_46 _)
theorem d_Ac_isBound_66 : decode b_Ac_isBound 66 = .ok (.invokevirtual 53, 3) := dk_U2 a_Ac_isBound_66 (dko_182 _) rfl
theorem d_Ac_isBound_69 : decode b_Ac_isBound 69 = .ok (.ifCond .eq 22, 3) := dk_S2 a_Ac_isBound_69 (dko_153 _) (by decide +kernel)
theorem d_Ac_isBound_72 : decode b_Ac_isBound 72 = .ok (.aload_n 0, 1) := dk_0 a_Ac_isBound_72 (dko_42 _)
theorem d_Ac_isBound_73 : decode b_Ac_isBound 73 = .ok (.getfield 22, 3) := dk_U2 a_Ac_isBound_73 (dko_180 _) rfl
theorem d_Ac_isBound_76 : decode b_Ac_isBound 76 = .ok (.iload_n 1, 1) := dk_0 a_Ac_isBound_76 (dko_27 _)
theorem d_Ac_isBound_77 : decode b_Ac_isBound 77 = .ok (.iaload, 1) := dk_0 a_Ac_isBound_77 (dko_46 _)
theorem d_Ac_isBound_78 : decode b_Ac_isBound 78 = .ok (.aload_n 0, 1) := dk_0 a_Ac_isBound_78 (dko_42 _)
theorem d_Ac_isBound_79 : decode b_Ac_isBound 79 = .ok (.getfield 25, 3) := dk_U2 a_Ac_isBound_79 (dko_180 _) rfl
theorem d_Ac_isBound_82 : decode b_Ac_isBound 82 = .ok (.iload_n 1, 1) := dk_0 a_Ac_isBound_82 (dko_27 _)
theorem d_Ac_isBound_83 : decode b_Ac_isBound 83 = .ok (.iaload, 1) := dk_0 a_Ac_isBound_83 (dko_46 _)
theorem d_Ac_isBound_84 : decode b_Ac_isBound 84 = .ok (.if_icmp .eq 7, 3) := dk_S2 a_Ac_isBound_84 (dko_159 _) (by decide +kernel)
theorem d_Ac_isBound_87 : decode b_Ac_isBound 87 = .ok (.iconst 1, 1) := dk_0 a_Ac_isBound_87 (dko_4 _)
theorem d_Ac_isBound_88 : decode b_Ac_isBound 88 = .ok (.goto 4, 3) := dk_S2 a_Ac_isBound_88 (dko_167 _) (by decide +kernel)
theorem d_Ac_isBound_91 : decode b_Ac_isBound 91 = .ok (.iconst 0, 1) := dk_0 a_Ac_isBound_91 (dko_3 _)
theorem d_Ac_isBound_92 : decode b_Ac_isBound 92 = .ok (.ireturn, 1) := dk_0 a_Ac_isBound_92 (dko_172 _)
theorem d_Ac_isBound_93 : decode b_Ac_isBound 93 = .ok (.aload_n 0, 1) := dk_0 a_Ac_isBound_93 (dko_42 _)
theorem d_Ac_isBound_94 : decode b_Ac_isBound 94 = .ok (.getfield 31, 3) := dk_U2 a_Ac_isBound_94 (dko_180 _) rfl
theorem d_Ac_isBound_97 : decode b_Ac_isBound 97 = .ok (.aload_n 0, 1) := dk_0 a_Ac_isBound_97 (dko_42 _)
theorem d_Ac_isBound_98 : decode b_Ac_isBound 98 = .ok (.getfield 22, 3) := dk_U2 a_Ac_isBound_98 (dko_180 _) rfl
theorem d_Ac_isBound_101 : decode b_Ac_isBound 101 = .ok (.iload_n 1, 1) := dk_0 a_Ac_isBound_101 (dko_27 _)
theorem d_Ac_isBound_102 : decode b_Ac_isBound 102 = .ok (.iaload, 1) := dk_0 a_Ac_isBound_102 (dko_46 _)
theorem d_Ac_isBound_103 : decode b_Ac_isBound 103 = .ok (.invokevirtual 58, 3) := dk_U2 a_Ac_isBound_103 (dko_182 _) rfl
theorem d_Ac_isBound_106 : decode b_Ac_isBound 106 = .ok (.ireturn, 1) := dk_0 a_Ac_isBound_106 (dko_172 _)
theorem d_Ac_isBound_107 : decode b_Ac_isBound 107 = .ok (.aload_n 0, 1) := dk_0 a_Ac_isBound_107 (dko_42 _)
theorem d_Ac_isBound_108 : decode b_Ac_isBound 108 = .ok (.getfield 31, 3) := dk_U2 a_Ac_isBound_108 (dko_180 _) rfl
theorem d_Ac_isBound_111 : decode b_Ac_isBound 111 = .ok (.aload_n 0, 1) := dk_0 a_Ac_isBound_111 (dko_42 _)
theorem d_Ac_isBound_112 : decode b_Ac_isBound 112 = .ok (.getfield 22, 3) := dk_U2 a_Ac_isBound_112 (dko_180 _) rfl
theorem d_Ac_isBound_115 : decode b_Ac_isBound 115 = .ok (.iload_n 1, 1) := dk_0 a_Ac_isBound_115 (dko_27 _)
theorem d_Ac_isBound_116 : decode b_Ac_isBound 116 = .ok (.iaload, 1) := dk_0 a_Ac_isBound_116 (dko_46 _)
theorem d_Ac_isBound_117 : decode b_Ac_isBound 117 = .ok (.invokevirtual 61, 3) := dk_U2 a_Ac_isBound_117 (dko_182 _) rfl
theorem d_Ac_isBound_120 : decode b_Ac_isBound 120 = .ok (.ireturn, 1) := dk_0 a_Ac_isBound_120 (dko_172 _)
theorem d_Ac_isBound_121 : decode b_Ac_isBound 121 = .ok (.iconst 0, 1) := dk_0 a_Ac_isBound_121 (dko_3 _)
theorem d_Ac_isBound_122 : decode b_Ac_isBound 122 = .ok (.ireturn, 1) := dk_0 a_Ac_isBound_122 (dko_172 _)
set_option maxHeartbeats 4000000 in
set_option maxRecDepth 100000 in
theorem ok_Ac_isBound (pc : Nat) : OpS mt mi_Ac_isBound pc (cs_Ac_isBound pc) := (os_n (os_n (os_n (os_n (os_n (os_l (so_aload_n d_Ac_isBound_0 rfl)) (os_n (os_l (so_get (C := R_Ac) (T := F_Ac) (N := 8) (j := 4) in_Ac rfl (by decide) mw_395 d_Ac_isBound_1)) (os_l (so_iload_n d_Ac_isBound_4 rfl)))) (os_n (os_l (so_iaload d_Ac_isBound_5)) (os_n (os_l (so_tab d_Ac_isBound_6 (by decide) (by decide) (by decide))) (os_l (so_aload_n d_Ac_isBound_40 rfl))))) (os_n (os_n (os_l (so_get (C := R_Ac) (T := F_Ac) (N := 8) (j := 0) in_Ac rfl (by decide) mw_390 d_Ac_isBound_41)) (os_n (os_l (so_aload_n d_Ac_isBound_44 rfl)) (os_l (so_get (C := R_Ac) (T := F_Ac) (N := 8) (j := 5) in_Ac rfl (by decide) mw_396 d_Ac_isBound_45)))) (os_n (os_n (os_l (so_iload_n d_Ac_isBound_48 rfl)) (os_l (so_iaload d_Ac_isBound_49))) (os_n (os_l (so_callV (iv := mi_St_isTank) rfl rfl rfl mw_1194 mw_1076 mw_1077 mw_4 mw_1078 ⟨by decide +kernel, by decide +kernel, by decide +kernel⟩ (by decide) d_Ac_isBound_50)) (os_l (so_ifeq d_Ac_isBound_53 (by decide))))))) (os_n (os_n (os_n (os_l (so_aload_n d_Ac_isBound_56 rfl)) (os_n (os_l (so_get (C := R_Ac) (T := F_Ac) (N := 8) (j := 0) in_Ac rfl (by decide) mw_390 d_Ac_isBound_57)) (os_l (so_aload_n d_Ac_isBound_60 rfl)))) (os_n (os_l (so_get (C := R_Ac) (T := F_Ac) (N := 8) (j := 6) in_Ac rfl (by decide) mw_397 d_Ac_isBound_61)) (os_n (os_l (so_iload_n d_Ac_isBound_64 rfl)) (os_l (so_iaload d_Ac_isBound_65))))) (os_n (os_n (os_l (so_callV (iv := mi_St_isTank) rfl rfl rfl mw_1194 mw_1076 mw_1077 mw_4 mw_1078 ⟨by decide +kernel, by decide +kernel, by decide +kernel⟩ (by decide) d_Ac_isBound_66)) (os_n (os_l (so_ifeq d_Ac_isBound_69 (by decide))) (os_l (so_aload_n d_Ac_isBound_72 rfl)))) (os_n (os_n (os_l (so_get (C := R_Ac) (T := F_Ac) (N := 8) (j := 5) in_Ac rfl (by decide) mw_396 d_Ac_isBound_73)) (os_l (so_iload_n d_Ac_isBound_76 rfl))) (os_n (os_l (so_iaload d_Ac_isBound_77)) (os_l (so_aload_n d_Ac_isBound_78 rfl))))))) (os_n (os_n (os_n (os_n (os_l (so_get (C := R_Ac) (T := F_Ac) (N := 8) (j := 6) in_Ac rfl (by decide) mw_397 d_Ac_isBound_79)) (os_n (os_l (so_iload_n d_Ac_isBound_82 rfl)) (os_l (so_iaload d_Ac_isBound_83)))) (os_n (os_l (so_iceq d_Ac_isBound_84 (by decide))) (os_n (os_l (so_iconst d_Ac_isBound_87 (by decide))) (os_l (so_goto d_Ac_isBound_88 (by decide)))))) (os_n (os_n (os_l (so_iconst d_Ac_isBound_91 (by decide))) (os_n (os_l (so_zreturn rfl d_Ac_isBound_92)) (os_l (so_aload_n d_Ac_isBound_93 rfl)))) (os_n (os_n (os_l (so_get (C := R_Ac) (T := F_Ac) (N := 8) (j := 0) in_Ac rfl (by decide) mw_390 d_Ac_isBound_94)) (os_l (so_aload_n d_Ac_isBound_97 rfl))) (os_n (os_l (so_get (C := R_Ac) (T := F_Ac) (N := 8) (j := 5) in_Ac rfl (by decide) mw_396 d_Ac_isBound_98)) (os_l (so_iload_n d_Ac_isBound_101 rfl)))))) (os_n (os_n (os_n (os_l (so_iaload d_Ac_isBound_102)) (os_n (os_l (so_callV (iv := mi_St_isValve) rfl rfl rfl mw_1195 mw_1196 mw_1197 mw_4 mw_1198 ⟨by decide +kernel, by decide +kernel, by decide +kernel⟩ (by decide) d_Ac_isBound_103)) (os_l (so_zreturn rfl d_Ac_isBound_106)))) (os_n (os_l (so_aload_n d_Ac_isBound_107 rfl)) (os_n (os_l (so_get (C := R_Ac) (T := F_Ac) (N := 8) (j := 0) in_Ac rfl (by decide) mw_390 d_Ac_isBound_108)) (os_l (so_aload_n d_Ac_isBound_111 rfl))))) (os_n (os_n (os_l (so_get (C := R_Ac) (T := F_Ac) (N := 8) (j := 5) in_Ac rfl (by decide) mw_396 d_Ac_isBound_112)) (os_n (os_l (so_iload_n d_Ac_isBound_115 rfl)) (os_l (so_iaload d_Ac_isBound_116)))) (os_n (os_n (os_l (so_callV (iv := mi_St_isHolder) rfl rfl rfl mw_1199 mw_1200 mw_1201 mw_4 mw_1202 ⟨by decide +kernel, by decide +kernel, by decide +kernel⟩ (by decide) d_Ac_isBound_117)) (os_l (so_zreturn rfl d_Ac_isBound_120))) (os_n (os_l (so_iconst d_Ac_isBound_121 (by decide))) (os_l (so_zreturn rfl d_Ac_isBound_122))))))))
abbrev t_Ac_perform_152 : List UInt8 := 172 :: []
abbrev t_Ac_perform_149 : List UInt8 := 182 :: 0 :: 85 :: t_Ac_perform_152
abbrev t_Ac_perform_148 : List UInt8 := 46 :: t_Ac_perform_149
abbrev t_Ac_perform_147 : List UInt8 := 27 :: t_Ac_perform_148
abbrev t_Ac_perform_144 : List UInt8 := 180 :: 0 :: 22 :: t_Ac_perform_147
abbrev t_Ac_perform_143 : List UInt8 := 42 :: t_Ac_perform_144
abbrev t_Ac_perform_142 : List UInt8 := 42 :: t_Ac_perform_143
abbrev t_Ac_perform_141 : List UInt8 := 172 :: t_Ac_perform_142
abbrev t_Ac_perform_138 : List UInt8 := 182 :: 0 :: 82 :: t_Ac_perform_141
abbrev t_Ac_perform_137 : List UInt8 := 46 :: t_Ac_perform_138
abbrev t_Ac_perform_136 : List UInt8 := 27 :: t_Ac_perform_137
abbrev t_Ac_perform_133 : List UInt8 := 180 :: 0 :: 25 :: t_Ac_perform_136
abbrev t_Ac_perform_132 : List UInt8 := 42 :: t_Ac_perform_133
abbrev t_Ac_perform_131 : List UInt8 := 46 :: t_Ac_perform_132
abbrev t_Ac_perform_130 : List UInt8 := 27 :: t_Ac_perform_131
abbrev t_Ac_perform_127 : List UInt8 := 180 :: 0 :: 22 :: t_Ac_perform_130
abbrev t_Ac_perform_126 : List UInt8 := 42 :: t_Ac_perform_127
abbrev t_Ac_perform_125 : List UInt8 := 42 :: t_Ac_perform_126
abbrev t_Ac_perform_124 : List UInt8 := 172 :: t_Ac_perform_125
abbrev t_Ac_perform_121 : List UInt8 := 182 :: 0 :: 79 :: t_Ac_perform_124
abbrev t_Ac_perform_120 : List UInt8 := 46 :: t_Ac_perform_121
abbrev t_Ac_perform_119 : List UInt8 := 27 :: t_Ac_perform_120
abbrev t_Ac_perform_116 : List UInt8 := 180 :: 0 :: 25 :: t_Ac_perform_119
abbrev t_Ac_perform_115 : List UInt8 := 42 :: t_Ac_perform_116
abbrev t_Ac_perform_114 : List UInt8 := 46 :: t_Ac_perform_115
abbrev t_Ac_perform_113 : List UInt8 := 27 :: t_Ac_perform_114
abbrev t_Ac_perform_110 : List UInt8 := 180 :: 0 :: 22 :: t_Ac_perform_113
abbrev t_Ac_perform_109 : List UInt8 := 42 :: t_Ac_perform_110
abbrev t_Ac_perform_108 : List UInt8 := 42 :: t_Ac_perform_109
abbrev t_Ac_perform_107 : List UInt8 := 172 :: t_Ac_perform_108
abbrev t_Ac_perform_104 : List UInt8 := 182 :: 0 :: 75 :: t_Ac_perform_107
abbrev t_Ac_perform_103 : List UInt8 := 46 :: t_Ac_perform_104
abbrev t_Ac_perform_102 : List UInt8 := 27 :: t_Ac_perform_103
abbrev t_Ac_perform_99 : List UInt8 := 180 :: 0 :: 25 :: t_Ac_perform_102
abbrev t_Ac_perform_98 : List UInt8 := 42 :: t_Ac_perform_99
abbrev t_Ac_perform_97 : List UInt8 := 46 :: t_Ac_perform_98
abbrev t_Ac_perform_96 : List UInt8 := 27 :: t_Ac_perform_97
abbrev t_Ac_perform_93 : List UInt8 := 180 :: 0 :: 22 :: t_Ac_perform_96
abbrev t_Ac_perform_92 : List UInt8 := 42 :: t_Ac_perform_93
abbrev t_Ac_perform_91 : List UInt8 := 42 :: t_Ac_perform_92
abbrev t_Ac_perform_90 : List UInt8 := 172 :: t_Ac_perform_91
abbrev t_Ac_perform_87 : List UInt8 := 182 :: 0 :: 71 :: t_Ac_perform_90
abbrev t_Ac_perform_86 : List UInt8 := 46 :: t_Ac_perform_87
abbrev t_Ac_perform_85 : List UInt8 := 27 :: t_Ac_perform_86
abbrev t_Ac_perform_82 : List UInt8 := 180 :: 0 :: 28 :: t_Ac_perform_85
abbrev t_Ac_perform_81 : List UInt8 := 42 :: t_Ac_perform_82
abbrev t_Ac_perform_80 : List UInt8 := 46 :: t_Ac_perform_81
abbrev t_Ac_perform_79 : List UInt8 := 27 :: t_Ac_perform_80
abbrev t_Ac_perform_76 : List UInt8 := 180 :: 0 :: 25 :: t_Ac_perform_79
abbrev t_Ac_perform_75 : List UInt8 := 42 :: t_Ac_perform_76
abbrev t_Ac_perform_74 : List UInt8 := 46 :: t_Ac_perform_75
abbrev t_Ac_perform_73 : List UInt8 := 27 :: t_Ac_perform_74
abbrev t_Ac_perform_70 : List UInt8 := 180 :: 0 :: 22 :: t_Ac_perform_73
abbrev t_Ac_perform_69 : List UInt8 := 42 :: t_Ac_perform_70
abbrev t_Ac_perform_68 : List UInt8 := 42 :: t_Ac_perform_69
abbrev t_Ac_perform_36 : List UInt8 := 170 :: 0 :: 0 :: 0 :: 0 :: 0 :: 0 :: 106 :: 0 :: 0 :: 0 :: 0 :: 0 :: 0 :: 0 :: 3 :: 0 :: 0 :: 0 :: 32 :: 0 :: 0 :: 0 :: 55 :: 0 :: 0 :: 0 :: 72 :: 0 :: 0 :: 0 :: 89 :: t_Ac_perform_68
abbrev t_Ac_perform_35 : List UInt8 := 46 :: t_Ac_perform_36
abbrev t_Ac_perform_34 : List UInt8 := 27 :: t_Ac_perform_35
abbrev t_Ac_perform_31 : List UInt8 := 180 :: 0 :: 18 :: t_Ac_perform_34
abbrev t_Ac_perform_30 : List UInt8 := 42 :: t_Ac_perform_31
abbrev t_Ac_perform_29 : List UInt8 := 172 :: t_Ac_perform_30
abbrev t_Ac_perform_28 : List UInt8 := 5 :: t_Ac_perform_29
abbrev t_Ac_perform_25 : List UInt8 := 158 :: 0 :: 5 :: t_Ac_perform_28
abbrev t_Ac_perform_22 : List UInt8 := 182 :: 0 :: 67 :: t_Ac_perform_25
abbrev t_Ac_perform_21 : List UInt8 := 27 :: t_Ac_perform_22
abbrev t_Ac_perform_18 : List UInt8 := 180 :: 0 :: 12 :: t_Ac_perform_21
abbrev t_Ac_perform_17 : List UInt8 := 42 :: t_Ac_perform_18
abbrev t_Ac_perform_16 : List UInt8 := 172 :: t_Ac_perform_17
abbrev t_Ac_perform_15 : List UInt8 := 4 :: t_Ac_perform_16
abbrev t_Ac_perform_12 : List UInt8 := 154 :: 0 :: 5 :: t_Ac_perform_15
abbrev t_Ac_perform_9 : List UInt8 := 182 :: 0 :: 64 :: t_Ac_perform_12
abbrev t_Ac_perform_8 : List UInt8 := 27 :: t_Ac_perform_9
abbrev t_Ac_perform_7 : List UInt8 := 42 :: t_Ac_perform_8
abbrev t_Ac_perform_4 : List UInt8 := 153 :: 0 :: 11 :: t_Ac_perform_7
abbrev t_Ac_perform_1 : List UInt8 := 184 :: 0 :: 49 :: t_Ac_perform_4
abbrev t_Ac_perform_0 : List UInt8 := 27 :: t_Ac_perform_1
theorem a_Ac_perform_0 : dk_at b_Ac_perform 0 t_Ac_perform_0 := dk_start (by decide +kernel)
theorem a_Ac_perform_1 : dk_at b_Ac_perform 1 t_Ac_perform_1 := dk_go 1 a_Ac_perform_0 rfl
theorem a_Ac_perform_4 : dk_at b_Ac_perform 4 t_Ac_perform_4 := dk_go 3 a_Ac_perform_1 rfl
theorem a_Ac_perform_7 : dk_at b_Ac_perform 7 t_Ac_perform_7 := dk_go 3 a_Ac_perform_4 rfl
theorem a_Ac_perform_8 : dk_at b_Ac_perform 8 t_Ac_perform_8 := dk_go 1 a_Ac_perform_7 rfl
theorem a_Ac_perform_9 : dk_at b_Ac_perform 9 t_Ac_perform_9 := dk_go 1 a_Ac_perform_8 rfl
theorem a_Ac_perform_12 : dk_at b_Ac_perform 12 t_Ac_perform_12 := dk_go 3 a_Ac_perform_9 rfl
theorem a_Ac_perform_15 : dk_at b_Ac_perform 15 t_Ac_perform_15 := dk_go 3 a_Ac_perform_12 rfl
theorem a_Ac_perform_16 : dk_at b_Ac_perform 16 t_Ac_perform_16 := dk_go 1 a_Ac_perform_15 rfl
theorem a_Ac_perform_17 : dk_at b_Ac_perform 17 t_Ac_perform_17 := dk_go 1 a_Ac_perform_16 rfl
theorem a_Ac_perform_18 : dk_at b_Ac_perform 18 t_Ac_perform_18 := dk_go 1 a_Ac_perform_17 rfl
theorem a_Ac_perform_21 : dk_at b_Ac_perform 21 t_Ac_perform_21 := dk_go 3 a_Ac_perform_18 rfl
theorem a_Ac_perform_22 : dk_at b_Ac_perform 22 t_Ac_perform_22 := dk_go 1 a_Ac_perform_21 rfl
theorem a_Ac_perform_25 : dk_at b_Ac_perform 25 t_Ac_perform_25 := dk_go 3 a_Ac_perform_22 rfl
theorem a_Ac_perform_28 : dk_at b_Ac_perform 28 t_Ac_perform_28 := dk_go 3 a_Ac_perform_25 rfl
theorem a_Ac_perform_29 : dk_at b_Ac_perform 29 t_Ac_perform_29 := dk_go 1 a_Ac_perform_28 rfl
theorem a_Ac_perform_30 : dk_at b_Ac_perform 30 t_Ac_perform_30 := dk_go 1 a_Ac_perform_29 rfl
theorem a_Ac_perform_31 : dk_at b_Ac_perform 31 t_Ac_perform_31 := dk_go 1 a_Ac_perform_30 rfl
theorem a_Ac_perform_34 : dk_at b_Ac_perform 34 t_Ac_perform_34 := dk_go 3 a_Ac_perform_31 rfl
theorem a_Ac_perform_35 : dk_at b_Ac_perform 35 t_Ac_perform_35 := dk_go 1 a_Ac_perform_34 rfl
theorem a_Ac_perform_36 : dk_at b_Ac_perform 36 t_Ac_perform_36 := dk_go 1 a_Ac_perform_35 rfl
theorem a_Ac_perform_68 : dk_at b_Ac_perform 68 t_Ac_perform_68 := dk_go 32 a_Ac_perform_36 rfl
theorem a_Ac_perform_69 : dk_at b_Ac_perform 69 t_Ac_perform_69 := dk_go 1 a_Ac_perform_68 rfl
theorem a_Ac_perform_70 : dk_at b_Ac_perform 70 t_Ac_perform_70 := dk_go 1 a_Ac_perform_69 rfl
theorem a_Ac_perform_73 : dk_at b_Ac_perform 73 t_Ac_perform_73 := dk_go 3 a_Ac_perform_70 rfl
theorem a_Ac_perform_74 : dk_at b_Ac_perform 74 t_Ac_perform_74 := dk_go 1 a_Ac_perform_73 rfl
theorem a_Ac_perform_75 : dk_at b_Ac_perform 75 t_Ac_perform_75 := dk_go 1 a_Ac_perform_74 rfl
theorem a_Ac_perform_76 : dk_at b_Ac_perform 76 t_Ac_perform_76 := dk_go 1 a_Ac_perform_75 rfl
theorem a_Ac_perform_79 : dk_at b_Ac_perform 79 t_Ac_perform_79 := dk_go 3 a_Ac_perform_76 rfl
theorem a_Ac_perform_80 : dk_at b_Ac_perform 80 t_Ac_perform_80 := dk_go 1 a_Ac_perform_79 rfl
theorem a_Ac_perform_81 : dk_at b_Ac_perform 81 t_Ac_perform_81 := dk_go 1 a_Ac_perform_80 rfl
theorem a_Ac_perform_82 : dk_at b_Ac_perform 82 t_Ac_perform_82 := dk_go 1 a_Ac_perform_81 rfl
theorem a_Ac_perform_85 : dk_at b_Ac_perform 85 t_Ac_perform_85 := dk_go 3 a_Ac_perform_82 rfl
theorem a_Ac_perform_86 : dk_at b_Ac_perform 86 t_Ac_perform_86 := dk_go 1 a_Ac_perform_85 rfl
theorem a_Ac_perform_87 : dk_at b_Ac_perform 87 t_Ac_perform_87 := dk_go 1 a_Ac_perform_86 rfl
theorem a_Ac_perform_90 : dk_at b_Ac_perform 90 t_Ac_perform_90 := dk_go 3 a_Ac_perform_87 rfl
theorem a_Ac_perform_91 : dk_at b_Ac_perform 91 t_Ac_perform_91 := dk_go 1 a_Ac_perform_90 rfl
theorem a_Ac_perform_92 : dk_at b_Ac_perform 92 t_Ac_perform_92 := dk_go 1 a_Ac_perform_91 rfl
theorem a_Ac_perform_93 : dk_at b_Ac_perform 93 t_Ac_perform_93 := dk_go 1 a_Ac_perform_92 rfl
theorem a_Ac_perform_96 : dk_at b_Ac_perform 96 t_Ac_perform_96 := dk_go 3 a_Ac_perform_93 rfl
theorem a_Ac_perform_97 : dk_at b_Ac_perform 97 t_Ac_perform_97 := dk_go 1 a_Ac_perform_96 rfl
theorem a_Ac_perform_98 : dk_at b_Ac_perform 98 t_Ac_perform_98 := dk_go 1 a_Ac_perform_97 rfl
theorem a_Ac_perform_99 : dk_at b_Ac_perform 99 t_Ac_perform_99 := dk_go 1 a_Ac_perform_98 rfl
theorem a_Ac_perform_102 : dk_at b_Ac_perform 102 t_Ac_perform_102 := dk_go 3 a_Ac_perform_99 rfl
theorem a_Ac_perform_103 : dk_at b_Ac_perform 103 t_Ac_perform_103 := dk_go 1 a_Ac_perform_102 rfl
theorem a_Ac_perform_104 : dk_at b_Ac_perform 104 t_Ac_perform_104 := dk_go 1 a_Ac_perform_103 rfl
theorem a_Ac_perform_107 : dk_at b_Ac_perform 107 t_Ac_perform_107 := dk_go 3 a_Ac_perform_104 rfl
theorem a_Ac_perform_108 : dk_at b_Ac_perform 108 t_Ac_perform_108 := dk_go 1 a_Ac_perform_107 rfl
theorem a_Ac_perform_109 : dk_at b_Ac_perform 109 t_Ac_perform_109 := dk_go 1 a_Ac_perform_108 rfl
theorem a_Ac_perform_110 : dk_at b_Ac_perform 110 t_Ac_perform_110 := dk_go 1 a_Ac_perform_109 rfl
theorem a_Ac_perform_113 : dk_at b_Ac_perform 113 t_Ac_perform_113 := dk_go 3 a_Ac_perform_110 rfl
theorem a_Ac_perform_114 : dk_at b_Ac_perform 114 t_Ac_perform_114 := dk_go 1 a_Ac_perform_113 rfl
theorem a_Ac_perform_115 : dk_at b_Ac_perform 115 t_Ac_perform_115 := dk_go 1 a_Ac_perform_114 rfl
theorem a_Ac_perform_116 : dk_at b_Ac_perform 116 t_Ac_perform_116 := dk_go 1 a_Ac_perform_115 rfl
theorem a_Ac_perform_119 : dk_at b_Ac_perform 119 t_Ac_perform_119 := dk_go 3 a_Ac_perform_116 rfl
theorem a_Ac_perform_120 : dk_at b_Ac_perform 120 t_Ac_perform_120 := dk_go 1 a_Ac_perform_119 rfl
theorem a_Ac_perform_121 : dk_at b_Ac_perform 121 t_Ac_perform_121 := dk_go 1 a_Ac_perform_120 rfl
theorem a_Ac_perform_124 : dk_at b_Ac_perform 124 t_Ac_perform_124 := dk_go 3 a_Ac_perform_121 rfl
theorem a_Ac_perform_125 : dk_at b_Ac_perform 125 t_Ac_perform_125 := dk_go 1 a_Ac_perform_124 rfl
theorem a_Ac_perform_126 : dk_at b_Ac_perform 126 t_Ac_perform_126 := dk_go 1 a_Ac_perform_125 rfl
theorem a_Ac_perform_127 : dk_at b_Ac_perform 127 t_Ac_perform_127 := dk_go 1 a_Ac_perform_126 rfl
theorem a_Ac_perform_130 : dk_at b_Ac_perform 130 t_Ac_perform_130 := dk_go 3 a_Ac_perform_127 rfl
theorem a_Ac_perform_131 : dk_at b_Ac_perform 131 t_Ac_perform_131 := dk_go 1 a_Ac_perform_130 rfl
theorem a_Ac_perform_132 : dk_at b_Ac_perform 132 t_Ac_perform_132 := dk_go 1 a_Ac_perform_131 rfl
theorem a_Ac_perform_133 : dk_at b_Ac_perform 133 t_Ac_perform_133 := dk_go 1 a_Ac_perform_132 rfl
theorem a_Ac_perform_136 : dk_at b_Ac_perform 136 t_Ac_perform_136 := dk_go 3 a_Ac_perform_133 rfl
theorem a_Ac_perform_137 : dk_at b_Ac_perform 137 t_Ac_perform_137 := dk_go 1 a_Ac_perform_136 rfl
theorem a_Ac_perform_138 : dk_at b_Ac_perform 138 t_Ac_perform_138 := dk_go 1 a_Ac_perform_137 rfl
theorem a_Ac_perform_141 : dk_at b_Ac_perform 141 t_Ac_perform_141 := dk_go 3 a_Ac_perform_138 rfl
theorem a_Ac_perform_142 : dk_at b_Ac_perform 142 t_Ac_perform_142 := dk_go 1 a_Ac_perform_141 rfl
theorem a_Ac_perform_143 : dk_at b_Ac_perform 143 t_Ac_perform_143 := dk_go 1 a_Ac_perform_142 rfl
theorem a_Ac_perform_144 : dk_at b_Ac_perform 144 t_Ac_perform_144 := dk_go 1 a_Ac_perform_143 rfl
theorem a_Ac_perform_147 : dk_at b_Ac_perform 147 t_Ac_perform_147 := dk_go 3 a_Ac_perform_144 rfl
theorem a_Ac_perform_148 : dk_at b_Ac_perform 148 t_Ac_perform_148 := dk_go 1 a_Ac_perform_147 rfl
theorem a_Ac_perform_149 : dk_at b_Ac_perform 149 t_Ac_perform_149 := dk_go 1 a_Ac_perform_148 rfl
theorem a_Ac_perform_152 : dk_at b_Ac_perform 152 t_Ac_perform_152 := dk_go 3 a_Ac_perform_149 rfl
theorem d_Ac_perform_0 : decode b_Ac_perform 0 = .ok (.iload_n 1, 1) := dk_0 a_Ac_perform_0 (dko_27 _)
theorem d_Ac_perform_1 : decode b_Ac_perform 1 = .ok (.invokestatic 49, 3) := dk_U2 a_Ac_perform_1 (dko_184 _) rfl
theorem d_Ac_perform_4 : decode b_Ac_perform 4 = .ok (.ifCond .eq 11, 3) := dk_S2 a_Ac_perform_4 (dko_153 _) (by decide +kernel)
theorem d_Ac_perform_7 : decode b_Ac_perform 7 = .ok (.aload_n 0, 1) := dk_0 a_Ac_perform_7 (dko_42 _)
theorem d_Ac_perform_8 : decode b_Ac_perform 8 = .ok (.iload_n 1, 1) := dk_0 a_Ac_perform_8 (dko_27 _)
theorem d_Ac_perform_9 : decode b_Ac_perform 9 = .ok (.invokevirtual 64, 3) := dk_U2 a_Ac_perform_9 (dko_182 _) rfl
theorem d_Ac_perform_12 : decode b_Ac_perform 12 = .ok (.ifCond .ne 5, 3) := dk_S2 a_Ac_perform_12 (dko_154 _) (by decide +kernel)
theorem d_Ac_perform_15 : decode b_Ac_perform 15 = .ok (.iconst 1, 1) := dk_0 a_Ac_perform_15 (dko_4 _)
theorem d_Ac_perform_16 : decode b_Ac_perform 16 = .ok (.ireturn, 1) := dk_0 a_Ac_perform_16 (dko_172 _)
theorem d_Ac_perform_17 : decode b_Ac_perform 17 = .ok (.aload_n 0, 1) := dk_0 a_Ac_perform_17 (dko_42 _)
theorem d_Ac_perform_18 : decode b_Ac_perform 18 = .ok (.getfield 12, 3) := dk_U2 a_Ac_perform_18 (dko_180 _) rfl
theorem d_Ac_perform_21 : decode b_Ac_perform 21 = .ok (.iload_n 1, 1) := dk_0 a_Ac_perform_21 (dko_27 _)
theorem d_Ac_perform_22 : decode b_Ac_perform 22 = .ok (.invokevirtual 67, 3) := dk_U2 a_Ac_perform_22 (dko_182 _) rfl
theorem d_Ac_perform_25 : decode b_Ac_perform 25 = .ok (.ifCond .le 5, 3) := dk_S2 a_Ac_perform_25 (dko_158 _) (by decide +kernel)
theorem d_Ac_perform_28 : decode b_Ac_perform 28 = .ok (.iconst 2, 1) := dk_0 a_Ac_perform_28 (dko_5 _)
theorem d_Ac_perform_29 : decode b_Ac_perform 29 = .ok (.ireturn, 1) := dk_0 a_Ac_perform_29 (dko_172 _)
theorem d_Ac_perform_30 : decode b_Ac_perform 30 = .ok (.aload_n 0, 1) := dk_0 a_Ac_perform_30 (dko_42 _)
theorem d_Ac_perform_31 : decode b_Ac_perform 31 = .ok (.getfield 18, 3) := dk_U2 a_Ac_perform_31 (dko_180 _) rfl
theorem d_Ac_perform_34 : decode b_Ac_perform 34 = .ok (.iload_n 1, 1) := dk_0 a_Ac_perform_34 (dko_27 _)
theorem d_Ac_perform_35 : decode b_Ac_perform 35 = .ok (.iaload, 1) := dk_0 a_Ac_perform_35 (dko_46 _)
theorem d_Ac_perform_36 : decode b_Ac_perform 36 = .ok (.tableswitch 106 0 3 #[32, 55, 72, 89], 32) := by decide +kernel
theorem d_Ac_perform_68 : decode b_Ac_perform 68 = .ok (.aload_n 0, 1) := dk_0 a_Ac_perform_68 (dko_42 _)
theorem d_Ac_perform_69 : decode b_Ac_perform 69 = .ok (.aload_n 0, 1) := dk_0 a_Ac_perform_69 (dko_42 _)
theorem d_Ac_perform_70 : decode b_Ac_perform 70 = .ok (.getfield 22, 3) := dk_U2 a_Ac_perform_70 (dko_180 _) rfl
theorem d_Ac_perform_73 : decode b_Ac_perform 73 = .ok (.iload_n 1, 1) := dk_0 a_Ac_perform_73 (dko_27 _)
theorem d_Ac_perform_74 : decode b_Ac_perform 74 = .ok (.iaload, 1) := dk_0 a_Ac_perform_74 (dko_46 _)
theorem d_Ac_perform_75 : decode b_Ac_perform 75 = .ok (.aload_n 0, 1) := dk_0 a_Ac_perform_75 (dko_42 _)
theorem d_Ac_perform_76 : decode b_Ac_perform 76 = .ok (.getfield 25, 3) := dk_U2 a_Ac_perform_76 (dko_180 _) rfl
theorem d_Ac_perform_79 : decode b_Ac_perform 79 = .ok (.iload_n 1, 1) := dk_0 a_Ac_perform_79 (dko_27 _)
theorem d_Ac_perform_80 : decode b_Ac_perform 80 = .ok (.iaload, 1) := dk_0 a_Ac_perform_80 (dko_46 _)
theorem d_Ac_perform_81 : decode b_Ac_perform 81 = .ok (.aload_n 0, 1) := dk_0 a_Ac_perform_81 (dko_42 _)
theorem d_Ac_perform_82 : decode b_Ac_perform 82 = .ok (.getfield 28, 3) := dk_U2 a_Ac_perform_82 (dko_180 _) rfl
theorem d_Ac_perform_85 : decode b_Ac_perform 85 = .ok (.iload_n 1, 1) := dk_0 a_Ac_perform_85 (dko_27 _)
theorem d_Ac_perform_86 : decode b_Ac_perform 86 = .ok (.iaload, 1) := dk_0 a_Ac_perform_86 (dko_46 _)
theorem d_Ac_perform_87 : decode b_Ac_perform 87 = .ok (.invokevirtual 71, 3) := dk_U2 a_Ac_perform_87 (dko_182 _) rfl
theorem d_Ac_perform_90 : decode b_Ac_perform 90 = .ok (.ireturn, 1) := dk_0 a_Ac_perform_90 (dko_172 _)
theorem d_Ac_perform_91 : decode b_Ac_perform 91 = .ok (.aload_n 0, 1) := dk_0 a_Ac_perform_91 (dko_42 _)
theorem d_Ac_perform_92 : decode b_Ac_perform 92 = .ok (.aload_n 0, 1) := dk_0 a_Ac_perform_92 (dko_42 _)
theorem d_Ac_perform_93 : decode b_Ac_perform 93 = .ok (.getfield 22, 3) := dk_U2 a_Ac_perform_93 (dko_180 _) rfl
theorem d_Ac_perform_96 : decode b_Ac_perform 96 = .ok (.iload_n 1, 1) := dk_0 a_Ac_perform_96 (dko_27 _)
theorem d_Ac_perform_97 : decode b_Ac_perform 97 = .ok (.iaload, 1) := dk_0 a_Ac_perform_97 (dko_46 _)
theorem d_Ac_perform_98 : decode b_Ac_perform 98 = .ok (.aload_n 0, 1) := dk_0 a_Ac_perform_98 (dko_42 _)
theorem d_Ac_perform_99 : decode b_Ac_perform 99 = .ok (.getfield 25, 3) := dk_U2 a_Ac_perform_99 (dko_180 _) rfl
theorem d_Ac_perform_102 : decode b_Ac_perform 102 = .ok (.iload_n 1, 1) := dk_0 a_Ac_perform_102 (dko_27 _)
theorem d_Ac_perform_103 : decode b_Ac_perform 103 = .ok (.iaload, 1) := dk_0 a_Ac_perform_103 (dko_46 _)
theorem d_Ac_perform_104 : decode b_Ac_perform 104 = .ok (.invokevirtual 75, 3) := dk_U2 a_Ac_perform_104 (dko_182 _) rfl
theorem d_Ac_perform_107 : decode b_Ac_perform 107 = .ok (.ireturn, 1) := dk_0 a_Ac_perform_107 (dko_172 _)
theorem d_Ac_perform_108 : decode b_Ac_perform 108 = .ok (.aload_n 0, 1) := dk_0 a_Ac_perform_108 (dko_42 _)
theorem d_Ac_perform_109 : decode b_Ac_perform 109 = .ok (.aload_n 0, 1) := dk_0 a_Ac_perform_109 (dko_42 _)
theorem d_Ac_perform_110 : decode b_Ac_perform 110 = .ok (.getfield 22, 3) := dk_U2 a_Ac_perform_110 (dko_180 _) rfl
theorem d_Ac_perform_113 : decode b_Ac_perform 113 = .ok (.iload_n 1, 1) := dk_0 a_Ac_perform_113 (dko_27 _)
theorem d_Ac_perform_114 : decode b_Ac_perform 114 = .ok (.iaload, 1) := dk_0 a_Ac_perform_114 (dko_46 _)
theorem d_Ac_perform_115 : decode b_Ac_perform 115 = .ok (.aload_n 0, 1) := dk_0 a_Ac_perform_115 (dko_42 _)
theorem d_Ac_perform_116 : decode b_Ac_perform 116 = .ok (.getfield 25, 3) := dk_U2 a_Ac_perform_116 (dko_180 _) rfl
theorem d_Ac_perform_119 : decode b_Ac_perform 119 = .ok (.iload_n 1, 1) := dk_0 a_Ac_perform_119 (dko_27 _)
theorem d_Ac_perform_120 : decode b_Ac_perform 120 = .ok (.iaload, 1) := dk_0 a_Ac_perform_120 (dko_46 _)
theorem d_Ac_perform_121 : decode b_Ac_perform 121 = .ok (.invokevirtual 79, 3) := dk_U2 a_Ac_perform_121 (dko_182 _) rfl
theorem d_Ac_perform_124 : decode b_Ac_perform 124 = .ok (.ireturn, 1) := dk_0 a_Ac_perform_124 (dko_172 _)
theorem d_Ac_perform_125 : decode b_Ac_perform 125 = .ok (.aload_n 0, 1) := dk_0 a_Ac_perform_125 (dko_42 _)
theorem d_Ac_perform_126 : decode b_Ac_perform 126 = .ok (.aload_n 0, 1) := dk_0 a_Ac_perform_126 (dko_42 _)
theorem d_Ac_perform_127 : decode b_Ac_perform 127 = .ok (.getfield 22, 3) := dk_U2 a_Ac_perform_127 (dko_180 _) rfl
theorem d_Ac_perform_130 : decode b_Ac_perform 130 = .ok (.iload_n 1, 1) := dk_0 a_Ac_perform_130 (dko_27 _)
theorem d_Ac_perform_131 : decode b_Ac_perform 131 = .ok (.iaload, 1) := dk_0 a_Ac_perform_131 (dko_46 _)
theorem d_Ac_perform_132 : decode b_Ac_perform 132 = .ok (.aload_n 0, 1) := dk_0 a_Ac_perform_132 (dko_42 _)
theorem d_Ac_perform_133 : decode b_Ac_perform 133 = .ok (.getfield 25, 3) := dk_U2 a_Ac_perform_133 (dko_180 _) rfl
theorem d_Ac_perform_136 : decode b_Ac_perform 136 = .ok (.iload_n 1, 1) := dk_0 a_Ac_perform_136 (dko_27 _)
theorem d_Ac_perform_137 : decode b_Ac_perform 137 = .ok (.iaload, 1) := dk_0 a_Ac_perform_137 (dko_46 _)
theorem d_Ac_perform_138 : decode b_Ac_perform 138 = .ok (.invokevirtual 82, 3) := dk_U2 a_Ac_perform_138 (dko_182 _) rfl
theorem d_Ac_perform_141 : decode b_Ac_perform 141 = .ok (.ireturn, 1) := dk_0 a_Ac_perform_141 (dko_172 _)
theorem d_Ac_perform_142 : decode b_Ac_perform 142 = .ok (.aload_n 0, 1) := dk_0 a_Ac_perform_142 (dko_42 _)
theorem d_Ac_perform_143 : decode b_Ac_perform 143 = .ok (.aload_n 0, 1) := dk_0 a_Ac_perform_143 (dko_42 _)
theorem d_Ac_perform_144 : decode b_Ac_perform 144 = .ok (.getfield 22, 3) := dk_U2 a_Ac_perform_144 (dko_180 _) rfl
theorem d_Ac_perform_147 : decode b_Ac_perform 147 = .ok (.iload_n 1, 1) := dk_0 a_Ac_perform_147 (dko_27 _)
theorem d_Ac_perform_148 : decode b_Ac_perform 148 = .ok (.iaload, 1) := dk_0 a_Ac_perform_148 (dko_46 _)
theorem d_Ac_perform_149 : decode b_Ac_perform 149 = .ok (.invokevirtual 85, 3) := dk_U2 a_Ac_perform_149 (dko_182 _) rfl
theorem d_Ac_perform_152 : decode b_Ac_perform 152 = .ok (.ireturn, 1) := dk_0 a_Ac_perform_152 (dko_172 _)
set_option maxHeartbeats 4000000 in
set_option maxRecDepth 100000 in
theorem ok_Ac_perform (pc : Nat) : OpS mt mi_Ac_perform pc (cs_Ac_perform pc) := (os_n (os_n (os_n (os_n (os_n (os_n (os_l (so_iload_n d_Ac_perform_0 rfl)) (os_l (so_callS (iv := mi_Ac_isAct) rfl mw_1178 mw_1179 mw_9 mw_1180 ⟨by decide +kernel, by decide +kernel, by decide +kernel⟩ (by decide) d_Ac_perform_1))) (os_n (os_l (so_ifeq d_Ac_perform_4 (by decide))) (os_l (so_aload_n d_Ac_perform_7 rfl)))) (os_n (os_n (os_l (so_iload_n d_Ac_perform_8 rfl)) (os_l (so_callV (iv := mi_Ac_isBound) rfl rfl rfl mw_1190 mw_1192 sl_53 mw_9 mw_1193 ⟨by decide +kernel, by decide +kernel, by decide +kernel⟩ (by decide) d_Ac_perform_9))) (os_n (os_l (so_ifne d_Ac_perform_12 (by decide))) (os_n (os_l (so_iconst d_Ac_perform_15 (by decide))) (os_l (so_ireturn rfl d_Ac_perform_16)))))) (os_n (os_n (os_n (os_l (so_aload_n d_Ac_perform_17 rfl)) (os_l (so_get (C := R_Ac) (T := F_Ac) (N := 8) (j := 3) in_Ac rfl (by decide) mw_393 d_Ac_perform_18))) (os_n (os_l (so_iload_n d_Ac_perform_21 rfl)) (os_n (os_l (so_callV (iv := mi_Ro_barring) rfl rfl rfl mw_1208 mw_1209 mw_1210 mw_10 mw_1211 ⟨by decide +kernel, by decide +kernel, by decide +kernel⟩ (by decide) d_Ac_perform_22)) (os_l (so_ifle d_Ac_perform_25 (by decide)))))) (os_n (os_n (os_l (so_iconst d_Ac_perform_28 (by decide))) (os_l (so_ireturn rfl d_Ac_perform_29))) (os_n (os_l (so_aload_n d_Ac_perform_30 rfl)) (os_n (os_l (so_get (C := R_Ac) (T := F_Ac) (N := 8) (j := 4) in_Ac rfl (by decide) mw_395 d_Ac_perform_31)) (os_l (so_iload_n d_Ac_perform_34 rfl))))))) (os_n (os_n (os_n (os_n (os_l (so_iaload d_Ac_perform_35)) (os_l (so_tab d_Ac_perform_36 (by decide) (by decide) (by decide)))) (os_n (os_l (so_aload_n d_Ac_perform_68 rfl)) (os_l (so_aload_n d_Ac_perform_69 rfl)))) (os_n (os_n (os_l (so_get (C := R_Ac) (T := F_Ac) (N := 8) (j := 5) in_Ac rfl (by decide) mw_396 d_Ac_perform_70)) (os_l (so_iload_n d_Ac_perform_73 rfl))) (os_n (os_l (so_iaload d_Ac_perform_74)) (os_n (os_l (so_aload_n d_Ac_perform_75 rfl)) (os_l (so_get (C := R_Ac) (T := F_Ac) (N := 8) (j := 6) in_Ac rfl (by decide) mw_397 d_Ac_perform_76)))))) (os_n (os_n (os_n (os_l (so_iload_n d_Ac_perform_79 rfl)) (os_l (so_iaload d_Ac_perform_80))) (os_n (os_l (so_aload_n d_Ac_perform_81 rfl)) (os_n (os_l (so_get (C := R_Ac) (T := F_Ac) (N := 8) (j := 7) in_Ac rfl (by decide) mw_398 d_Ac_perform_82)) (os_l (so_iload_n d_Ac_perform_85 rfl))))) (os_n (os_n (os_l (so_iaload d_Ac_perform_86)) (os_l (so_callV (iv := mi_Ac_openWay) rfl rfl rfl mw_1217 mw_1219 sl_54 mw_9 mw_1220 ⟨by decide +kernel, by decide +kernel, by decide +kernel⟩ (by decide) d_Ac_perform_87))) (os_n (os_l (so_ireturn rfl d_Ac_perform_90)) (os_n (os_l (so_aload_n d_Ac_perform_91 rfl)) (os_l (so_aload_n d_Ac_perform_92 rfl)))))))) (os_n (os_n (os_n (os_n (os_n (os_l (so_get (C := R_Ac) (T := F_Ac) (N := 8) (j := 5) in_Ac rfl (by decide) mw_396 d_Ac_perform_93)) (os_l (so_iload_n d_Ac_perform_96 rfl))) (os_n (os_l (so_iaload d_Ac_perform_97)) (os_l (so_aload_n d_Ac_perform_98 rfl)))) (os_n (os_n (os_l (so_get (C := R_Ac) (T := F_Ac) (N := 8) (j := 6) in_Ac rfl (by decide) mw_397 d_Ac_perform_99)) (os_l (so_iload_n d_Ac_perform_102 rfl))) (os_n (os_l (so_iaload d_Ac_perform_103)) (os_n (os_l (so_callV (iv := mi_Ac_closeWay) rfl rfl rfl mw_1248 mw_1250 sl_57 mw_9 mw_1251 ⟨by decide +kernel, by decide +kernel, by decide +kernel⟩ (by decide) d_Ac_perform_104)) (os_l (so_ireturn rfl d_Ac_perform_107)))))) (os_n (os_n (os_n (os_l (so_aload_n d_Ac_perform_108 rfl)) (os_l (so_aload_n d_Ac_perform_109 rfl))) (os_n (os_l (so_get (C := R_Ac) (T := F_Ac) (N := 8) (j := 5) in_Ac rfl (by decide) mw_396 d_Ac_perform_110)) (os_n (os_l (so_iload_n d_Ac_perform_113 rfl)) (os_l (so_iaload d_Ac_perform_114))))) (os_n (os_n (os_l (so_aload_n d_Ac_perform_115 rfl)) (os_l (so_get (C := R_Ac) (T := F_Ac) (N := 8) (j := 6) in_Ac rfl (by decide) mw_397 d_Ac_perform_116))) (os_n (os_l (so_iload_n d_Ac_perform_119 rfl)) (os_n (os_l (so_iaload d_Ac_perform_120)) (os_l (so_callV (iv := mi_Ac_setPosition) rfl rfl rfl mw_1256 mw_1258 sl_58 mw_9 mw_1259 ⟨by decide +kernel, by decide +kernel, by decide +kernel⟩ (by decide) d_Ac_perform_121))))))) (os_n (os_n (os_n (os_n (os_l (so_ireturn rfl d_Ac_perform_124)) (os_l (so_aload_n d_Ac_perform_125 rfl))) (os_n (os_l (so_aload_n d_Ac_perform_126 rfl)) (os_l (so_get (C := R_Ac) (T := F_Ac) (N := 8) (j := 5) in_Ac rfl (by decide) mw_396 d_Ac_perform_127)))) (os_n (os_n (os_l (so_iload_n d_Ac_perform_130 rfl)) (os_l (so_iaload d_Ac_perform_131))) (os_n (os_l (so_aload_n d_Ac_perform_132 rfl)) (os_n (os_l (so_get (C := R_Ac) (T := F_Ac) (N := 8) (j := 6) in_Ac rfl (by decide) mw_397 d_Ac_perform_133)) (os_l (so_iload_n d_Ac_perform_136 rfl)))))) (os_n (os_n (os_n (os_l (so_iaload d_Ac_perform_137)) (os_l (so_callV (iv := mi_Ac_cleanSpace) rfl rfl rfl mw_1264 mw_1266 sl_59 mw_9 mw_1267 ⟨by decide +kernel, by decide +kernel, by decide +kernel⟩ (by decide) d_Ac_perform_138))) (os_n (os_l (so_ireturn rfl d_Ac_perform_141)) (os_n (os_l (so_aload_n d_Ac_perform_142 rfl)) (os_l (so_aload_n d_Ac_perform_143 rfl))))) (os_n (os_n (os_l (so_get (C := R_Ac) (T := F_Ac) (N := 8) (j := 5) in_Ac rfl (by decide) mw_396 d_Ac_perform_144)) (os_l (so_iload_n d_Ac_perform_147 rfl))) (os_n (os_l (so_iaload d_Ac_perform_148)) (os_n (os_l (so_callV (iv := mi_Ac_drainSpace) rfl rfl rfl mw_1277 mw_1279 sl_60 mw_9 mw_1280 ⟨by decide +kernel, by decide +kernel, by decide +kernel⟩ (by decide) d_Ac_perform_149)) (os_l (so_ireturn rfl d_Ac_perform_152)))))))))
abbrev t_Ac_openWay_162 : List UInt8 := 172 :: []
abbrev t_Ac_openWay_160 : List UInt8 := 16 :: 7 :: t_Ac_openWay_162
abbrev t_Ac_openWay_157 : List UInt8 := 182 :: 0 :: 129 :: t_Ac_openWay_160
abbrev t_Ac_openWay_154 : List UInt8 := 180 :: 0 :: 35 :: t_Ac_openWay_157
abbrev t_Ac_openWay_153 : List UInt8 := 42 :: t_Ac_openWay_154
abbrev t_Ac_openWay_152 : List UInt8 := 172 :: t_Ac_openWay_153
abbrev t_Ac_openWay_151 : List UInt8 := 3 :: t_Ac_openWay_152
abbrev t_Ac_openWay_148 : List UInt8 := 153 :: 0 :: 5 :: t_Ac_openWay_151
abbrev t_Ac_openWay_145 : List UInt8 := 182 :: 0 :: 123 :: t_Ac_openWay_148
abbrev t_Ac_openWay_142 : List UInt8 := 180 :: 0 :: 39 :: t_Ac_openWay_145
abbrev t_Ac_openWay_141 : List UInt8 := 42 :: t_Ac_openWay_142
abbrev t_Ac_openWay_138 : List UInt8 := 182 :: 0 :: 119 :: t_Ac_openWay_141
abbrev t_Ac_openWay_137 : List UInt8 := 29 :: t_Ac_openWay_138
abbrev t_Ac_openWay_136 : List UInt8 := 28 :: t_Ac_openWay_137
abbrev t_Ac_openWay_135 : List UInt8 := 27 :: t_Ac_openWay_136
abbrev t_Ac_openWay_132 : List UInt8 := 180 :: 0 :: 35 :: t_Ac_openWay_135
abbrev t_Ac_openWay_131 : List UInt8 := 42 :: t_Ac_openWay_132
abbrev t_Ac_openWay_130 : List UInt8 := 172 :: t_Ac_openWay_131
abbrev t_Ac_openWay_128 : List UInt8 := 16 :: 6 :: t_Ac_openWay_130
abbrev t_Ac_openWay_125 : List UInt8 := 154 :: 0 :: 6 :: t_Ac_openWay_128
abbrev t_Ac_openWay_122 : List UInt8 := 182 :: 0 :: 116 :: t_Ac_openWay_125
abbrev t_Ac_openWay_121 : List UInt8 := 46 :: t_Ac_openWay_122
abbrev t_Ac_openWay_120 : List UInt8 := 27 :: t_Ac_openWay_121
abbrev t_Ac_openWay_117 : List UInt8 := 180 :: 0 :: 93 :: t_Ac_openWay_120
abbrev t_Ac_openWay_114 : List UInt8 := 180 :: 0 :: 31 :: t_Ac_openWay_117
abbrev t_Ac_openWay_113 : List UInt8 := 42 :: t_Ac_openWay_114
abbrev t_Ac_openWay_112 : List UInt8 := 28 :: t_Ac_openWay_113
abbrev t_Ac_openWay_109 : List UInt8 := 180 :: 0 :: 31 :: t_Ac_openWay_112
abbrev t_Ac_openWay_108 : List UInt8 := 42 :: t_Ac_openWay_109
abbrev t_Ac_openWay_105 : List UInt8 := 167 :: 255 :: 196 :: t_Ac_openWay_108
abbrev t_Ac_openWay_102 : List UInt8 := 132 :: 4 :: 1 :: t_Ac_openWay_105
abbrev t_Ac_openWay_101 : List UInt8 := 172 :: t_Ac_openWay_102
abbrev t_Ac_openWay_99 : List UInt8 := 16 :: 6 :: t_Ac_openWay_101
abbrev t_Ac_openWay_96 : List UInt8 := 154 :: 0 :: 6 :: t_Ac_openWay_99
abbrev t_Ac_openWay_93 : List UInt8 := 182 :: 0 :: 116 :: t_Ac_openWay_96
abbrev t_Ac_openWay_92 : List UInt8 := 46 :: t_Ac_openWay_93
abbrev t_Ac_openWay_91 : List UInt8 := 27 :: t_Ac_openWay_92
abbrev t_Ac_openWay_88 : List UInt8 := 180 :: 0 :: 93 :: t_Ac_openWay_91
abbrev t_Ac_openWay_85 : List UInt8 := 180 :: 0 :: 31 :: t_Ac_openWay_88
abbrev t_Ac_openWay_84 : List UInt8 := 42 :: t_Ac_openWay_85
abbrev t_Ac_openWay_83 : List UInt8 := 96 :: t_Ac_openWay_84
abbrev t_Ac_openWay_82 : List UInt8 := 122 :: t_Ac_openWay_83
abbrev t_Ac_openWay_81 : List UInt8 := 4 :: t_Ac_openWay_82
abbrev t_Ac_openWay_80 : List UInt8 := 46 :: t_Ac_openWay_81
abbrev t_Ac_openWay_78 : List UInt8 := 21 :: 4 :: t_Ac_openWay_80
abbrev t_Ac_openWay_75 : List UInt8 := 180 :: 0 :: 113 :: t_Ac_openWay_78
abbrev t_Ac_openWay_72 : List UInt8 := 180 :: 0 :: 35 :: t_Ac_openWay_75
abbrev t_Ac_openWay_71 : List UInt8 := 42 :: t_Ac_openWay_72
abbrev t_Ac_openWay_68 : List UInt8 := 180 :: 0 :: 108 :: t_Ac_openWay_71
abbrev t_Ac_openWay_65 : List UInt8 := 180 :: 0 :: 104 :: t_Ac_openWay_68
abbrev t_Ac_openWay_62 : List UInt8 := 180 :: 0 :: 31 :: t_Ac_openWay_65
abbrev t_Ac_openWay_61 : List UInt8 := 42 :: t_Ac_openWay_62
abbrev t_Ac_openWay_58 : List UInt8 := 180 :: 0 :: 31 :: t_Ac_openWay_61
abbrev t_Ac_openWay_57 : List UInt8 := 42 :: t_Ac_openWay_58
abbrev t_Ac_openWay_54 : List UInt8 := 162 :: 0 :: 54 :: t_Ac_openWay_57
abbrev t_Ac_openWay_51 : List UInt8 := 180 :: 0 :: 100 :: t_Ac_openWay_54
abbrev t_Ac_openWay_48 : List UInt8 := 180 :: 0 :: 35 :: t_Ac_openWay_51
abbrev t_Ac_openWay_47 : List UInt8 := 42 :: t_Ac_openWay_48
abbrev t_Ac_openWay_45 : List UInt8 := 21 :: 4 :: t_Ac_openWay_47
abbrev t_Ac_openWay_43 : List UInt8 := 54 :: 4 :: t_Ac_openWay_45
abbrev t_Ac_openWay_42 : List UInt8 := 3 :: t_Ac_openWay_43
abbrev t_Ac_openWay_41 : List UInt8 := 172 :: t_Ac_openWay_42
abbrev t_Ac_openWay_40 : List UInt8 := 8 :: t_Ac_openWay_41
abbrev t_Ac_openWay_37 : List UInt8 := 154 :: 0 :: 5 :: t_Ac_openWay_40
abbrev t_Ac_openWay_34 : List UInt8 := 182 :: 0 :: 96 :: t_Ac_openWay_37
abbrev t_Ac_openWay_33 : List UInt8 := 28 :: t_Ac_openWay_34
abbrev t_Ac_openWay_32 : List UInt8 := 27 :: t_Ac_openWay_33
abbrev t_Ac_openWay_29 : List UInt8 := 180 :: 0 :: 35 :: t_Ac_openWay_32
abbrev t_Ac_openWay_28 : List UInt8 := 42 :: t_Ac_openWay_29
abbrev t_Ac_openWay_27 : List UInt8 := 172 :: t_Ac_openWay_28
abbrev t_Ac_openWay_26 : List UInt8 := 7 :: t_Ac_openWay_27
abbrev t_Ac_openWay_23 : List UInt8 := 154 :: 0 :: 5 :: t_Ac_openWay_26
abbrev t_Ac_openWay_22 : List UInt8 := 46 :: t_Ac_openWay_23
abbrev t_Ac_openWay_21 : List UInt8 := 27 :: t_Ac_openWay_22
abbrev t_Ac_openWay_18 : List UInt8 := 180 :: 0 :: 93 :: t_Ac_openWay_21
abbrev t_Ac_openWay_15 : List UInt8 := 180 :: 0 :: 31 :: t_Ac_openWay_18
abbrev t_Ac_openWay_14 : List UInt8 := 42 :: t_Ac_openWay_15
abbrev t_Ac_openWay_13 : List UInt8 := 172 :: t_Ac_openWay_14
abbrev t_Ac_openWay_12 : List UInt8 := 6 :: t_Ac_openWay_13
abbrev t_Ac_openWay_9 : List UInt8 := 155 :: 0 :: 5 :: t_Ac_openWay_12
abbrev t_Ac_openWay_6 : List UInt8 := 182 :: 0 :: 88 :: t_Ac_openWay_9
abbrev t_Ac_openWay_5 : List UInt8 := 28 :: t_Ac_openWay_6
abbrev t_Ac_openWay_4 : List UInt8 := 27 :: t_Ac_openWay_5
abbrev t_Ac_openWay_1 : List UInt8 := 180 :: 0 :: 35 :: t_Ac_openWay_4
abbrev t_Ac_openWay_0 : List UInt8 := 42 :: t_Ac_openWay_1
theorem a_Ac_openWay_0 : dk_at b_Ac_openWay 0 t_Ac_openWay_0 := dk_start (by decide +kernel)
theorem a_Ac_openWay_1 : dk_at b_Ac_openWay 1 t_Ac_openWay_1 := dk_go 1 a_Ac_openWay_0 rfl
theorem a_Ac_openWay_4 : dk_at b_Ac_openWay 4 t_Ac_openWay_4 := dk_go 3 a_Ac_openWay_1 rfl
theorem a_Ac_openWay_5 : dk_at b_Ac_openWay 5 t_Ac_openWay_5 := dk_go 1 a_Ac_openWay_4 rfl
theorem a_Ac_openWay_6 : dk_at b_Ac_openWay 6 t_Ac_openWay_6 := dk_go 1 a_Ac_openWay_5 rfl
theorem a_Ac_openWay_9 : dk_at b_Ac_openWay 9 t_Ac_openWay_9 := dk_go 3 a_Ac_openWay_6 rfl
theorem a_Ac_openWay_12 : dk_at b_Ac_openWay 12 t_Ac_openWay_12 := dk_go 3 a_Ac_openWay_9 rfl
theorem a_Ac_openWay_13 : dk_at b_Ac_openWay 13 t_Ac_openWay_13 := dk_go 1 a_Ac_openWay_12 rfl
theorem a_Ac_openWay_14 : dk_at b_Ac_openWay 14 t_Ac_openWay_14 := dk_go 1 a_Ac_openWay_13 rfl
theorem a_Ac_openWay_15 : dk_at b_Ac_openWay 15 t_Ac_openWay_15 := dk_go 1 a_Ac_openWay_14 rfl
theorem a_Ac_openWay_18 : dk_at b_Ac_openWay 18 t_Ac_openWay_18 := dk_go 3 a_Ac_openWay_15 rfl
theorem a_Ac_openWay_21 : dk_at b_Ac_openWay 21 t_Ac_openWay_21 := dk_go 3 a_Ac_openWay_18 rfl
theorem a_Ac_openWay_22 : dk_at b_Ac_openWay 22 t_Ac_openWay_22 := dk_go 1 a_Ac_openWay_21 rfl
theorem a_Ac_openWay_23 : dk_at b_Ac_openWay 23 t_Ac_openWay_23 := dk_go 1 a_Ac_openWay_22 rfl
theorem a_Ac_openWay_26 : dk_at b_Ac_openWay 26 t_Ac_openWay_26 := dk_go 3 a_Ac_openWay_23 rfl
theorem a_Ac_openWay_27 : dk_at b_Ac_openWay 27 t_Ac_openWay_27 := dk_go 1 a_Ac_openWay_26 rfl
theorem a_Ac_openWay_28 : dk_at b_Ac_openWay 28 t_Ac_openWay_28 := dk_go 1 a_Ac_openWay_27 rfl
theorem a_Ac_openWay_29 : dk_at b_Ac_openWay 29 t_Ac_openWay_29 := dk_go 1 a_Ac_openWay_28 rfl
theorem a_Ac_openWay_32 : dk_at b_Ac_openWay 32 t_Ac_openWay_32 := dk_go 3 a_Ac_openWay_29 rfl
theorem a_Ac_openWay_33 : dk_at b_Ac_openWay 33 t_Ac_openWay_33 := dk_go 1 a_Ac_openWay_32 rfl
theorem a_Ac_openWay_34 : dk_at b_Ac_openWay 34 t_Ac_openWay_34 := dk_go 1 a_Ac_openWay_33 rfl
theorem a_Ac_openWay_37 : dk_at b_Ac_openWay 37 t_Ac_openWay_37 := dk_go 3 a_Ac_openWay_34 rfl
theorem a_Ac_openWay_40 : dk_at b_Ac_openWay 40 t_Ac_openWay_40 := dk_go 3 a_Ac_openWay_37 rfl
theorem a_Ac_openWay_41 : dk_at b_Ac_openWay 41 t_Ac_openWay_41 := dk_go 1 a_Ac_openWay_40 rfl
theorem a_Ac_openWay_42 : dk_at b_Ac_openWay 42 t_Ac_openWay_42 := dk_go 1 a_Ac_openWay_41 rfl
theorem a_Ac_openWay_43 : dk_at b_Ac_openWay 43 t_Ac_openWay_43 := dk_go 1 a_Ac_openWay_42 rfl
theorem a_Ac_openWay_45 : dk_at b_Ac_openWay 45 t_Ac_openWay_45 := dk_go 2 a_Ac_openWay_43 rfl
theorem a_Ac_openWay_47 : dk_at b_Ac_openWay 47 t_Ac_openWay_47 := dk_go 2 a_Ac_openWay_45 rfl
theorem a_Ac_openWay_48 : dk_at b_Ac_openWay 48 t_Ac_openWay_48 := dk_go 1 a_Ac_openWay_47 rfl
theorem a_Ac_openWay_51 : dk_at b_Ac_openWay 51 t_Ac_openWay_51 := dk_go 3 a_Ac_openWay_48 rfl
theorem a_Ac_openWay_54 : dk_at b_Ac_openWay 54 t_Ac_openWay_54 := dk_go 3 a_Ac_openWay_51 rfl
theorem a_Ac_openWay_57 : dk_at b_Ac_openWay 57 t_Ac_openWay_57 := dk_go 3 a_Ac_openWay_54 rfl
theorem a_Ac_openWay_58 : dk_at b_Ac_openWay 58 t_Ac_openWay_58 := dk_go 1 a_Ac_openWay_57 rfl
theorem a_Ac_openWay_61 : dk_at b_Ac_openWay 61 t_Ac_openWay_61 := dk_go 3 a_Ac_openWay_58 rfl
theorem a_Ac_openWay_62 : dk_at b_Ac_openWay 62 t_Ac_openWay_62 := dk_go 1 a_Ac_openWay_61 rfl
theorem a_Ac_openWay_65 : dk_at b_Ac_openWay 65 t_Ac_openWay_65 := dk_go 3 a_Ac_openWay_62 rfl
theorem a_Ac_openWay_68 : dk_at b_Ac_openWay 68 t_Ac_openWay_68 := dk_go 3 a_Ac_openWay_65 rfl
theorem a_Ac_openWay_71 : dk_at b_Ac_openWay 71 t_Ac_openWay_71 := dk_go 3 a_Ac_openWay_68 rfl
theorem a_Ac_openWay_72 : dk_at b_Ac_openWay 72 t_Ac_openWay_72 := dk_go 1 a_Ac_openWay_71 rfl
theorem a_Ac_openWay_75 : dk_at b_Ac_openWay 75 t_Ac_openWay_75 := dk_go 3 a_Ac_openWay_72 rfl
theorem a_Ac_openWay_78 : dk_at b_Ac_openWay 78 t_Ac_openWay_78 := dk_go 3 a_Ac_openWay_75 rfl
theorem a_Ac_openWay_80 : dk_at b_Ac_openWay 80 t_Ac_openWay_80 := dk_go 2 a_Ac_openWay_78 rfl
theorem a_Ac_openWay_81 : dk_at b_Ac_openWay 81 t_Ac_openWay_81 := dk_go 1 a_Ac_openWay_80 rfl
theorem a_Ac_openWay_82 : dk_at b_Ac_openWay 82 t_Ac_openWay_82 := dk_go 1 a_Ac_openWay_81 rfl
theorem a_Ac_openWay_83 : dk_at b_Ac_openWay 83 t_Ac_openWay_83 := dk_go 1 a_Ac_openWay_82 rfl
theorem a_Ac_openWay_84 : dk_at b_Ac_openWay 84 t_Ac_openWay_84 := dk_go 1 a_Ac_openWay_83 rfl
theorem a_Ac_openWay_85 : dk_at b_Ac_openWay 85 t_Ac_openWay_85 := dk_go 1 a_Ac_openWay_84 rfl
theorem a_Ac_openWay_88 : dk_at b_Ac_openWay 88 t_Ac_openWay_88 := dk_go 3 a_Ac_openWay_85 rfl
theorem a_Ac_openWay_91 : dk_at b_Ac_openWay 91 t_Ac_openWay_91 := dk_go 3 a_Ac_openWay_88 rfl
theorem a_Ac_openWay_92 : dk_at b_Ac_openWay 92 t_Ac_openWay_92 := dk_go 1 a_Ac_openWay_91 rfl
theorem a_Ac_openWay_93 : dk_at b_Ac_openWay 93 t_Ac_openWay_93 := dk_go 1 a_Ac_openWay_92 rfl
theorem a_Ac_openWay_96 : dk_at b_Ac_openWay 96 t_Ac_openWay_96 := dk_go 3 a_Ac_openWay_93 rfl
theorem a_Ac_openWay_99 : dk_at b_Ac_openWay 99 t_Ac_openWay_99 := dk_go 3 a_Ac_openWay_96 rfl
theorem a_Ac_openWay_101 : dk_at b_Ac_openWay 101 t_Ac_openWay_101 := dk_go 2 a_Ac_openWay_99 rfl
theorem a_Ac_openWay_102 : dk_at b_Ac_openWay 102 t_Ac_openWay_102 := dk_go 1 a_Ac_openWay_101 rfl
theorem a_Ac_openWay_105 : dk_at b_Ac_openWay 105 t_Ac_openWay_105 := dk_go 3 a_Ac_openWay_102 rfl
theorem a_Ac_openWay_108 : dk_at b_Ac_openWay 108 t_Ac_openWay_108 := dk_go 3 a_Ac_openWay_105 rfl
theorem a_Ac_openWay_109 : dk_at b_Ac_openWay 109 t_Ac_openWay_109 := dk_go 1 a_Ac_openWay_108 rfl
theorem a_Ac_openWay_112 : dk_at b_Ac_openWay 112 t_Ac_openWay_112 := dk_go 3 a_Ac_openWay_109 rfl
theorem a_Ac_openWay_113 : dk_at b_Ac_openWay 113 t_Ac_openWay_113 := dk_go 1 a_Ac_openWay_112 rfl
theorem a_Ac_openWay_114 : dk_at b_Ac_openWay 114 t_Ac_openWay_114 := dk_go 1 a_Ac_openWay_113 rfl
theorem a_Ac_openWay_117 : dk_at b_Ac_openWay 117 t_Ac_openWay_117 := dk_go 3 a_Ac_openWay_114 rfl
theorem a_Ac_openWay_120 : dk_at b_Ac_openWay 120 t_Ac_openWay_120 := dk_go 3 a_Ac_openWay_117 rfl
theorem a_Ac_openWay_121 : dk_at b_Ac_openWay 121 t_Ac_openWay_121 := dk_go 1 a_Ac_openWay_120 rfl
theorem a_Ac_openWay_122 : dk_at b_Ac_openWay 122 t_Ac_openWay_122 := dk_go 1 a_Ac_openWay_121 rfl
theorem a_Ac_openWay_125 : dk_at b_Ac_openWay 125 t_Ac_openWay_125 := dk_go 3 a_Ac_openWay_122 rfl
theorem a_Ac_openWay_128 : dk_at b_Ac_openWay 128 t_Ac_openWay_128 := dk_go 3 a_Ac_openWay_125 rfl
theorem a_Ac_openWay_130 : dk_at b_Ac_openWay 130 t_Ac_openWay_130 := dk_go 2 a_Ac_openWay_128 rfl
theorem a_Ac_openWay_131 : dk_at b_Ac_openWay 131 t_Ac_openWay_131 := dk_go 1 a_Ac_openWay_130 rfl
theorem a_Ac_openWay_132 : dk_at b_Ac_openWay 132 t_Ac_openWay_132 := dk_go 1 a_Ac_openWay_131 rfl
theorem a_Ac_openWay_135 : dk_at b_Ac_openWay 135 t_Ac_openWay_135 := dk_go 3 a_Ac_openWay_132 rfl
theorem a_Ac_openWay_136 : dk_at b_Ac_openWay 136 t_Ac_openWay_136 := dk_go 1 a_Ac_openWay_135 rfl
theorem a_Ac_openWay_137 : dk_at b_Ac_openWay 137 t_Ac_openWay_137 := dk_go 1 a_Ac_openWay_136 rfl
theorem a_Ac_openWay_138 : dk_at b_Ac_openWay 138 t_Ac_openWay_138 := dk_go 1 a_Ac_openWay_137 rfl
theorem a_Ac_openWay_141 : dk_at b_Ac_openWay 141 t_Ac_openWay_141 := dk_go 3 a_Ac_openWay_138 rfl
theorem a_Ac_openWay_142 : dk_at b_Ac_openWay 142 t_Ac_openWay_142 := dk_go 1 a_Ac_openWay_141 rfl
theorem a_Ac_openWay_145 : dk_at b_Ac_openWay 145 t_Ac_openWay_145 := dk_go 3 a_Ac_openWay_142 rfl
theorem a_Ac_openWay_148 : dk_at b_Ac_openWay 148 t_Ac_openWay_148 := dk_go 3 a_Ac_openWay_145 rfl
theorem a_Ac_openWay_151 : dk_at b_Ac_openWay 151 t_Ac_openWay_151 := dk_go 3 a_Ac_openWay_148 rfl
theorem a_Ac_openWay_152 : dk_at b_Ac_openWay 152 t_Ac_openWay_152 := dk_go 1 a_Ac_openWay_151 rfl
theorem a_Ac_openWay_153 : dk_at b_Ac_openWay 153 t_Ac_openWay_153 := dk_go 1 a_Ac_openWay_152 rfl
theorem a_Ac_openWay_154 : dk_at b_Ac_openWay 154 t_Ac_openWay_154 := dk_go 1 a_Ac_openWay_153 rfl
theorem a_Ac_openWay_157 : dk_at b_Ac_openWay 157 t_Ac_openWay_157 := dk_go 3 a_Ac_openWay_154 rfl
theorem a_Ac_openWay_160 : dk_at b_Ac_openWay 160 t_Ac_openWay_160 := dk_go 3 a_Ac_openWay_157 rfl
theorem a_Ac_openWay_162 : dk_at b_Ac_openWay 162 t_Ac_openWay_162 := dk_go 2 a_Ac_openWay_160 rfl
theorem d_Ac_openWay_0 : decode b_Ac_openWay 0 = .ok (.aload_n 0, 1) := dk_0 a_Ac_openWay_0 (dko_42 _)
theorem d_Ac_openWay_1 : decode b_Ac_openWay 1 = .ok (.getfield 35, 3) := dk_U2 a_Ac_openWay_1 (dko_180 _) rfl
theorem d_Ac_openWay_4 : decode b_Ac_openWay 4 = .ok (.iload_n 1, 1) := dk_0 a_Ac_openWay_4 (dko_27 _)
theorem d_Ac_openWay_5 : decode b_Ac_openWay 5 = .ok (.iload_n 2, 1) := dk_0 a_Ac_openWay_5 (dko_28 _)
theorem d_Ac_openWay_6 : decode b_Ac_openWay 6 = .ok (.invokevirtual 88, 3) := dk_U2 a_Ac_openWay_6 (dko_182 _) rfl
theorem d_Ac_openWay_9 : decode b_Ac_openWay 9 = .ok (.ifCond .lt 5, 3) := dk_S2 a_Ac_openWay_9 (dko_155 _) (by decide +kernel)
theorem d_Ac_openWay_12 : decode b_Ac_openWay 12 = .ok (.iconst 3, 1) := dk_0 a_Ac_openWay_12 (dko_6 _)
theorem d_Ac_openWay_13 : decode b_Ac_openWay 13 = .ok (.ireturn, 1) := dk_0 a_Ac_openWay_13 (dko_172 _)
theorem d_Ac_openWay_14 : decode b_Ac_openWay 14 = .ok (.aload_n 0, 1) := dk_0 a_Ac_openWay_14 (dko_42 _)
theorem d_Ac_openWay_15 : decode b_Ac_openWay 15 = .ok (.getfield 31, 3) := dk_U2 a_Ac_openWay_15 (dko_180 _) rfl
theorem d_Ac_openWay_18 : decode b_Ac_openWay 18 = .ok (.getfield 93, 3) := dk_U2 a_Ac_openWay_18 (dko_180 _) rfl
theorem d_Ac_openWay_21 : decode b_Ac_openWay 21 = .ok (.iload_n 1, 1) := dk_0 a_Ac_openWay_21 (dko_27 _)
theorem d_Ac_openWay_22 : decode b_Ac_openWay 22 = .ok (.iaload, 1) := dk_0 a_Ac_openWay_22 (dko_46 _)
theorem d_Ac_openWay_23 : decode b_Ac_openWay 23 = .ok (.ifCond .ne 5, 3) := dk_S2 a_Ac_openWay_23 (dko_154 _) (by decide +kernel)
theorem d_Ac_openWay_26 : decode b_Ac_openWay 26 = .ok (.iconst 4, 1) := dk_0 a_Ac_openWay_26 (dko_7 _)
theorem d_Ac_openWay_27 : decode b_Ac_openWay 27 = .ok (.ireturn, 1) := dk_0 a_Ac_openWay_27 (dko_172 _)
theorem d_Ac_openWay_28 : decode b_Ac_openWay 28 = .ok (.aload_n 0, 1) := dk_0 a_Ac_openWay_28 (dko_42 _)
theorem d_Ac_openWay_29 : decode b_Ac_openWay 29 = .ok (.getfield 35, 3) := dk_U2 a_Ac_openWay_29 (dko_180 _) rfl
theorem d_Ac_openWay_32 : decode b_Ac_openWay 32 = .ok (.iload_n 1, 1) := dk_0 a_Ac_openWay_32 (dko_27 _)
theorem d_Ac_openWay_33 : decode b_Ac_openWay 33 = .ok (.iload_n 2, 1) := dk_0 a_Ac_openWay_33 (dko_28 _)
theorem d_Ac_openWay_34 : decode b_Ac_openWay 34 = .ok (.invokevirtual 96, 3) := dk_U2 a_Ac_openWay_34 (dko_182 _) rfl
theorem d_Ac_openWay_37 : decode b_Ac_openWay 37 = .ok (.ifCond .ne 5, 3) := dk_S2 a_Ac_openWay_37 (dko_154 _) (by decide +kernel)
theorem d_Ac_openWay_40 : decode b_Ac_openWay 40 = .ok (.iconst 5, 1) := dk_0 a_Ac_openWay_40 (dko_8 _)
theorem d_Ac_openWay_41 : decode b_Ac_openWay 41 = .ok (.ireturn, 1) := dk_0 a_Ac_openWay_41 (dko_172 _)
theorem d_Ac_openWay_42 : decode b_Ac_openWay 42 = .ok (.iconst 0, 1) := dk_0 a_Ac_openWay_42 (dko_3 _)
theorem d_Ac_openWay_43 : decode b_Ac_openWay 43 = .ok (.istore 4, 2) := dk_U1 a_Ac_openWay_43 (dko_54 _) rfl
theorem d_Ac_openWay_45 : decode b_Ac_openWay 45 = .ok (.iload 4, 2) := dk_U1 a_Ac_openWay_45 (dko_21 _) rfl
theorem d_Ac_openWay_47 : decode b_Ac_openWay 47 = .ok (.aload_n 0, 1) := dk_0 a_Ac_openWay_47 (dko_42 _)
theorem d_Ac_openWay_48 : decode b_Ac_openWay 48 = .ok (.getfield 35, 3) := dk_U2 a_Ac_openWay_48 (dko_180 _) rfl
theorem d_Ac_openWay_51 : decode b_Ac_openWay 51 = .ok (.getfield 100, 3) := dk_U2 a_Ac_openWay_51 (dko_180 _) rfl
theorem d_Ac_openWay_54 : decode b_Ac_openWay 54 = .ok (.if_icmp .ge 54, 3) := dk_S2 a_Ac_openWay_54 (dko_162 _) (by decide +kernel)
theorem d_Ac_openWay_57 : decode b_Ac_openWay 57 = .ok (.aload_n 0, 1) := dk_0 a_Ac_openWay_57 (dko_42 _)
theorem d_Ac_openWay_58 : decode b_Ac_openWay 58 = .ok (.getfield 31, 3) := dk_U2 a_Ac_openWay_58 (dko_180 _) rfl
theorem d_Ac_openWay_61 : decode b_Ac_openWay 61 = .ok (.aload_n 0, 1) := dk_0 a_Ac_openWay_61 (dko_42 _)
theorem d_Ac_openWay_62 : decode b_Ac_openWay 62 = .ok (.getfield 31, 3) := dk_U2 a_Ac_openWay_62 (dko_180 _) rfl
theorem d_Ac_openWay_65 : decode b_Ac_openWay 65 = .ok (.getfield 104, 3) := dk_U2 a_Ac_openWay_65 (dko_180 _) rfl
theorem d_Ac_openWay_68 : decode b_Ac_openWay 68 = .ok (.getfield 108, 3) := dk_U2 a_Ac_openWay_68 (dko_180 _) rfl
theorem d_Ac_openWay_71 : decode b_Ac_openWay 71 = .ok (.aload_n 0, 1) := dk_0 a_Ac_openWay_71 (dko_42 _)
theorem d_Ac_openWay_72 : decode b_Ac_openWay 72 = .ok (.getfield 35, 3) := dk_U2 a_Ac_openWay_72 (dko_180 _) rfl
theorem d_Ac_openWay_75 : decode b_Ac_openWay 75 = .ok (.getfield 113, 3) := dk_U2 a_Ac_openWay_75 (dko_180 _) rfl
theorem d_Ac_openWay_78 : decode b_Ac_openWay 78 = .ok (.iload 4, 2) := dk_U1 a_Ac_openWay_78 (dko_21 _) rfl
theorem d_Ac_openWay_80 : decode b_Ac_openWay 80 = .ok (.iaload, 1) := dk_0 a_Ac_openWay_80 (dko_46 _)
theorem d_Ac_openWay_81 : decode b_Ac_openWay 81 = .ok (.iconst 1, 1) := dk_0 a_Ac_openWay_81 (dko_4 _)
theorem d_Ac_openWay_82 : decode b_Ac_openWay 82 = .ok (.ishr, 1) := dk_0 a_Ac_openWay_82 (dko_122 _)
theorem d_Ac_openWay_83 : decode b_Ac_openWay 83 = .ok (.iadd, 1) := dk_0 a_Ac_openWay_83 (dko_96 _)
theorem d_Ac_openWay_84 : decode b_Ac_openWay 84 = .ok (.aload_n 0, 1) := dk_0 a_Ac_openWay_84 (dko_42 _)
theorem d_Ac_openWay_85 : decode b_Ac_openWay 85 = .ok (.getfield 31, 3) := dk_U2 a_Ac_openWay_85 (dko_180 _) rfl
theorem d_Ac_openWay_88 : decode b_Ac_openWay 88 = .ok (.getfield 93, 3) := dk_U2 a_Ac_openWay_88 (dko_180 _) rfl
theorem d_Ac_openWay_91 : decode b_Ac_openWay 91 = .ok (.iload_n 1, 1) := dk_0 a_Ac_openWay_91 (dko_27 _)
theorem d_Ac_openWay_92 : decode b_Ac_openWay 92 = .ok (.iaload, 1) := dk_0 a_Ac_openWay_92 (dko_46 _)
theorem d_Ac_openWay_93 : decode b_Ac_openWay 93 = .ok (.invokevirtual 116, 3) := dk_U2 a_Ac_openWay_93 (dko_182 _) rfl
theorem d_Ac_openWay_96 : decode b_Ac_openWay 96 = .ok (.ifCond .ne 6, 3) := dk_S2 a_Ac_openWay_96 (dko_154 _) (by decide +kernel)
theorem d_Ac_openWay_99 : decode b_Ac_openWay 99 = .ok (.bipush 6, 2) := dk_S1 a_Ac_openWay_99 (dko_16 _) (by decide +kernel)
theorem d_Ac_openWay_101 : decode b_Ac_openWay 101 = .ok (.ireturn, 1) := dk_0 a_Ac_openWay_101 (dko_172 _)
theorem d_Ac_openWay_102 : decode b_Ac_openWay 102 = .ok (.iinc 4 1, 3) := dk_US a_Ac_openWay_102 (dko_132 _) (by decide +kernel)
theorem d_Ac_openWay_105 : decode b_Ac_openWay 105 = .ok (.goto (-60), 3) := dk_S2 a_Ac_openWay_105 (dko_167 _) (by decide +kernel)
theorem d_Ac_openWay_108 : decode b_Ac_openWay 108 = .ok (.aload_n 0, 1) := dk_0 a_Ac_openWay_108 (dko_42 _)
theorem d_Ac_openWay_109 : decode b_Ac_openWay 109 = .ok (.getfield 31, 3) := dk_U2 a_Ac_openWay_109 (dko_180 _) rfl
theorem d_Ac_openWay_112 : decode b_Ac_openWay 112 = .ok (.iload_n 2, 1) := dk_0 a_Ac_openWay_112 (dko_28 _)
theorem d_Ac_openWay_113 : decode b_Ac_openWay 113 = .ok (.aload_n 0, 1) := dk_0 a_Ac_openWay_113 (dko_42 _)
theorem d_Ac_openWay_114 : decode b_Ac_openWay 114 = .ok (.getfield 31, 3) := dk_U2 a_Ac_openWay_114 (dko_180 _) rfl
theorem d_Ac_openWay_117 : decode b_Ac_openWay 117 = .ok (.getfield 93, 3) := dk_U2 a_Ac_openWay_117 (dko_180 _) rfl
theorem d_Ac_openWay_120 : decode b_Ac_openWay 120 = .ok (.iload_n 1, 1) := dk_0 a_Ac_openWay_120 (dko_27 _)
theorem d_Ac_openWay_121 : decode b_Ac_openWay 121 = .ok (.iaload, 1) := dk_0 a_Ac_openWay_121 (dko_46 _)
theorem d_Ac_openWay_122 : decode b_Ac_openWay 122 = .ok (.invokevirtual 116, 3) := dk_U2 a_Ac_openWay_122 (dko_182 _) rfl
theorem d_Ac_openWay_125 : decode b_Ac_openWay 125 = .ok (.ifCond .ne 6, 3) := dk_S2 a_Ac_openWay_125 (dko_154 _) (by decide +kernel)
theorem d_Ac_openWay_128 : decode b_Ac_openWay 128 = .ok (.bipush 6, 2) := dk_S1 a_Ac_openWay_128 (dko_16 _) (by decide +kernel)
theorem d_Ac_openWay_130 : decode b_Ac_openWay 130 = .ok (.ireturn, 1) := dk_0 a_Ac_openWay_130 (dko_172 _)
theorem d_Ac_openWay_131 : decode b_Ac_openWay 131 = .ok (.aload_n 0, 1) := dk_0 a_Ac_openWay_131 (dko_42 _)
theorem d_Ac_openWay_132 : decode b_Ac_openWay 132 = .ok (.getfield 35, 3) := dk_U2 a_Ac_openWay_132 (dko_180 _) rfl
theorem d_Ac_openWay_135 : decode b_Ac_openWay 135 = .ok (.iload_n 1, 1) := dk_0 a_Ac_openWay_135 (dko_27 _)
theorem d_Ac_openWay_136 : decode b_Ac_openWay 136 = .ok (.iload_n 2, 1) := dk_0 a_Ac_openWay_136 (dko_28 _)
theorem d_Ac_openWay_137 : decode b_Ac_openWay 137 = .ok (.iload_n 3, 1) := dk_0 a_Ac_openWay_137 (dko_29 _)
theorem d_Ac_openWay_138 : decode b_Ac_openWay 138 = .ok (.invokevirtual 119, 3) := dk_U2 a_Ac_openWay_138 (dko_182 _) rfl
theorem d_Ac_openWay_141 : decode b_Ac_openWay 141 = .ok (.aload_n 0, 1) := dk_0 a_Ac_openWay_141 (dko_42 _)
theorem d_Ac_openWay_142 : decode b_Ac_openWay 142 = .ok (.getfield 39, 3) := dk_U2 a_Ac_openWay_142 (dko_180 _) rfl
theorem d_Ac_openWay_145 : decode b_Ac_openWay 145 = .ok (.invokevirtual 123, 3) := dk_U2 a_Ac_openWay_145 (dko_182 _) rfl
theorem d_Ac_openWay_148 : decode b_Ac_openWay 148 = .ok (.ifCond .eq 5, 3) := dk_S2 a_Ac_openWay_148 (dko_153 _) (by decide +kernel)
theorem d_Ac_openWay_151 : decode b_Ac_openWay 151 = .ok (.iconst 0, 1) := dk_0 a_Ac_openWay_151 (dko_3 _)
theorem d_Ac_openWay_152 : decode b_Ac_openWay 152 = .ok (.ireturn, 1) := dk_0 a_Ac_openWay_152 (dko_172 _)
theorem d_Ac_openWay_153 : decode b_Ac_openWay 153 = .ok (.aload_n 0, 1) := dk_0 a_Ac_openWay_153 (dko_42 _)
theorem d_Ac_openWay_154 : decode b_Ac_openWay 154 = .ok (.getfield 35, 3) := dk_U2 a_Ac_openWay_154 (dko_180 _) rfl
theorem d_Ac_openWay_157 : decode b_Ac_openWay 157 = .ok (.invokevirtual 129, 3) := dk_U2 a_Ac_openWay_157 (dko_182 _) rfl
theorem d_Ac_openWay_160 : decode b_Ac_openWay 160 = .ok (.bipush 7, 2) := dk_S1 a_Ac_openWay_160 (dko_16 _) (by decide +kernel)
theorem d_Ac_openWay_162 : decode b_Ac_openWay 162 = .ok (.ireturn, 1) := dk_0 a_Ac_openWay_162 (dko_172 _)
set_option maxHeartbeats 4000000 in
set_option maxRecDepth 100000 in
theorem ok_Ac_openWay (pc : Nat) : OpS mt mi_Ac_openWay pc (cs_Ac_openWay pc) := (os_n (os_n (os_n (os_n (os_n (os_n (os_l (so_aload_n d_Ac_openWay_0 rfl)) (os_l (so_get (C := R_Ac) (T := F_Ac) (N := 8) (j := 1) in_Ac rfl (by decide) mw_391 d_Ac_openWay_1))) (os_n (os_l (so_iload_n d_Ac_openWay_4 rfl)) (os_n (os_l (so_iload_n d_Ac_openWay_5 rfl)) (os_l (so_callV (iv := mi_Wa_indexOf) rfl rfl rfl mw_1221 mw_1222 mw_1223 mw_7 mw_1224 ⟨by decide +kernel, by decide +kernel, by decide +kernel⟩ (by decide) d_Ac_openWay_6))))) (os_n (os_n (os_l (so_iflt d_Ac_openWay_9 (by decide))) (os_l (so_iconst d_Ac_openWay_12 (by decide)))) (os_n (os_l (so_ireturn rfl d_Ac_openWay_13)) (os_n (os_l (so_aload_n d_Ac_openWay_14 rfl)) (os_l (so_get (C := R_Ac) (T := F_Ac) (N := 8) (j := 0) in_Ac rfl (by decide) mw_390 d_Ac_openWay_15)))))) (os_n (os_n (os_n (os_l (so_get (C := R_St) (T := F_St) (N := 12) (j := 3) in_St rfl (by decide) mw_164 d_Ac_openWay_18)) (os_l (so_iload_n d_Ac_openWay_21 rfl))) (os_n (os_l (so_iaload d_Ac_openWay_22)) (os_n (os_l (so_ifne d_Ac_openWay_23 (by decide))) (os_l (so_iconst d_Ac_openWay_26 (by decide)))))) (os_n (os_n (os_l (so_ireturn rfl d_Ac_openWay_27)) (os_n (os_l (so_aload_n d_Ac_openWay_28 rfl)) (os_l (so_get (C := R_Ac) (T := F_Ac) (N := 8) (j := 1) in_Ac rfl (by decide) mw_391 d_Ac_openWay_29)))) (os_n (os_l (so_iload_n d_Ac_openWay_32 rfl)) (os_n (os_l (so_iload_n d_Ac_openWay_33 rfl)) (os_l (so_callV (iv := mi_Wa_find) rfl rfl rfl mw_1225 mw_1226 mw_1227 mw_7 mw_1228 ⟨by decide +kernel, by decide +kernel, by decide +kernel⟩ (by decide) d_Ac_openWay_34))))))) (os_n (os_n (os_n (os_n (os_l (so_ifne d_Ac_openWay_37 (by decide))) (os_l (so_iconst d_Ac_openWay_40 (by decide)))) (os_n (os_l (so_ireturn rfl d_Ac_openWay_41)) (os_n (os_l (so_iconst d_Ac_openWay_42 (by decide))) (os_l (so_istore d_Ac_openWay_43 (by decide)))))) (os_n (os_n (os_l (so_iload d_Ac_openWay_45)) (os_l (so_aload_n d_Ac_openWay_47 rfl))) (os_n (os_l (so_get (C := R_Ac) (T := F_Ac) (N := 8) (j := 1) in_Ac rfl (by decide) mw_391 d_Ac_openWay_48)) (os_n (os_l (so_get (C := R_Wa) (T := F_Wa) (N := 18) (j := 15) in_Wa rfl (by decide) mw_234 d_Ac_openWay_51)) (os_l (so_icge d_Ac_openWay_54 (by decide))))))) (os_n (os_n (os_n (os_l (so_aload_n d_Ac_openWay_57 rfl)) (os_l (so_get (C := R_Ac) (T := F_Ac) (N := 8) (j := 0) in_Ac rfl (by decide) mw_390 d_Ac_openWay_58))) (os_n (os_l (so_aload_n d_Ac_openWay_61 rfl)) (os_n (os_l (so_get (C := R_Ac) (T := F_Ac) (N := 8) (j := 0) in_Ac rfl (by decide) mw_390 d_Ac_openWay_62)) (os_l (so_get (C := R_St) (T := F_St) (N := 12) (j := 0) in_St rfl (by decide) mw_153 d_Ac_openWay_65))))) (os_n (os_n (os_l (so_get (C := R_Pl) (T := F_Pl) (N := 12) (j := 0) in_Pl rfl (by decide) mw_91 d_Ac_openWay_68)) (os_n (os_l (so_aload_n d_Ac_openWay_71 rfl)) (os_l (so_get (C := R_Ac) (T := F_Ac) (N := 8) (j := 1) in_Ac rfl (by decide) mw_391 d_Ac_openWay_72)))) (os_n (os_l (so_get (C := R_Wa) (T := F_Wa) (N := 18) (j := 14) in_Wa rfl (by decide) mw_233 d_Ac_openWay_75)) (os_n (os_l (so_iload d_Ac_openWay_78)) (os_l (so_iaload d_Ac_openWay_80)))))))) (os_n (os_n (os_n (os_n (os_n (os_l (so_iconst d_Ac_openWay_81 (by decide))) (os_l (so_ishr d_Ac_openWay_82))) (os_n (os_l (so_iadd d_Ac_openWay_83)) (os_n (os_l (so_aload_n d_Ac_openWay_84 rfl)) (os_l (so_get (C := R_Ac) (T := F_Ac) (N := 8) (j := 0) in_Ac rfl (by decide) mw_390 d_Ac_openWay_85))))) (os_n (os_n (os_l (so_get (C := R_St) (T := F_St) (N := 12) (j := 3) in_St rfl (by decide) mw_164 d_Ac_openWay_88)) (os_l (so_iload_n d_Ac_openWay_91 rfl))) (os_n (os_l (so_iaload d_Ac_openWay_92)) (os_n (os_l (so_callV (iv := mi_St_mayCome) rfl rfl rfl mw_1238 mw_1084 mw_1085 mw_4 mw_1086 ⟨by decide +kernel, by decide +kernel, by decide +kernel⟩ (by decide) d_Ac_openWay_93)) (os_l (so_ifne d_Ac_openWay_96 (by decide))))))) (os_n (os_n (os_n (os_l (so_bipush d_Ac_openWay_99 (by decide))) (os_l (so_ireturn rfl d_Ac_openWay_101))) (os_n (os_l (so_iinc d_Ac_openWay_102 (by decide) (by decide))) (os_n (os_l (so_goto d_Ac_openWay_105 (by decide))) (os_l (so_aload_n d_Ac_openWay_108 rfl))))) (os_n (os_n (os_l (so_get (C := R_Ac) (T := F_Ac) (N := 8) (j := 0) in_Ac rfl (by decide) mw_390 d_Ac_openWay_109)) (os_n (os_l (so_iload_n d_Ac_openWay_112 rfl)) (os_l (so_aload_n d_Ac_openWay_113 rfl)))) (os_n (os_l (so_get (C := R_Ac) (T := F_Ac) (N := 8) (j := 0) in_Ac rfl (by decide) mw_390 d_Ac_openWay_114)) (os_n (os_l (so_get (C := R_St) (T := F_St) (N := 12) (j := 3) in_St rfl (by decide) mw_164 d_Ac_openWay_117)) (os_l (so_iload_n d_Ac_openWay_120 rfl))))))) (os_n (os_n (os_n (os_n (os_l (so_iaload d_Ac_openWay_121)) (os_l (so_callV (iv := mi_St_mayCome) rfl rfl rfl mw_1238 mw_1084 mw_1085 mw_4 mw_1086 ⟨by decide +kernel, by decide +kernel, by decide +kernel⟩ (by decide) d_Ac_openWay_122))) (os_n (os_l (so_ifne d_Ac_openWay_125 (by decide))) (os_n (os_l (so_bipush d_Ac_openWay_128 (by decide))) (os_l (so_ireturn rfl d_Ac_openWay_130))))) (os_n (os_n (os_l (so_aload_n d_Ac_openWay_131 rfl)) (os_n (os_l (so_get (C := R_Ac) (T := F_Ac) (N := 8) (j := 1) in_Ac rfl (by decide) mw_391 d_Ac_openWay_132)) (os_l (so_iload_n d_Ac_openWay_135 rfl)))) (os_n (os_l (so_iload_n d_Ac_openWay_136 rfl)) (os_n (os_l (so_iload_n d_Ac_openWay_137 rfl)) (os_l (so_callV (iv := mi_Wa_openFound) rfl rfl rfl mw_1239 mw_1240 mw_1241 mw_7 mw_1242 ⟨by decide +kernel, by decide +kernel, by decide +kernel⟩ (by decide) d_Ac_openWay_138)))))) (os_n (os_n (os_n (os_l (so_aload_n d_Ac_openWay_141 rfl)) (os_l (so_get (C := R_Ac) (T := F_Ac) (N := 8) (j := 2) in_Ac rfl (by decide) mw_392 d_Ac_openWay_142))) (os_n (os_l (so_callV (iv := mi_Sf_isSafe) rfl rfl rfl mw_1243 mw_1093 mw_1094 mw_8 mw_1095 ⟨by decide +kernel, by decide +kernel, by decide +kernel⟩ (by decide) d_Ac_openWay_145)) (os_n (os_l (so_ifeq d_Ac_openWay_148 (by decide))) (os_l (so_iconst d_Ac_openWay_151 (by decide)))))) (os_n (os_n (os_l (so_ireturn rfl d_Ac_openWay_152)) (os_n (os_l (so_aload_n d_Ac_openWay_153 rfl)) (os_l (so_get (C := R_Ac) (T := F_Ac) (N := 8) (j := 1) in_Ac rfl (by decide) mw_391 d_Ac_openWay_154)))) (os_n (os_l (so_callV (iv := mi_Wa_undoOpening) rfl rfl rfl mw_1244 mw_1245 mw_1246 mw_7 mw_1247 ⟨by decide +kernel, by decide +kernel, by decide +kernel⟩ (by decide) d_Ac_openWay_157)) (os_n (os_l (so_bipush d_Ac_openWay_160 (by decide))) (os_l (so_ireturn rfl d_Ac_openWay_162)))))))))
abbrev t_Ac_closeWay_25 : List UInt8 := 172 :: []
abbrev t_Ac_closeWay_24 : List UInt8 := 3 :: t_Ac_closeWay_25
abbrev t_Ac_closeWay_21 : List UInt8 := 182 :: 0 :: 132 :: t_Ac_closeWay_24
abbrev t_Ac_closeWay_20 : List UInt8 := 29 :: t_Ac_closeWay_21
abbrev t_Ac_closeWay_17 : List UInt8 := 180 :: 0 :: 35 :: t_Ac_closeWay_20
abbrev t_Ac_closeWay_16 : List UInt8 := 42 :: t_Ac_closeWay_17
abbrev t_Ac_closeWay_15 : List UInt8 := 172 :: t_Ac_closeWay_16
abbrev t_Ac_closeWay_14 : List UInt8 := 6 :: t_Ac_closeWay_15
abbrev t_Ac_closeWay_11 : List UInt8 := 156 :: 0 :: 5 :: t_Ac_closeWay_14
abbrev t_Ac_closeWay_10 : List UInt8 := 29 :: t_Ac_closeWay_11
abbrev t_Ac_closeWay_9 : List UInt8 := 62 :: t_Ac_closeWay_10
abbrev t_Ac_closeWay_6 : List UInt8 := 182 :: 0 :: 88 :: t_Ac_closeWay_9
abbrev t_Ac_closeWay_5 : List UInt8 := 28 :: t_Ac_closeWay_6
abbrev t_Ac_closeWay_4 : List UInt8 := 27 :: t_Ac_closeWay_5
abbrev t_Ac_closeWay_1 : List UInt8 := 180 :: 0 :: 35 :: t_Ac_closeWay_4
abbrev t_Ac_closeWay_0 : List UInt8 := 42 :: t_Ac_closeWay_1
theorem a_Ac_closeWay_0 : dk_at b_Ac_closeWay 0 t_Ac_closeWay_0 := dk_start (by decide +kernel)
theorem a_Ac_closeWay_1 : dk_at b_Ac_closeWay 1 t_Ac_closeWay_1 := dk_go 1 a_Ac_closeWay_0 rfl
theorem a_Ac_closeWay_4 : dk_at b_Ac_closeWay 4 t_Ac_closeWay_4 := dk_go 3 a_Ac_closeWay_1 rfl
theorem a_Ac_closeWay_5 : dk_at b_Ac_closeWay 5 t_Ac_closeWay_5 := dk_go 1 a_Ac_closeWay_4 rfl
theorem a_Ac_closeWay_6 : dk_at b_Ac_closeWay 6 t_Ac_closeWay_6 := dk_go 1 a_Ac_closeWay_5 rfl
theorem a_Ac_closeWay_9 : dk_at b_Ac_closeWay 9 t_Ac_closeWay_9 := dk_go 3 a_Ac_closeWay_6 rfl
theorem a_Ac_closeWay_10 : dk_at b_Ac_closeWay 10 t_Ac_closeWay_10 := dk_go 1 a_Ac_closeWay_9 rfl
theorem a_Ac_closeWay_11 : dk_at b_Ac_closeWay 11 t_Ac_closeWay_11 := dk_go 1 a_Ac_closeWay_10 rfl
theorem a_Ac_closeWay_14 : dk_at b_Ac_closeWay 14 t_Ac_closeWay_14 := dk_go 3 a_Ac_closeWay_11 rfl
theorem a_Ac_closeWay_15 : dk_at b_Ac_closeWay 15 t_Ac_closeWay_15 := dk_go 1 a_Ac_closeWay_14 rfl
theorem a_Ac_closeWay_16 : dk_at b_Ac_closeWay 16 t_Ac_closeWay_16 := dk_go 1 a_Ac_closeWay_15 rfl
theorem a_Ac_closeWay_17 : dk_at b_Ac_closeWay 17 t_Ac_closeWay_17 := dk_go 1 a_Ac_closeWay_16 rfl
theorem a_Ac_closeWay_20 : dk_at b_Ac_closeWay 20 t_Ac_closeWay_20 := dk_go 3 a_Ac_closeWay_17 rfl
theorem a_Ac_closeWay_21 : dk_at b_Ac_closeWay 21 t_Ac_closeWay_21 := dk_go 1 a_Ac_closeWay_20 rfl
theorem a_Ac_closeWay_24 : dk_at b_Ac_closeWay 24 t_Ac_closeWay_24 := dk_go 3 a_Ac_closeWay_21 rfl
theorem a_Ac_closeWay_25 : dk_at b_Ac_closeWay 25 t_Ac_closeWay_25 := dk_go 1 a_Ac_closeWay_24 rfl
theorem d_Ac_closeWay_0 : decode b_Ac_closeWay 0 = .ok (.aload_n 0, 1) := dk_0 a_Ac_closeWay_0 (dko_42 _)
theorem d_Ac_closeWay_1 : decode b_Ac_closeWay 1 = .ok (.getfield 35, 3) := dk_U2 a_Ac_closeWay_1 (dko_180 _) rfl
theorem d_Ac_closeWay_4 : decode b_Ac_closeWay 4 = .ok (.iload_n 1, 1) := dk_0 a_Ac_closeWay_4 (dko_27 _)
theorem d_Ac_closeWay_5 : decode b_Ac_closeWay 5 = .ok (.iload_n 2, 1) := dk_0 a_Ac_closeWay_5 (dko_28 _)
theorem d_Ac_closeWay_6 : decode b_Ac_closeWay 6 = .ok (.invokevirtual 88, 3) := dk_U2 a_Ac_closeWay_6 (dko_182 _) rfl
theorem d_Ac_closeWay_9 : decode b_Ac_closeWay 9 = .ok (.istore_n 3, 1) := dk_0 a_Ac_closeWay_9 (dko_62 _)
theorem d_Ac_closeWay_10 : decode b_Ac_closeWay 10 = .ok (.iload_n 3, 1) := dk_0 a_Ac_closeWay_10 (dko_29 _)
theorem d_Ac_closeWay_11 : decode b_Ac_closeWay 11 = .ok (.ifCond .ge 5, 3) := dk_S2 a_Ac_closeWay_11 (dko_156 _) (by decide +kernel)
theorem d_Ac_closeWay_14 : decode b_Ac_closeWay 14 = .ok (.iconst 3, 1) := dk_0 a_Ac_closeWay_14 (dko_6 _)
theorem d_Ac_closeWay_15 : decode b_Ac_closeWay 15 = .ok (.ireturn, 1) := dk_0 a_Ac_closeWay_15 (dko_172 _)
theorem d_Ac_closeWay_16 : decode b_Ac_closeWay 16 = .ok (.aload_n 0, 1) := dk_0 a_Ac_closeWay_16 (dko_42 _)
theorem d_Ac_closeWay_17 : decode b_Ac_closeWay 17 = .ok (.getfield 35, 3) := dk_U2 a_Ac_closeWay_17 (dko_180 _) rfl
theorem d_Ac_closeWay_20 : decode b_Ac_closeWay 20 = .ok (.iload_n 3, 1) := dk_0 a_Ac_closeWay_20 (dko_29 _)
theorem d_Ac_closeWay_21 : decode b_Ac_closeWay 21 = .ok (.invokevirtual 132, 3) := dk_U2 a_Ac_closeWay_21 (dko_182 _) rfl
theorem d_Ac_closeWay_24 : decode b_Ac_closeWay 24 = .ok (.iconst 0, 1) := dk_0 a_Ac_closeWay_24 (dko_3 _)
theorem d_Ac_closeWay_25 : decode b_Ac_closeWay 25 = .ok (.ireturn, 1) := dk_0 a_Ac_closeWay_25 (dko_172 _)
set_option maxHeartbeats 4000000 in
set_option maxRecDepth 100000 in
theorem ok_Ac_closeWay (pc : Nat) : OpS mt mi_Ac_closeWay pc (cs_Ac_closeWay pc) := (os_n (os_n (os_n (os_n (os_l (so_aload_n d_Ac_closeWay_0 rfl)) (os_l (so_get (C := R_Ac) (T := F_Ac) (N := 8) (j := 1) in_Ac rfl (by decide) mw_391 d_Ac_closeWay_1))) (os_n (os_l (so_iload_n d_Ac_closeWay_4 rfl)) (os_l (so_iload_n d_Ac_closeWay_5 rfl)))) (os_n (os_n (os_l (so_callV (iv := mi_Wa_indexOf) rfl rfl rfl mw_1221 mw_1222 mw_1223 mw_7 mw_1224 ⟨by decide +kernel, by decide +kernel, by decide +kernel⟩ (by decide) d_Ac_closeWay_6)) (os_l (so_istore_n d_Ac_closeWay_9 rfl (by decide)))) (os_n (os_l (so_iload_n d_Ac_closeWay_10 rfl)) (os_l (so_ifge d_Ac_closeWay_11 (by decide)))))) (os_n (os_n (os_n (os_l (so_iconst d_Ac_closeWay_14 (by decide))) (os_l (so_ireturn rfl d_Ac_closeWay_15))) (os_n (os_l (so_aload_n d_Ac_closeWay_16 rfl)) (os_l (so_get (C := R_Ac) (T := F_Ac) (N := 8) (j := 1) in_Ac rfl (by decide) mw_391 d_Ac_closeWay_17)))) (os_n (os_n (os_l (so_iload_n d_Ac_closeWay_20 rfl)) (os_l (so_callV (iv := mi_Wa_closeOne) rfl rfl rfl mw_1252 mw_1253 mw_1254 mw_7 mw_1255 ⟨by decide +kernel, by decide +kernel, by decide +kernel⟩ (by decide) d_Ac_closeWay_21))) (os_n (os_l (so_iconst d_Ac_closeWay_24 (by decide))) (os_l (so_ireturn rfl d_Ac_closeWay_25))))))
abbrev t_Ac_setPosition_57 : List UInt8 := 172 :: []
abbrev t_Ac_setPosition_55 : List UInt8 := 16 :: 7 :: t_Ac_setPosition_57
abbrev t_Ac_setPosition_54 : List UInt8 := 79 :: t_Ac_setPosition_55
abbrev t_Ac_setPosition_53 : List UInt8 := 29 :: t_Ac_setPosition_54
abbrev t_Ac_setPosition_52 : List UInt8 := 27 :: t_Ac_setPosition_53
abbrev t_Ac_setPosition_49 : List UInt8 := 180 :: 0 :: 139 :: t_Ac_setPosition_52
abbrev t_Ac_setPosition_46 : List UInt8 := 180 :: 0 :: 31 :: t_Ac_setPosition_49
abbrev t_Ac_setPosition_45 : List UInt8 := 42 :: t_Ac_setPosition_46
abbrev t_Ac_setPosition_44 : List UInt8 := 172 :: t_Ac_setPosition_45
abbrev t_Ac_setPosition_43 : List UInt8 := 3 :: t_Ac_setPosition_44
abbrev t_Ac_setPosition_40 : List UInt8 := 153 :: 0 :: 5 :: t_Ac_setPosition_43
abbrev t_Ac_setPosition_37 : List UInt8 := 182 :: 0 :: 123 :: t_Ac_setPosition_40
abbrev t_Ac_setPosition_34 : List UInt8 := 180 :: 0 :: 39 :: t_Ac_setPosition_37
abbrev t_Ac_setPosition_33 : List UInt8 := 42 :: t_Ac_setPosition_34
abbrev t_Ac_setPosition_32 : List UInt8 := 79 :: t_Ac_setPosition_33
abbrev t_Ac_setPosition_31 : List UInt8 := 28 :: t_Ac_setPosition_32
abbrev t_Ac_setPosition_30 : List UInt8 := 27 :: t_Ac_setPosition_31
abbrev t_Ac_setPosition_27 : List UInt8 := 180 :: 0 :: 139 :: t_Ac_setPosition_30
abbrev t_Ac_setPosition_24 : List UInt8 := 180 :: 0 :: 31 :: t_Ac_setPosition_27
abbrev t_Ac_setPosition_23 : List UInt8 := 42 :: t_Ac_setPosition_24
abbrev t_Ac_setPosition_22 : List UInt8 := 62 :: t_Ac_setPosition_23
abbrev t_Ac_setPosition_21 : List UInt8 := 46 :: t_Ac_setPosition_22
abbrev t_Ac_setPosition_20 : List UInt8 := 27 :: t_Ac_setPosition_21
abbrev t_Ac_setPosition_17 : List UInt8 := 180 :: 0 :: 139 :: t_Ac_setPosition_20
abbrev t_Ac_setPosition_14 : List UInt8 := 180 :: 0 :: 31 :: t_Ac_setPosition_17
abbrev t_Ac_setPosition_13 : List UInt8 := 42 :: t_Ac_setPosition_14
abbrev t_Ac_setPosition_12 : List UInt8 := 172 :: t_Ac_setPosition_13
abbrev t_Ac_setPosition_11 : List UInt8 := 6 :: t_Ac_setPosition_12
abbrev t_Ac_setPosition_8 : List UInt8 := 153 :: 0 :: 5 :: t_Ac_setPosition_11
abbrev t_Ac_setPosition_5 : List UInt8 := 182 :: 0 :: 136 :: t_Ac_setPosition_8
abbrev t_Ac_setPosition_4 : List UInt8 := 27 :: t_Ac_setPosition_5
abbrev t_Ac_setPosition_1 : List UInt8 := 180 :: 0 :: 35 :: t_Ac_setPosition_4
abbrev t_Ac_setPosition_0 : List UInt8 := 42 :: t_Ac_setPosition_1
theorem a_Ac_setPosition_0 : dk_at b_Ac_setPosition 0 t_Ac_setPosition_0 := dk_start (by decide +kernel)
theorem a_Ac_setPosition_1 : dk_at b_Ac_setPosition 1 t_Ac_setPosition_1 := dk_go 1 a_Ac_setPosition_0 rfl
theorem a_Ac_setPosition_4 : dk_at b_Ac_setPosition 4 t_Ac_setPosition_4 := dk_go 3 a_Ac_setPosition_1 rfl
theorem a_Ac_setPosition_5 : dk_at b_Ac_setPosition 5 t_Ac_setPosition_5 := dk_go 1 a_Ac_setPosition_4 rfl
theorem a_Ac_setPosition_8 : dk_at b_Ac_setPosition 8 t_Ac_setPosition_8 := dk_go 3 a_Ac_setPosition_5 rfl
theorem a_Ac_setPosition_11 : dk_at b_Ac_setPosition 11 t_Ac_setPosition_11 := dk_go 3 a_Ac_setPosition_8 rfl
theorem a_Ac_setPosition_12 : dk_at b_Ac_setPosition 12 t_Ac_setPosition_12 := dk_go 1 a_Ac_setPosition_11 rfl
theorem a_Ac_setPosition_13 : dk_at b_Ac_setPosition 13 t_Ac_setPosition_13 := dk_go 1 a_Ac_setPosition_12 rfl
theorem a_Ac_setPosition_14 : dk_at b_Ac_setPosition 14 t_Ac_setPosition_14 := dk_go 1 a_Ac_setPosition_13 rfl
theorem a_Ac_setPosition_17 : dk_at b_Ac_setPosition 17 t_Ac_setPosition_17 := dk_go 3 a_Ac_setPosition_14 rfl
theorem a_Ac_setPosition_20 : dk_at b_Ac_setPosition 20 t_Ac_setPosition_20 := dk_go 3 a_Ac_setPosition_17 rfl
theorem a_Ac_setPosition_21 : dk_at b_Ac_setPosition 21 t_Ac_setPosition_21 := dk_go 1 a_Ac_setPosition_20 rfl
theorem a_Ac_setPosition_22 : dk_at b_Ac_setPosition 22 t_Ac_setPosition_22 := dk_go 1 a_Ac_setPosition_21 rfl
theorem a_Ac_setPosition_23 : dk_at b_Ac_setPosition 23 t_Ac_setPosition_23 := dk_go 1 a_Ac_setPosition_22 rfl
theorem a_Ac_setPosition_24 : dk_at b_Ac_setPosition 24 t_Ac_setPosition_24 := dk_go 1 a_Ac_setPosition_23 rfl
theorem a_Ac_setPosition_27 : dk_at b_Ac_setPosition 27 t_Ac_setPosition_27 := dk_go 3 a_Ac_setPosition_24 rfl
theorem a_Ac_setPosition_30 : dk_at b_Ac_setPosition 30 t_Ac_setPosition_30 := dk_go 3 a_Ac_setPosition_27 rfl
theorem a_Ac_setPosition_31 : dk_at b_Ac_setPosition 31 t_Ac_setPosition_31 := dk_go 1 a_Ac_setPosition_30 rfl
theorem a_Ac_setPosition_32 : dk_at b_Ac_setPosition 32 t_Ac_setPosition_32 := dk_go 1 a_Ac_setPosition_31 rfl
theorem a_Ac_setPosition_33 : dk_at b_Ac_setPosition 33 t_Ac_setPosition_33 := dk_go 1 a_Ac_setPosition_32 rfl
theorem a_Ac_setPosition_34 : dk_at b_Ac_setPosition 34 t_Ac_setPosition_34 := dk_go 1 a_Ac_setPosition_33 rfl
theorem a_Ac_setPosition_37 : dk_at b_Ac_setPosition 37 t_Ac_setPosition_37 := dk_go 3 a_Ac_setPosition_34 rfl
theorem a_Ac_setPosition_40 : dk_at b_Ac_setPosition 40 t_Ac_setPosition_40 := dk_go 3 a_Ac_setPosition_37 rfl
theorem a_Ac_setPosition_43 : dk_at b_Ac_setPosition 43 t_Ac_setPosition_43 := dk_go 3 a_Ac_setPosition_40 rfl
theorem a_Ac_setPosition_44 : dk_at b_Ac_setPosition 44 t_Ac_setPosition_44 := dk_go 1 a_Ac_setPosition_43 rfl
theorem a_Ac_setPosition_45 : dk_at b_Ac_setPosition 45 t_Ac_setPosition_45 := dk_go 1 a_Ac_setPosition_44 rfl
theorem a_Ac_setPosition_46 : dk_at b_Ac_setPosition 46 t_Ac_setPosition_46 := dk_go 1 a_Ac_setPosition_45 rfl
theorem a_Ac_setPosition_49 : dk_at b_Ac_setPosition 49 t_Ac_setPosition_49 := dk_go 3 a_Ac_setPosition_46 rfl
theorem a_Ac_setPosition_52 : dk_at b_Ac_setPosition 52 t_Ac_setPosition_52 := dk_go 3 a_Ac_setPosition_49 rfl
theorem a_Ac_setPosition_53 : dk_at b_Ac_setPosition 53 t_Ac_setPosition_53 := dk_go 1 a_Ac_setPosition_52 rfl
theorem a_Ac_setPosition_54 : dk_at b_Ac_setPosition 54 t_Ac_setPosition_54 := dk_go 1 a_Ac_setPosition_53 rfl
theorem a_Ac_setPosition_55 : dk_at b_Ac_setPosition 55 t_Ac_setPosition_55 := dk_go 1 a_Ac_setPosition_54 rfl
theorem a_Ac_setPosition_57 : dk_at b_Ac_setPosition 57 t_Ac_setPosition_57 := dk_go 2 a_Ac_setPosition_55 rfl
theorem d_Ac_setPosition_0 : decode b_Ac_setPosition 0 = .ok (.aload_n 0, 1) := dk_0 a_Ac_setPosition_0 (dko_42 _)
theorem d_Ac_setPosition_1 : decode b_Ac_setPosition 1 = .ok (.getfield 35, 3) := dk_U2 a_Ac_setPosition_1 (dko_180 _) rfl
theorem d_Ac_setPosition_4 : decode b_Ac_setPosition 4 = .ok (.iload_n 1, 1) := dk_0 a_Ac_setPosition_4 (dko_27 _)
theorem d_Ac_setPosition_5 : decode b_Ac_setPosition 5 = .ok (.invokevirtual 136, 3) := dk_U2 a_Ac_setPosition_5 (dko_182 _) rfl
theorem d_Ac_setPosition_8 : decode b_Ac_setPosition 8 = .ok (.ifCond .eq 5, 3) := dk_S2 a_Ac_setPosition_8 (dko_153 _) (by decide +kernel)
theorem d_Ac_setPosition_11 : decode b_Ac_setPosition 11 = .ok (.iconst 3, 1) := dk_0 a_Ac_setPosition_11 (dko_6 _)
theorem d_Ac_setPosition_12 : decode b_Ac_setPosition 12 = .ok (.ireturn, 1) := dk_0 a_Ac_setPosition_12 (dko_172 _)
theorem d_Ac_setPosition_13 : decode b_Ac_setPosition 13 = .ok (.aload_n 0, 1) := dk_0 a_Ac_setPosition_13 (dko_42 _)
theorem d_Ac_setPosition_14 : decode b_Ac_setPosition 14 = .ok (.getfield 31, 3) := dk_U2 a_Ac_setPosition_14 (dko_180 _) rfl
theorem d_Ac_setPosition_17 : decode b_Ac_setPosition 17 = .ok (.getfield 139, 3) := dk_U2 a_Ac_setPosition_17 (dko_180 _) rfl
theorem d_Ac_setPosition_20 : decode b_Ac_setPosition 20 = .ok (.iload_n 1, 1) := dk_0 a_Ac_setPosition_20 (dko_27 _)
theorem d_Ac_setPosition_21 : decode b_Ac_setPosition 21 = .ok (.iaload, 1) := dk_0 a_Ac_setPosition_21 (dko_46 _)
theorem d_Ac_setPosition_22 : decode b_Ac_setPosition 22 = .ok (.istore_n 3, 1) := dk_0 a_Ac_setPosition_22 (dko_62 _)
theorem d_Ac_setPosition_23 : decode b_Ac_setPosition 23 = .ok (.aload_n 0, 1) := dk_0 a_Ac_setPosition_23 (dko_42 _)
theorem d_Ac_setPosition_24 : decode b_Ac_setPosition 24 = .ok (.getfield 31, 3) := dk_U2 a_Ac_setPosition_24 (dko_180 _) rfl
theorem d_Ac_setPosition_27 : decode b_Ac_setPosition 27 = .ok (.getfield 139, 3) := dk_U2 a_Ac_setPosition_27 (dko_180 _) rfl
theorem d_Ac_setPosition_30 : decode b_Ac_setPosition 30 = .ok (.iload_n 1, 1) := dk_0 a_Ac_setPosition_30 (dko_27 _)
theorem d_Ac_setPosition_31 : decode b_Ac_setPosition 31 = .ok (.iload_n 2, 1) := dk_0 a_Ac_setPosition_31 (dko_28 _)
theorem d_Ac_setPosition_32 : decode b_Ac_setPosition 32 = .ok (.iastore, 1) := dk_0 a_Ac_setPosition_32 (dko_79 _)
theorem d_Ac_setPosition_33 : decode b_Ac_setPosition 33 = .ok (.aload_n 0, 1) := dk_0 a_Ac_setPosition_33 (dko_42 _)
theorem d_Ac_setPosition_34 : decode b_Ac_setPosition 34 = .ok (.getfield 39, 3) := dk_U2 a_Ac_setPosition_34 (dko_180 _) rfl
theorem d_Ac_setPosition_37 : decode b_Ac_setPosition 37 = .ok (.invokevirtual 123, 3) := dk_U2 a_Ac_setPosition_37 (dko_182 _) rfl
theorem d_Ac_setPosition_40 : decode b_Ac_setPosition 40 = .ok (.ifCond .eq 5, 3) := dk_S2 a_Ac_setPosition_40 (dko_153 _) (by decide +kernel)
theorem d_Ac_setPosition_43 : decode b_Ac_setPosition 43 = .ok (.iconst 0, 1) := dk_0 a_Ac_setPosition_43 (dko_3 _)
theorem d_Ac_setPosition_44 : decode b_Ac_setPosition 44 = .ok (.ireturn, 1) := dk_0 a_Ac_setPosition_44 (dko_172 _)
theorem d_Ac_setPosition_45 : decode b_Ac_setPosition 45 = .ok (.aload_n 0, 1) := dk_0 a_Ac_setPosition_45 (dko_42 _)
theorem d_Ac_setPosition_46 : decode b_Ac_setPosition 46 = .ok (.getfield 31, 3) := dk_U2 a_Ac_setPosition_46 (dko_180 _) rfl
theorem d_Ac_setPosition_49 : decode b_Ac_setPosition 49 = .ok (.getfield 139, 3) := dk_U2 a_Ac_setPosition_49 (dko_180 _) rfl
theorem d_Ac_setPosition_52 : decode b_Ac_setPosition 52 = .ok (.iload_n 1, 1) := dk_0 a_Ac_setPosition_52 (dko_27 _)
theorem d_Ac_setPosition_53 : decode b_Ac_setPosition 53 = .ok (.iload_n 3, 1) := dk_0 a_Ac_setPosition_53 (dko_29 _)
theorem d_Ac_setPosition_54 : decode b_Ac_setPosition 54 = .ok (.iastore, 1) := dk_0 a_Ac_setPosition_54 (dko_79 _)
theorem d_Ac_setPosition_55 : decode b_Ac_setPosition 55 = .ok (.bipush 7, 2) := dk_S1 a_Ac_setPosition_55 (dko_16 _) (by decide +kernel)
theorem d_Ac_setPosition_57 : decode b_Ac_setPosition 57 = .ok (.ireturn, 1) := dk_0 a_Ac_setPosition_57 (dko_172 _)
set_option maxHeartbeats 4000000 in
set_option maxRecDepth 100000 in
theorem ok_Ac_setPosition (pc : Nat) : OpS mt mi_Ac_setPosition pc (cs_Ac_setPosition pc) := (os_n (os_n (os_n (os_n (os_n (os_l (so_aload_n d_Ac_setPosition_0 rfl)) (os_l (so_get (C := R_Ac) (T := F_Ac) (N := 8) (j := 1) in_Ac rfl (by decide) mw_391 d_Ac_setPosition_1))) (os_n (os_l (so_iload_n d_Ac_setPosition_4 rfl)) (os_l (so_callV (iv := mi_Wa_goesOver) rfl rfl rfl mw_1260 mw_1261 mw_1262 mw_7 mw_1263 ⟨by decide +kernel, by decide +kernel, by decide +kernel⟩ (by decide) d_Ac_setPosition_5)))) (os_n (os_n (os_l (so_ifeq d_Ac_setPosition_8 (by decide))) (os_l (so_iconst d_Ac_setPosition_11 (by decide)))) (os_n (os_l (so_ireturn rfl d_Ac_setPosition_12)) (os_l (so_aload_n d_Ac_setPosition_13 rfl))))) (os_n (os_n (os_n (os_l (so_get (C := R_Ac) (T := F_Ac) (N := 8) (j := 0) in_Ac rfl (by decide) mw_390 d_Ac_setPosition_14)) (os_l (so_get (C := R_St) (T := F_St) (N := 12) (j := 2) in_St rfl (by decide) mw_159 d_Ac_setPosition_17))) (os_n (os_l (so_iload_n d_Ac_setPosition_20 rfl)) (os_l (so_iaload d_Ac_setPosition_21)))) (os_n (os_n (os_l (so_istore_n d_Ac_setPosition_22 rfl (by decide))) (os_l (so_aload_n d_Ac_setPosition_23 rfl))) (os_n (os_l (so_get (C := R_Ac) (T := F_Ac) (N := 8) (j := 0) in_Ac rfl (by decide) mw_390 d_Ac_setPosition_24)) (os_l (so_get (C := R_St) (T := F_St) (N := 12) (j := 2) in_St rfl (by decide) mw_159 d_Ac_setPosition_27)))))) (os_n (os_n (os_n (os_n (os_l (so_iload_n d_Ac_setPosition_30 rfl)) (os_l (so_iload_n d_Ac_setPosition_31 rfl))) (os_n (os_l (so_iastore d_Ac_setPosition_32)) (os_l (so_aload_n d_Ac_setPosition_33 rfl)))) (os_n (os_n (os_l (so_get (C := R_Ac) (T := F_Ac) (N := 8) (j := 2) in_Ac rfl (by decide) mw_392 d_Ac_setPosition_34)) (os_l (so_callV (iv := mi_Sf_isSafe) rfl rfl rfl mw_1243 mw_1093 mw_1094 mw_8 mw_1095 ⟨by decide +kernel, by decide +kernel, by decide +kernel⟩ (by decide) d_Ac_setPosition_37))) (os_n (os_l (so_ifeq d_Ac_setPosition_40 (by decide))) (os_l (so_iconst d_Ac_setPosition_43 (by decide)))))) (os_n (os_n (os_n (os_l (so_ireturn rfl d_Ac_setPosition_44)) (os_l (so_aload_n d_Ac_setPosition_45 rfl))) (os_n (os_l (so_get (C := R_Ac) (T := F_Ac) (N := 8) (j := 0) in_Ac rfl (by decide) mw_390 d_Ac_setPosition_46)) (os_l (so_get (C := R_St) (T := F_St) (N := 12) (j := 2) in_St rfl (by decide) mw_159 d_Ac_setPosition_49)))) (os_n (os_n (os_l (so_iload_n d_Ac_setPosition_52 rfl)) (os_l (so_iload_n d_Ac_setPosition_53 rfl))) (os_n (os_l (so_iastore d_Ac_setPosition_54)) (os_n (os_l (so_bipush d_Ac_setPosition_55 (by decide))) (os_l (so_ireturn rfl d_Ac_setPosition_57))))))))
abbrev t_Ac_cleanSpace_35 : List UInt8 := 172 :: []
abbrev t_Ac_cleanSpace_34 : List UInt8 := 3 :: t_Ac_cleanSpace_35
abbrev t_Ac_cleanSpace_31 : List UInt8 := 182 :: 0 :: 145 :: t_Ac_cleanSpace_34
abbrev t_Ac_cleanSpace_30 : List UInt8 := 28 :: t_Ac_cleanSpace_31
abbrev t_Ac_cleanSpace_29 : List UInt8 := 27 :: t_Ac_cleanSpace_30
abbrev t_Ac_cleanSpace_26 : List UInt8 := 180 :: 0 :: 31 :: t_Ac_cleanSpace_29
abbrev t_Ac_cleanSpace_25 : List UInt8 := 42 :: t_Ac_cleanSpace_26
abbrev t_Ac_cleanSpace_24 : List UInt8 := 172 :: t_Ac_cleanSpace_25
abbrev t_Ac_cleanSpace_23 : List UInt8 := 6 :: t_Ac_cleanSpace_24
abbrev t_Ac_cleanSpace_20 : List UInt8 := 153 :: 0 :: 5 :: t_Ac_cleanSpace_23
abbrev t_Ac_cleanSpace_17 : List UInt8 := 182 :: 0 :: 142 :: t_Ac_cleanSpace_20
abbrev t_Ac_cleanSpace_16 : List UInt8 := 27 :: t_Ac_cleanSpace_17
abbrev t_Ac_cleanSpace_13 : List UInt8 := 180 :: 0 :: 35 :: t_Ac_cleanSpace_16
abbrev t_Ac_cleanSpace_12 : List UInt8 := 42 :: t_Ac_cleanSpace_13
abbrev t_Ac_cleanSpace_9 : List UInt8 := 154 :: 0 :: 14 :: t_Ac_cleanSpace_12
abbrev t_Ac_cleanSpace_8 : List UInt8 := 46 :: t_Ac_cleanSpace_9
abbrev t_Ac_cleanSpace_7 : List UInt8 := 27 :: t_Ac_cleanSpace_8
abbrev t_Ac_cleanSpace_4 : List UInt8 := 180 :: 0 :: 93 :: t_Ac_cleanSpace_7
abbrev t_Ac_cleanSpace_1 : List UInt8 := 180 :: 0 :: 31 :: t_Ac_cleanSpace_4
abbrev t_Ac_cleanSpace_0 : List UInt8 := 42 :: t_Ac_cleanSpace_1
theorem a_Ac_cleanSpace_0 : dk_at b_Ac_cleanSpace 0 t_Ac_cleanSpace_0 := dk_start (by decide +kernel)
theorem a_Ac_cleanSpace_1 : dk_at b_Ac_cleanSpace 1 t_Ac_cleanSpace_1 := dk_go 1 a_Ac_cleanSpace_0 rfl
theorem a_Ac_cleanSpace_4 : dk_at b_Ac_cleanSpace 4 t_Ac_cleanSpace_4 := dk_go 3 a_Ac_cleanSpace_1 rfl
theorem a_Ac_cleanSpace_7 : dk_at b_Ac_cleanSpace 7 t_Ac_cleanSpace_7 := dk_go 3 a_Ac_cleanSpace_4 rfl
theorem a_Ac_cleanSpace_8 : dk_at b_Ac_cleanSpace 8 t_Ac_cleanSpace_8 := dk_go 1 a_Ac_cleanSpace_7 rfl
theorem a_Ac_cleanSpace_9 : dk_at b_Ac_cleanSpace 9 t_Ac_cleanSpace_9 := dk_go 1 a_Ac_cleanSpace_8 rfl
theorem a_Ac_cleanSpace_12 : dk_at b_Ac_cleanSpace 12 t_Ac_cleanSpace_12 := dk_go 3 a_Ac_cleanSpace_9 rfl
theorem a_Ac_cleanSpace_13 : dk_at b_Ac_cleanSpace 13 t_Ac_cleanSpace_13 := dk_go 1 a_Ac_cleanSpace_12 rfl
theorem a_Ac_cleanSpace_16 : dk_at b_Ac_cleanSpace 16 t_Ac_cleanSpace_16 := dk_go 3 a_Ac_cleanSpace_13 rfl
theorem a_Ac_cleanSpace_17 : dk_at b_Ac_cleanSpace 17 t_Ac_cleanSpace_17 := dk_go 1 a_Ac_cleanSpace_16 rfl
theorem a_Ac_cleanSpace_20 : dk_at b_Ac_cleanSpace 20 t_Ac_cleanSpace_20 := dk_go 3 a_Ac_cleanSpace_17 rfl
theorem a_Ac_cleanSpace_23 : dk_at b_Ac_cleanSpace 23 t_Ac_cleanSpace_23 := dk_go 3 a_Ac_cleanSpace_20 rfl
theorem a_Ac_cleanSpace_24 : dk_at b_Ac_cleanSpace 24 t_Ac_cleanSpace_24 := dk_go 1 a_Ac_cleanSpace_23 rfl
theorem a_Ac_cleanSpace_25 : dk_at b_Ac_cleanSpace 25 t_Ac_cleanSpace_25 := dk_go 1 a_Ac_cleanSpace_24 rfl
theorem a_Ac_cleanSpace_26 : dk_at b_Ac_cleanSpace 26 t_Ac_cleanSpace_26 := dk_go 1 a_Ac_cleanSpace_25 rfl
theorem a_Ac_cleanSpace_29 : dk_at b_Ac_cleanSpace 29 t_Ac_cleanSpace_29 := dk_go 3 a_Ac_cleanSpace_26 rfl
theorem a_Ac_cleanSpace_30 : dk_at b_Ac_cleanSpace 30 t_Ac_cleanSpace_30 := dk_go 1 a_Ac_cleanSpace_29 rfl
theorem a_Ac_cleanSpace_31 : dk_at b_Ac_cleanSpace 31 t_Ac_cleanSpace_31 := dk_go 1 a_Ac_cleanSpace_30 rfl
theorem a_Ac_cleanSpace_34 : dk_at b_Ac_cleanSpace 34 t_Ac_cleanSpace_34 := dk_go 3 a_Ac_cleanSpace_31 rfl
theorem a_Ac_cleanSpace_35 : dk_at b_Ac_cleanSpace 35 t_Ac_cleanSpace_35 := dk_go 1 a_Ac_cleanSpace_34 rfl
theorem d_Ac_cleanSpace_0 : decode b_Ac_cleanSpace 0 = .ok (.aload_n 0, 1) := dk_0 a_Ac_cleanSpace_0 (dko_42 _)
theorem d_Ac_cleanSpace_1 : decode b_Ac_cleanSpace 1 = .ok (.getfield 31, 3) := dk_U2 a_Ac_cleanSpace_1 (dko_180 _) rfl
theorem d_Ac_cleanSpace_4 : decode b_Ac_cleanSpace 4 = .ok (.getfield 93, 3) := dk_U2 a_Ac_cleanSpace_4 (dko_180 _) rfl
theorem d_Ac_cleanSpace_7 : decode b_Ac_cleanSpace 7 = .ok (.iload_n 1, 1) := dk_0 a_Ac_cleanSpace_7 (dko_27 _)
theorem d_Ac_cleanSpace_8 : decode b_Ac_cleanSpace 8 = .ok (.iaload, 1) := dk_0 a_Ac_cleanSpace_8 (dko_46 _)
theorem d_Ac_cleanSpace_9 : decode b_Ac_cleanSpace 9 = .ok (.ifCond .ne 14, 3) := dk_S2 a_Ac_cleanSpace_9 (dko_154 _) (by decide +kernel)
theorem d_Ac_cleanSpace_12 : decode b_Ac_cleanSpace 12 = .ok (.aload_n 0, 1) := dk_0 a_Ac_cleanSpace_12 (dko_42 _)
theorem d_Ac_cleanSpace_13 : decode b_Ac_cleanSpace 13 = .ok (.getfield 35, 3) := dk_U2 a_Ac_cleanSpace_13 (dko_180 _) rfl
theorem d_Ac_cleanSpace_16 : decode b_Ac_cleanSpace 16 = .ok (.iload_n 1, 1) := dk_0 a_Ac_cleanSpace_16 (dko_27 _)
theorem d_Ac_cleanSpace_17 : decode b_Ac_cleanSpace 17 = .ok (.invokevirtual 142, 3) := dk_U2 a_Ac_cleanSpace_17 (dko_182 _) rfl
theorem d_Ac_cleanSpace_20 : decode b_Ac_cleanSpace 20 = .ok (.ifCond .eq 5, 3) := dk_S2 a_Ac_cleanSpace_20 (dko_153 _) (by decide +kernel)
theorem d_Ac_cleanSpace_23 : decode b_Ac_cleanSpace 23 = .ok (.iconst 3, 1) := dk_0 a_Ac_cleanSpace_23 (dko_6 _)
theorem d_Ac_cleanSpace_24 : decode b_Ac_cleanSpace 24 = .ok (.ireturn, 1) := dk_0 a_Ac_cleanSpace_24 (dko_172 _)
theorem d_Ac_cleanSpace_25 : decode b_Ac_cleanSpace 25 = .ok (.aload_n 0, 1) := dk_0 a_Ac_cleanSpace_25 (dko_42 _)
theorem d_Ac_cleanSpace_26 : decode b_Ac_cleanSpace 26 = .ok (.getfield 31, 3) := dk_U2 a_Ac_cleanSpace_26 (dko_180 _) rfl
theorem d_Ac_cleanSpace_29 : decode b_Ac_cleanSpace 29 = .ok (.iload_n 1, 1) := dk_0 a_Ac_cleanSpace_29 (dko_27 _)
theorem d_Ac_cleanSpace_30 : decode b_Ac_cleanSpace 30 = .ok (.iload_n 2, 1) := dk_0 a_Ac_cleanSpace_30 (dko_28 _)
theorem d_Ac_cleanSpace_31 : decode b_Ac_cleanSpace 31 = .ok (.invokevirtual 145, 3) := dk_U2 a_Ac_cleanSpace_31 (dko_182 _) rfl
theorem d_Ac_cleanSpace_34 : decode b_Ac_cleanSpace 34 = .ok (.iconst 0, 1) := dk_0 a_Ac_cleanSpace_34 (dko_3 _)
theorem d_Ac_cleanSpace_35 : decode b_Ac_cleanSpace 35 = .ok (.ireturn, 1) := dk_0 a_Ac_cleanSpace_35 (dko_172 _)
set_option maxHeartbeats 4000000 in
set_option maxRecDepth 100000 in
theorem ok_Ac_cleanSpace (pc : Nat) : OpS mt mi_Ac_cleanSpace pc (cs_Ac_cleanSpace pc) := (os_n (os_n (os_n (os_n (os_l (so_aload_n d_Ac_cleanSpace_0 rfl)) (os_l (so_get (C := R_Ac) (T := F_Ac) (N := 8) (j := 0) in_Ac rfl (by decide) mw_390 d_Ac_cleanSpace_1))) (os_n (os_l (so_get (C := R_St) (T := F_St) (N := 12) (j := 3) in_St rfl (by decide) mw_164 d_Ac_cleanSpace_4)) (os_n (os_l (so_iload_n d_Ac_cleanSpace_7 rfl)) (os_l (so_iaload d_Ac_cleanSpace_8))))) (os_n (os_n (os_l (so_ifne d_Ac_cleanSpace_9 (by decide))) (os_l (so_aload_n d_Ac_cleanSpace_12 rfl))) (os_n (os_l (so_get (C := R_Ac) (T := F_Ac) (N := 8) (j := 1) in_Ac rfl (by decide) mw_391 d_Ac_cleanSpace_13)) (os_n (os_l (so_iload_n d_Ac_cleanSpace_16 rfl)) (os_l (so_callV (iv := mi_Wa_hasSpace) rfl rfl rfl mw_1268 mw_1269 mw_1270 mw_7 mw_1271 ⟨by decide +kernel, by decide +kernel, by decide +kernel⟩ (by decide) d_Ac_cleanSpace_17)))))) (os_n (os_n (os_n (os_l (so_ifeq d_Ac_cleanSpace_20 (by decide))) (os_l (so_iconst d_Ac_cleanSpace_23 (by decide)))) (os_n (os_l (so_ireturn rfl d_Ac_cleanSpace_24)) (os_n (os_l (so_aload_n d_Ac_cleanSpace_25 rfl)) (os_l (so_get (C := R_Ac) (T := F_Ac) (N := 8) (j := 0) in_Ac rfl (by decide) mw_390 d_Ac_cleanSpace_26))))) (os_n (os_n (os_l (so_iload_n d_Ac_cleanSpace_29 rfl)) (os_l (so_iload_n d_Ac_cleanSpace_30 rfl))) (os_n (os_l (so_callV (iv := mi_St_cleanSpace) rfl rfl rfl mw_1273 mw_1274 mw_1275 mw_4 mw_1276 ⟨by decide +kernel, by decide +kernel, by decide +kernel⟩ (by decide) d_Ac_cleanSpace_31)) (os_n (os_l (so_iconst d_Ac_cleanSpace_34 (by decide))) (os_l (so_ireturn rfl d_Ac_cleanSpace_35)))))))
abbrev t_Ac_drainSpace_39 : List UInt8 := 172 :: []
abbrev t_Ac_drainSpace_38 : List UInt8 := 3 :: t_Ac_drainSpace_39
abbrev t_Ac_drainSpace_35 : List UInt8 := 182 :: 0 :: 154 :: t_Ac_drainSpace_38
abbrev t_Ac_drainSpace_34 : List UInt8 := 27 :: t_Ac_drainSpace_35
abbrev t_Ac_drainSpace_31 : List UInt8 := 180 :: 0 :: 31 :: t_Ac_drainSpace_34
abbrev t_Ac_drainSpace_30 : List UInt8 := 42 :: t_Ac_drainSpace_31
abbrev t_Ac_drainSpace_27 : List UInt8 := 182 :: 0 :: 151 :: t_Ac_drainSpace_30
abbrev t_Ac_drainSpace_26 : List UInt8 := 46 :: t_Ac_drainSpace_27
abbrev t_Ac_drainSpace_25 : List UInt8 := 27 :: t_Ac_drainSpace_26
abbrev t_Ac_drainSpace_22 : List UInt8 := 180 :: 0 :: 148 :: t_Ac_drainSpace_25
abbrev t_Ac_drainSpace_19 : List UInt8 := 180 :: 0 :: 31 :: t_Ac_drainSpace_22
abbrev t_Ac_drainSpace_18 : List UInt8 := 42 :: t_Ac_drainSpace_19
abbrev t_Ac_drainSpace_17 : List UInt8 := 27 :: t_Ac_drainSpace_18
abbrev t_Ac_drainSpace_14 : List UInt8 := 180 :: 0 :: 31 :: t_Ac_drainSpace_17
abbrev t_Ac_drainSpace_13 : List UInt8 := 42 :: t_Ac_drainSpace_14
abbrev t_Ac_drainSpace_12 : List UInt8 := 172 :: t_Ac_drainSpace_13
abbrev t_Ac_drainSpace_11 : List UInt8 := 6 :: t_Ac_drainSpace_12
abbrev t_Ac_drainSpace_8 : List UInt8 := 153 :: 0 :: 5 :: t_Ac_drainSpace_11
abbrev t_Ac_drainSpace_5 : List UInt8 := 182 :: 0 :: 142 :: t_Ac_drainSpace_8
abbrev t_Ac_drainSpace_4 : List UInt8 := 27 :: t_Ac_drainSpace_5
abbrev t_Ac_drainSpace_1 : List UInt8 := 180 :: 0 :: 35 :: t_Ac_drainSpace_4
abbrev t_Ac_drainSpace_0 : List UInt8 := 42 :: t_Ac_drainSpace_1
theorem a_Ac_drainSpace_0 : dk_at b_Ac_drainSpace 0 t_Ac_drainSpace_0 := dk_start (by decide +kernel)
theorem a_Ac_drainSpace_1 : dk_at b_Ac_drainSpace 1 t_Ac_drainSpace_1 := dk_go 1 a_Ac_drainSpace_0 rfl
theorem a_Ac_drainSpace_4 : dk_at b_Ac_drainSpace 4 t_Ac_drainSpace_4 := dk_go 3 a_Ac_drainSpace_1 rfl
theorem a_Ac_drainSpace_5 : dk_at b_Ac_drainSpace 5 t_Ac_drainSpace_5 := dk_go 1 a_Ac_drainSpace_4 rfl
theorem a_Ac_drainSpace_8 : dk_at b_Ac_drainSpace 8 t_Ac_drainSpace_8 := dk_go 3 a_Ac_drainSpace_5 rfl
theorem a_Ac_drainSpace_11 : dk_at b_Ac_drainSpace 11 t_Ac_drainSpace_11 := dk_go 3 a_Ac_drainSpace_8 rfl
theorem a_Ac_drainSpace_12 : dk_at b_Ac_drainSpace 12 t_Ac_drainSpace_12 := dk_go 1 a_Ac_drainSpace_11 rfl
theorem a_Ac_drainSpace_13 : dk_at b_Ac_drainSpace 13 t_Ac_drainSpace_13 := dk_go 1 a_Ac_drainSpace_12 rfl
theorem a_Ac_drainSpace_14 : dk_at b_Ac_drainSpace 14 t_Ac_drainSpace_14 := dk_go 1 a_Ac_drainSpace_13 rfl
theorem a_Ac_drainSpace_17 : dk_at b_Ac_drainSpace 17 t_Ac_drainSpace_17 := dk_go 3 a_Ac_drainSpace_14 rfl
theorem a_Ac_drainSpace_18 : dk_at b_Ac_drainSpace 18 t_Ac_drainSpace_18 := dk_go 1 a_Ac_drainSpace_17 rfl
theorem a_Ac_drainSpace_19 : dk_at b_Ac_drainSpace 19 t_Ac_drainSpace_19 := dk_go 1 a_Ac_drainSpace_18 rfl
theorem a_Ac_drainSpace_22 : dk_at b_Ac_drainSpace 22 t_Ac_drainSpace_22 := dk_go 3 a_Ac_drainSpace_19 rfl
theorem a_Ac_drainSpace_25 : dk_at b_Ac_drainSpace 25 t_Ac_drainSpace_25 := dk_go 3 a_Ac_drainSpace_22 rfl
theorem a_Ac_drainSpace_26 : dk_at b_Ac_drainSpace 26 t_Ac_drainSpace_26 := dk_go 1 a_Ac_drainSpace_25 rfl
theorem a_Ac_drainSpace_27 : dk_at b_Ac_drainSpace 27 t_Ac_drainSpace_27 := dk_go 1 a_Ac_drainSpace_26 rfl
theorem a_Ac_drainSpace_30 : dk_at b_Ac_drainSpace 30 t_Ac_drainSpace_30 := dk_go 3 a_Ac_drainSpace_27 rfl
theorem a_Ac_drainSpace_31 : dk_at b_Ac_drainSpace 31 t_Ac_drainSpace_31 := dk_go 1 a_Ac_drainSpace_30 rfl
theorem a_Ac_drainSpace_34 : dk_at b_Ac_drainSpace 34 t_Ac_drainSpace_34 := dk_go 3 a_Ac_drainSpace_31 rfl
theorem a_Ac_drainSpace_35 : dk_at b_Ac_drainSpace 35 t_Ac_drainSpace_35 := dk_go 1 a_Ac_drainSpace_34 rfl
theorem a_Ac_drainSpace_38 : dk_at b_Ac_drainSpace 38 t_Ac_drainSpace_38 := dk_go 3 a_Ac_drainSpace_35 rfl
theorem a_Ac_drainSpace_39 : dk_at b_Ac_drainSpace 39 t_Ac_drainSpace_39 := dk_go 1 a_Ac_drainSpace_38 rfl
theorem d_Ac_drainSpace_0 : decode b_Ac_drainSpace 0 = .ok (.aload_n 0, 1) := dk_0 a_Ac_drainSpace_0 (dko_42 _)
theorem d_Ac_drainSpace_1 : decode b_Ac_drainSpace 1 = .ok (.getfield 35, 3) := dk_U2 a_Ac_drainSpace_1 (dko_180 _) rfl
theorem d_Ac_drainSpace_4 : decode b_Ac_drainSpace 4 = .ok (.iload_n 1, 1) := dk_0 a_Ac_drainSpace_4 (dko_27 _)
theorem d_Ac_drainSpace_5 : decode b_Ac_drainSpace 5 = .ok (.invokevirtual 142, 3) := dk_U2 a_Ac_drainSpace_5 (dko_182 _) rfl
theorem d_Ac_drainSpace_8 : decode b_Ac_drainSpace 8 = .ok (.ifCond .eq 5, 3) := dk_S2 a_Ac_drainSpace_8 (dko_153 _) (by decide +kernel)
theorem d_Ac_drainSpace_11 : decode b_Ac_drainSpace 11 = .ok (.iconst 3, 1) := dk_0 a_Ac_drainSpace_11 (dko_6 _)
theorem d_Ac_drainSpace_12 : decode b_Ac_drainSpace 12 = .ok (.ireturn, 1) := dk_0 a_Ac_drainSpace_12 (dko_172 _)
theorem d_Ac_drainSpace_13 : decode b_Ac_drainSpace 13 = .ok (.aload_n 0, 1) := dk_0 a_Ac_drainSpace_13 (dko_42 _)
theorem d_Ac_drainSpace_14 : decode b_Ac_drainSpace 14 = .ok (.getfield 31, 3) := dk_U2 a_Ac_drainSpace_14 (dko_180 _) rfl
theorem d_Ac_drainSpace_17 : decode b_Ac_drainSpace 17 = .ok (.iload_n 1, 1) := dk_0 a_Ac_drainSpace_17 (dko_27 _)
theorem d_Ac_drainSpace_18 : decode b_Ac_drainSpace 18 = .ok (.aload_n 0, 1) := dk_0 a_Ac_drainSpace_18 (dko_42 _)
theorem d_Ac_drainSpace_19 : decode b_Ac_drainSpace 19 = .ok (.getfield 31, 3) := dk_U2 a_Ac_drainSpace_19 (dko_180 _) rfl
theorem d_Ac_drainSpace_22 : decode b_Ac_drainSpace 22 = .ok (.getfield 148, 3) := dk_U2 a_Ac_drainSpace_22 (dko_180 _) rfl
theorem d_Ac_drainSpace_25 : decode b_Ac_drainSpace 25 = .ok (.iload_n 1, 1) := dk_0 a_Ac_drainSpace_25 (dko_27 _)
theorem d_Ac_drainSpace_26 : decode b_Ac_drainSpace 26 = .ok (.iaload, 1) := dk_0 a_Ac_drainSpace_26 (dko_46 _)
theorem d_Ac_drainSpace_27 : decode b_Ac_drainSpace 27 = .ok (.invokevirtual 151, 3) := dk_U2 a_Ac_drainSpace_27 (dko_182 _) rfl
theorem d_Ac_drainSpace_30 : decode b_Ac_drainSpace 30 = .ok (.aload_n 0, 1) := dk_0 a_Ac_drainSpace_30 (dko_42 _)
theorem d_Ac_drainSpace_31 : decode b_Ac_drainSpace 31 = .ok (.getfield 31, 3) := dk_U2 a_Ac_drainSpace_31 (dko_180 _) rfl
theorem d_Ac_drainSpace_34 : decode b_Ac_drainSpace 34 = .ok (.iload_n 1, 1) := dk_0 a_Ac_drainSpace_34 (dko_27 _)
theorem d_Ac_drainSpace_35 : decode b_Ac_drainSpace 35 = .ok (.invokevirtual 154, 3) := dk_U2 a_Ac_drainSpace_35 (dko_182 _) rfl
theorem d_Ac_drainSpace_38 : decode b_Ac_drainSpace 38 = .ok (.iconst 0, 1) := dk_0 a_Ac_drainSpace_38 (dko_3 _)
theorem d_Ac_drainSpace_39 : decode b_Ac_drainSpace 39 = .ok (.ireturn, 1) := dk_0 a_Ac_drainSpace_39 (dko_172 _)
set_option maxHeartbeats 4000000 in
set_option maxRecDepth 100000 in
theorem ok_Ac_drainSpace (pc : Nat) : OpS mt mi_Ac_drainSpace pc (cs_Ac_drainSpace pc) := (os_n (os_n (os_n (os_n (os_l (so_aload_n d_Ac_drainSpace_0 rfl)) (os_l (so_get (C := R_Ac) (T := F_Ac) (N := 8) (j := 1) in_Ac rfl (by decide) mw_391 d_Ac_drainSpace_1))) (os_n (os_l (so_iload_n d_Ac_drainSpace_4 rfl)) (os_n (os_l (so_callV (iv := mi_Wa_hasSpace) rfl rfl rfl mw_1268 mw_1269 mw_1270 mw_7 mw_1271 ⟨by decide +kernel, by decide +kernel, by decide +kernel⟩ (by decide) d_Ac_drainSpace_5)) (os_l (so_ifeq d_Ac_drainSpace_8 (by decide)))))) (os_n (os_n (os_l (so_iconst d_Ac_drainSpace_11 (by decide))) (os_n (os_l (so_ireturn rfl d_Ac_drainSpace_12)) (os_l (so_aload_n d_Ac_drainSpace_13 rfl)))) (os_n (os_l (so_get (C := R_Ac) (T := F_Ac) (N := 8) (j := 0) in_Ac rfl (by decide) mw_390 d_Ac_drainSpace_14)) (os_n (os_l (so_iload_n d_Ac_drainSpace_17 rfl)) (os_l (so_aload_n d_Ac_drainSpace_18 rfl)))))) (os_n (os_n (os_n (os_l (so_get (C := R_Ac) (T := F_Ac) (N := 8) (j := 0) in_Ac rfl (by decide) mw_390 d_Ac_drainSpace_19)) (os_l (so_get (C := R_St) (T := F_St) (N := 12) (j := 4) in_St rfl (by decide) mw_169 d_Ac_drainSpace_22))) (os_n (os_l (so_iload_n d_Ac_drainSpace_25 rfl)) (os_n (os_l (so_iaload d_Ac_drainSpace_26)) (os_l (so_callV (iv := mi_St_leave) rfl rfl rfl mw_1281 mw_1282 mw_1283 mw_4 mw_1284 ⟨by decide +kernel, by decide +kernel, by decide +kernel⟩ (by decide) d_Ac_drainSpace_27))))) (os_n (os_n (os_l (so_aload_n d_Ac_drainSpace_30 rfl)) (os_n (os_l (so_get (C := R_Ac) (T := F_Ac) (N := 8) (j := 0) in_Ac rfl (by decide) mw_390 d_Ac_drainSpace_31)) (os_l (so_iload_n d_Ac_drainSpace_34 rfl)))) (os_n (os_l (so_callV (iv := mi_St_emptyCells) rfl rfl rfl mw_1285 mw_1286 mw_1287 mw_4 mw_1288 ⟨by decide +kernel, by decide +kernel, by decide +kernel⟩ (by decide) d_Ac_drainSpace_35)) (os_n (os_l (so_iconst d_Ac_drainSpace_38 (by decide))) (os_l (so_ireturn rfl d_Ac_drainSpace_39)))))))
abbrev t_Al_add_52 : List UInt8 := 177 :: []
abbrev t_Al_add_49 : List UInt8 := 181 :: 0 :: 21 :: t_Al_add_52
abbrev t_Al_add_48 : List UInt8 := 96 :: t_Al_add_49
abbrev t_Al_add_47 : List UInt8 := 4 :: t_Al_add_48
abbrev t_Al_add_44 : List UInt8 := 180 :: 0 :: 21 :: t_Al_add_47
abbrev t_Al_add_43 : List UInt8 := 89 :: t_Al_add_44
abbrev t_Al_add_42 : List UInt8 := 42 :: t_Al_add_43
abbrev t_Al_add_41 : List UInt8 := 79 :: t_Al_add_42
abbrev t_Al_add_40 : List UInt8 := 29 :: t_Al_add_41
abbrev t_Al_add_37 : List UInt8 := 180 :: 0 :: 21 :: t_Al_add_40
abbrev t_Al_add_36 : List UInt8 := 42 :: t_Al_add_37
abbrev t_Al_add_33 : List UInt8 := 180 :: 0 :: 18 :: t_Al_add_36
abbrev t_Al_add_32 : List UInt8 := 42 :: t_Al_add_33
abbrev t_Al_add_31 : List UInt8 := 79 :: t_Al_add_32
abbrev t_Al_add_30 : List UInt8 := 28 :: t_Al_add_31
abbrev t_Al_add_27 : List UInt8 := 180 :: 0 :: 21 :: t_Al_add_30
abbrev t_Al_add_26 : List UInt8 := 42 :: t_Al_add_27
abbrev t_Al_add_23 : List UInt8 := 180 :: 0 :: 15 :: t_Al_add_26
abbrev t_Al_add_22 : List UInt8 := 42 :: t_Al_add_23
abbrev t_Al_add_21 : List UInt8 := 79 :: t_Al_add_22
abbrev t_Al_add_20 : List UInt8 := 27 :: t_Al_add_21
abbrev t_Al_add_17 : List UInt8 := 180 :: 0 :: 21 :: t_Al_add_20
abbrev t_Al_add_16 : List UInt8 := 42 :: t_Al_add_17
abbrev t_Al_add_13 : List UInt8 := 180 :: 0 :: 9 :: t_Al_add_16
abbrev t_Al_add_12 : List UInt8 := 42 :: t_Al_add_13
abbrev t_Al_add_9 : List UInt8 := 162 :: 0 :: 43 :: t_Al_add_12
abbrev t_Al_add_8 : List UInt8 := 190 :: t_Al_add_9
abbrev t_Al_add_5 : List UInt8 := 180 :: 0 :: 9 :: t_Al_add_8
abbrev t_Al_add_4 : List UInt8 := 42 :: t_Al_add_5
abbrev t_Al_add_1 : List UInt8 := 180 :: 0 :: 21 :: t_Al_add_4
abbrev t_Al_add_0 : List UInt8 := 42 :: t_Al_add_1
theorem a_Al_add_0 : dk_at b_Al_add 0 t_Al_add_0 := dk_start (by decide +kernel)
theorem a_Al_add_1 : dk_at b_Al_add 1 t_Al_add_1 := dk_go 1 a_Al_add_0 rfl
theorem a_Al_add_4 : dk_at b_Al_add 4 t_Al_add_4 := dk_go 3 a_Al_add_1 rfl
theorem a_Al_add_5 : dk_at b_Al_add 5 t_Al_add_5 := dk_go 1 a_Al_add_4 rfl
theorem a_Al_add_8 : dk_at b_Al_add 8 t_Al_add_8 := dk_go 3 a_Al_add_5 rfl
theorem a_Al_add_9 : dk_at b_Al_add 9 t_Al_add_9 := dk_go 1 a_Al_add_8 rfl
theorem a_Al_add_12 : dk_at b_Al_add 12 t_Al_add_12 := dk_go 3 a_Al_add_9 rfl
theorem a_Al_add_13 : dk_at b_Al_add 13 t_Al_add_13 := dk_go 1 a_Al_add_12 rfl
theorem a_Al_add_16 : dk_at b_Al_add 16 t_Al_add_16 := dk_go 3 a_Al_add_13 rfl
theorem a_Al_add_17 : dk_at b_Al_add 17 t_Al_add_17 := dk_go 1 a_Al_add_16 rfl
theorem a_Al_add_20 : dk_at b_Al_add 20 t_Al_add_20 := dk_go 3 a_Al_add_17 rfl
theorem a_Al_add_21 : dk_at b_Al_add 21 t_Al_add_21 := dk_go 1 a_Al_add_20 rfl
theorem a_Al_add_22 : dk_at b_Al_add 22 t_Al_add_22 := dk_go 1 a_Al_add_21 rfl
theorem a_Al_add_23 : dk_at b_Al_add 23 t_Al_add_23 := dk_go 1 a_Al_add_22 rfl
theorem a_Al_add_26 : dk_at b_Al_add 26 t_Al_add_26 := dk_go 3 a_Al_add_23 rfl
theorem a_Al_add_27 : dk_at b_Al_add 27 t_Al_add_27 := dk_go 1 a_Al_add_26 rfl
theorem a_Al_add_30 : dk_at b_Al_add 30 t_Al_add_30 := dk_go 3 a_Al_add_27 rfl
theorem a_Al_add_31 : dk_at b_Al_add 31 t_Al_add_31 := dk_go 1 a_Al_add_30 rfl
theorem a_Al_add_32 : dk_at b_Al_add 32 t_Al_add_32 := dk_go 1 a_Al_add_31 rfl
theorem a_Al_add_33 : dk_at b_Al_add 33 t_Al_add_33 := dk_go 1 a_Al_add_32 rfl
theorem a_Al_add_36 : dk_at b_Al_add 36 t_Al_add_36 := dk_go 3 a_Al_add_33 rfl
theorem a_Al_add_37 : dk_at b_Al_add 37 t_Al_add_37 := dk_go 1 a_Al_add_36 rfl
theorem a_Al_add_40 : dk_at b_Al_add 40 t_Al_add_40 := dk_go 3 a_Al_add_37 rfl
theorem a_Al_add_41 : dk_at b_Al_add 41 t_Al_add_41 := dk_go 1 a_Al_add_40 rfl
theorem a_Al_add_42 : dk_at b_Al_add 42 t_Al_add_42 := dk_go 1 a_Al_add_41 rfl
theorem a_Al_add_43 : dk_at b_Al_add 43 t_Al_add_43 := dk_go 1 a_Al_add_42 rfl
theorem a_Al_add_44 : dk_at b_Al_add 44 t_Al_add_44 := dk_go 1 a_Al_add_43 rfl
theorem a_Al_add_47 : dk_at b_Al_add 47 t_Al_add_47 := dk_go 3 a_Al_add_44 rfl
theorem a_Al_add_48 : dk_at b_Al_add 48 t_Al_add_48 := dk_go 1 a_Al_add_47 rfl
theorem a_Al_add_49 : dk_at b_Al_add 49 t_Al_add_49 := dk_go 1 a_Al_add_48 rfl
theorem a_Al_add_52 : dk_at b_Al_add 52 t_Al_add_52 := dk_go 3 a_Al_add_49 rfl
theorem d_Al_add_0 : decode b_Al_add 0 = .ok (.aload_n 0, 1) := dk_0 a_Al_add_0 (dko_42 _)
theorem d_Al_add_1 : decode b_Al_add 1 = .ok (.getfield 21, 3) := dk_U2 a_Al_add_1 (dko_180 _) rfl
theorem d_Al_add_4 : decode b_Al_add 4 = .ok (.aload_n 0, 1) := dk_0 a_Al_add_4 (dko_42 _)
theorem d_Al_add_5 : decode b_Al_add 5 = .ok (.getfield 9, 3) := dk_U2 a_Al_add_5 (dko_180 _) rfl
theorem d_Al_add_8 : decode b_Al_add 8 = .ok (.arraylength, 1) := dk_0 a_Al_add_8 (dko_190 _)
theorem d_Al_add_9 : decode b_Al_add 9 = .ok (.if_icmp .ge 43, 3) := dk_S2 a_Al_add_9 (dko_162 _) (by decide +kernel)
theorem d_Al_add_12 : decode b_Al_add 12 = .ok (.aload_n 0, 1) := dk_0 a_Al_add_12 (dko_42 _)
theorem d_Al_add_13 : decode b_Al_add 13 = .ok (.getfield 9, 3) := dk_U2 a_Al_add_13 (dko_180 _) rfl
theorem d_Al_add_16 : decode b_Al_add 16 = .ok (.aload_n 0, 1) := dk_0 a_Al_add_16 (dko_42 _)
theorem d_Al_add_17 : decode b_Al_add 17 = .ok (.getfield 21, 3) := dk_U2 a_Al_add_17 (dko_180 _) rfl
theorem d_Al_add_20 : decode b_Al_add 20 = .ok (.iload_n 1, 1) := dk_0 a_Al_add_20 (dko_27 _)
theorem d_Al_add_21 : decode b_Al_add 21 = .ok (.iastore, 1) := dk_0 a_Al_add_21 (dko_79 _)
theorem d_Al_add_22 : decode b_Al_add 22 = .ok (.aload_n 0, 1) := dk_0 a_Al_add_22 (dko_42 _)
theorem d_Al_add_23 : decode b_Al_add 23 = .ok (.getfield 15, 3) := dk_U2 a_Al_add_23 (dko_180 _) rfl
theorem d_Al_add_26 : decode b_Al_add 26 = .ok (.aload_n 0, 1) := dk_0 a_Al_add_26 (dko_42 _)
theorem d_Al_add_27 : decode b_Al_add 27 = .ok (.getfield 21, 3) := dk_U2 a_Al_add_27 (dko_180 _) rfl
theorem d_Al_add_30 : decode b_Al_add 30 = .ok (.iload_n 2, 1) := dk_0 a_Al_add_30 (dko_28 _)
theorem d_Al_add_31 : decode b_Al_add 31 = .ok (.iastore, 1) := dk_0 a_Al_add_31 (dko_79 _)
theorem d_Al_add_32 : decode b_Al_add 32 = .ok (.aload_n 0, 1) := dk_0 a_Al_add_32 (dko_42 _)
theorem d_Al_add_33 : decode b_Al_add 33 = .ok (.getfield 18, 3) := dk_U2 a_Al_add_33 (dko_180 _) rfl
theorem d_Al_add_36 : decode b_Al_add 36 = .ok (.aload_n 0, 1) := dk_0 a_Al_add_36 (dko_42 _)
theorem d_Al_add_37 : decode b_Al_add 37 = .ok (.getfield 21, 3) := dk_U2 a_Al_add_37 (dko_180 _) rfl
theorem d_Al_add_40 : decode b_Al_add 40 = .ok (.iload_n 3, 1) := dk_0 a_Al_add_40 (dko_29 _)
theorem d_Al_add_41 : decode b_Al_add 41 = .ok (.iastore, 1) := dk_0 a_Al_add_41 (dko_79 _)
theorem d_Al_add_42 : decode b_Al_add 42 = .ok (.aload_n 0, 1) := dk_0 a_Al_add_42 (dko_42 _)
theorem d_Al_add_43 : decode b_Al_add 43 = .ok (.dup, 1) := dk_0 a_Al_add_43 (dko_89 _)
theorem d_Al_add_44 : decode b_Al_add 44 = .ok (.getfield 21, 3) := dk_U2 a_Al_add_44 (dko_180 _) rfl
theorem d_Al_add_47 : decode b_Al_add 47 = .ok (.iconst 1, 1) := dk_0 a_Al_add_47 (dko_4 _)
theorem d_Al_add_48 : decode b_Al_add 48 = .ok (.iadd, 1) := dk_0 a_Al_add_48 (dko_96 _)
theorem d_Al_add_49 : decode b_Al_add 49 = .ok (.putfield 21, 3) := dk_U2 a_Al_add_49 (dko_181 _) rfl
theorem d_Al_add_52 : decode b_Al_add 52 = .ok (.return_, 1) := dk_0 a_Al_add_52 (dko_177 _)
set_option maxHeartbeats 4000000 in
set_option maxRecDepth 100000 in
theorem ok_Al_add (pc : Nat) : OpS mt mi_Al_add pc (cs_Al_add pc) := (os_n (os_n (os_n (os_n (os_l (so_aload_n d_Al_add_0 rfl)) (os_n (os_l (so_get (C := R_Al) (T := F_Al) (N := 4) (j := 0) in_Al rfl (by decide) mw_60 d_Al_add_1)) (os_l (so_aload_n d_Al_add_4 rfl)))) (os_n (os_n (os_l (so_get (C := R_Al) (T := F_Al) (N := 4) (j := 1) in_Al rfl (by decide) mw_62 d_Al_add_5)) (os_l (so_alen d_Al_add_8))) (os_n (os_l (so_icge d_Al_add_9 (by decide))) (os_l (so_aload_n d_Al_add_12 rfl))))) (os_n (os_n (os_n (os_l (so_get (C := R_Al) (T := F_Al) (N := 4) (j := 1) in_Al rfl (by decide) mw_62 d_Al_add_13)) (os_l (so_aload_n d_Al_add_16 rfl))) (os_n (os_l (so_get (C := R_Al) (T := F_Al) (N := 4) (j := 0) in_Al rfl (by decide) mw_60 d_Al_add_17)) (os_l (so_iload_n d_Al_add_20 rfl)))) (os_n (os_n (os_l (so_iastore d_Al_add_21)) (os_l (so_aload_n d_Al_add_22 rfl))) (os_n (os_l (so_get (C := R_Al) (T := F_Al) (N := 4) (j := 2) in_Al rfl (by decide) mw_63 d_Al_add_23)) (os_l (so_aload_n d_Al_add_26 rfl)))))) (os_n (os_n (os_n (os_n (os_l (so_get (C := R_Al) (T := F_Al) (N := 4) (j := 0) in_Al rfl (by decide) mw_60 d_Al_add_27)) (os_l (so_iload_n d_Al_add_30 rfl))) (os_n (os_l (so_iastore d_Al_add_31)) (os_l (so_aload_n d_Al_add_32 rfl)))) (os_n (os_n (os_l (so_get (C := R_Al) (T := F_Al) (N := 4) (j := 3) in_Al rfl (by decide) mw_64 d_Al_add_33)) (os_l (so_aload_n d_Al_add_36 rfl))) (os_n (os_l (so_get (C := R_Al) (T := F_Al) (N := 4) (j := 0) in_Al rfl (by decide) mw_60 d_Al_add_37)) (os_l (so_iload_n d_Al_add_40 rfl))))) (os_n (os_n (os_n (os_l (so_iastore d_Al_add_41)) (os_l (so_aload_n d_Al_add_42 rfl))) (os_n (os_l (so_dup d_Al_add_43)) (os_l (so_get (C := R_Al) (T := F_Al) (N := 4) (j := 0) in_Al rfl (by decide) mw_60 d_Al_add_44)))) (os_n (os_n (os_l (so_iconst d_Al_add_47 (by decide))) (os_l (so_iadd d_Al_add_48))) (os_n (os_l (so_putI (C := R_Al) (T := F_Al) (N := 4) (j := 0) in_Al t_Al_ok n_Al rfl (by decide) mw_60 rfl (by decide +kernel) d_Al_add_49)) (os_l (so_return rfl d_Al_add_52)))))))
abbrev t_Al_get_56 : List UInt8 := 172 :: []
abbrev t_Al_get_55 : List UInt8 := 46 :: t_Al_get_56
abbrev t_Al_get_54 : List UInt8 := 27 :: t_Al_get_55
abbrev t_Al_get_51 : List UInt8 := 180 :: 0 :: 18 :: t_Al_get_54
abbrev t_Al_get_50 : List UInt8 := 42 :: t_Al_get_51
abbrev t_Al_get_47 : List UInt8 := 167 :: 0 :: 9 :: t_Al_get_50
abbrev t_Al_get_46 : List UInt8 := 46 :: t_Al_get_47
abbrev t_Al_get_45 : List UInt8 := 27 :: t_Al_get_46
abbrev t_Al_get_42 : List UInt8 := 180 :: 0 :: 15 :: t_Al_get_45
abbrev t_Al_get_41 : List UInt8 := 42 :: t_Al_get_42
abbrev t_Al_get_38 : List UInt8 := 160 :: 0 :: 12 :: t_Al_get_41
abbrev t_Al_get_37 : List UInt8 := 4 :: t_Al_get_38
abbrev t_Al_get_36 : List UInt8 := 28 :: t_Al_get_37
abbrev t_Al_get_33 : List UInt8 := 167 :: 0 :: 23 :: t_Al_get_36
abbrev t_Al_get_32 : List UInt8 := 46 :: t_Al_get_33
abbrev t_Al_get_31 : List UInt8 := 27 :: t_Al_get_32
abbrev t_Al_get_28 : List UInt8 := 180 :: 0 :: 9 :: t_Al_get_31
abbrev t_Al_get_27 : List UInt8 := 42 :: t_Al_get_28
abbrev t_Al_get_24 : List UInt8 := 154 :: 0 :: 12 :: t_Al_get_27
abbrev t_Al_get_23 : List UInt8 := 28 :: t_Al_get_24
abbrev t_Al_get_22 : List UInt8 := 172 :: t_Al_get_23
abbrev t_Al_get_21 : List UInt8 := 2 :: t_Al_get_22
abbrev t_Al_get_18 : List UInt8 := 164 :: 0 :: 5 :: t_Al_get_21
abbrev t_Al_get_17 : List UInt8 := 5 :: t_Al_get_18
abbrev t_Al_get_16 : List UInt8 := 28 :: t_Al_get_17
abbrev t_Al_get_13 : List UInt8 := 155 :: 0 :: 8 :: t_Al_get_16
abbrev t_Al_get_12 : List UInt8 := 28 :: t_Al_get_13
abbrev t_Al_get_9 : List UInt8 := 162 :: 0 :: 12 :: t_Al_get_12
abbrev t_Al_get_6 : List UInt8 := 180 :: 0 :: 21 :: t_Al_get_9
abbrev t_Al_get_5 : List UInt8 := 42 :: t_Al_get_6
abbrev t_Al_get_4 : List UInt8 := 27 :: t_Al_get_5
abbrev t_Al_get_1 : List UInt8 := 155 :: 0 :: 20 :: t_Al_get_4
abbrev t_Al_get_0 : List UInt8 := 27 :: t_Al_get_1
theorem a_Al_get_0 : dk_at b_Al_get 0 t_Al_get_0 := dk_start (by decide +kernel)
theorem a_Al_get_1 : dk_at b_Al_get 1 t_Al_get_1 := dk_go 1 a_Al_get_0 rfl
theorem a_Al_get_4 : dk_at b_Al_get 4 t_Al_get_4 := dk_go 3 a_Al_get_1 rfl
theorem a_Al_get_5 : dk_at b_Al_get 5 t_Al_get_5 := dk_go 1 a_Al_get_4 rfl
theorem a_Al_get_6 : dk_at b_Al_get 6 t_Al_get_6 := dk_go 1 a_Al_get_5 rfl
theorem a_Al_get_9 : dk_at b_Al_get 9 t_Al_get_9 := dk_go 3 a_Al_get_6 rfl
theorem a_Al_get_12 : dk_at b_Al_get 12 t_Al_get_12 := dk_go 3 a_Al_get_9 rfl
theorem a_Al_get_13 : dk_at b_Al_get 13 t_Al_get_13 := dk_go 1 a_Al_get_12 rfl
theorem a_Al_get_16 : dk_at b_Al_get 16 t_Al_get_16 := dk_go 3 a_Al_get_13 rfl
theorem a_Al_get_17 : dk_at b_Al_get 17 t_Al_get_17 := dk_go 1 a_Al_get_16 rfl
theorem a_Al_get_18 : dk_at b_Al_get 18 t_Al_get_18 := dk_go 1 a_Al_get_17 rfl
theorem a_Al_get_21 : dk_at b_Al_get 21 t_Al_get_21 := dk_go 3 a_Al_get_18 rfl
theorem a_Al_get_22 : dk_at b_Al_get 22 t_Al_get_22 := dk_go 1 a_Al_get_21 rfl
theorem a_Al_get_23 : dk_at b_Al_get 23 t_Al_get_23 := dk_go 1 a_Al_get_22 rfl
theorem a_Al_get_24 : dk_at b_Al_get 24 t_Al_get_24 := dk_go 1 a_Al_get_23 rfl
theorem a_Al_get_27 : dk_at b_Al_get 27 t_Al_get_27 := dk_go 3 a_Al_get_24 rfl
theorem a_Al_get_28 : dk_at b_Al_get 28 t_Al_get_28 := dk_go 1 a_Al_get_27 rfl
theorem a_Al_get_31 : dk_at b_Al_get 31 t_Al_get_31 := dk_go 3 a_Al_get_28 rfl
theorem a_Al_get_32 : dk_at b_Al_get 32 t_Al_get_32 := dk_go 1 a_Al_get_31 rfl
theorem a_Al_get_33 : dk_at b_Al_get 33 t_Al_get_33 := dk_go 1 a_Al_get_32 rfl
theorem a_Al_get_36 : dk_at b_Al_get 36 t_Al_get_36 := dk_go 3 a_Al_get_33 rfl
theorem a_Al_get_37 : dk_at b_Al_get 37 t_Al_get_37 := dk_go 1 a_Al_get_36 rfl
theorem a_Al_get_38 : dk_at b_Al_get 38 t_Al_get_38 := dk_go 1 a_Al_get_37 rfl
theorem a_Al_get_41 : dk_at b_Al_get 41 t_Al_get_41 := dk_go 3 a_Al_get_38 rfl
theorem a_Al_get_42 : dk_at b_Al_get 42 t_Al_get_42 := dk_go 1 a_Al_get_41 rfl
theorem a_Al_get_45 : dk_at b_Al_get 45 t_Al_get_45 := dk_go 3 a_Al_get_42 rfl
theorem a_Al_get_46 : dk_at b_Al_get 46 t_Al_get_46 := dk_go 1 a_Al_get_45 rfl
theorem a_Al_get_47 : dk_at b_Al_get 47 t_Al_get_47 := dk_go 1 a_Al_get_46 rfl
theorem a_Al_get_50 : dk_at b_Al_get 50 t_Al_get_50 := dk_go 3 a_Al_get_47 rfl
theorem a_Al_get_51 : dk_at b_Al_get 51 t_Al_get_51 := dk_go 1 a_Al_get_50 rfl
theorem a_Al_get_54 : dk_at b_Al_get 54 t_Al_get_54 := dk_go 3 a_Al_get_51 rfl
theorem a_Al_get_55 : dk_at b_Al_get 55 t_Al_get_55 := dk_go 1 a_Al_get_54 rfl
theorem a_Al_get_56 : dk_at b_Al_get 56 t_Al_get_56 := dk_go 1 a_Al_get_55 rfl
theorem d_Al_get_0 : decode b_Al_get 0 = .ok (.iload_n 1, 1) := dk_0 a_Al_get_0 (dko_27 _)
theorem d_Al_get_1 : decode b_Al_get 1 = .ok (.ifCond .lt 20, 3) := dk_S2 a_Al_get_1 (dko_155 _) (by decide +kernel)
theorem d_Al_get_4 : decode b_Al_get 4 = .ok (.iload_n 1, 1) := dk_0 a_Al_get_4 (dko_27 _)
theorem d_Al_get_5 : decode b_Al_get 5 = .ok (.aload_n 0, 1) := dk_0 a_Al_get_5 (dko_42 _)
theorem d_Al_get_6 : decode b_Al_get 6 = .ok (.getfield 21, 3) := dk_U2 a_Al_get_6 (dko_180 _) rfl
theorem d_Al_get_9 : decode b_Al_get 9 = .ok (.if_icmp .ge 12, 3) := dk_S2 a_Al_get_9 (dko_162 _) (by decide +kernel)
theorem d_Al_get_12 : decode b_Al_get 12 = .ok (.iload_n 2, 1) := dk_0 a_Al_get_12 (dko_28 _)
theorem d_Al_get_13 : decode b_Al_get 13 = .ok (.ifCond .lt 8, 3) := dk_S2 a_Al_get_13 (dko_155 _) (by decide +kernel)
theorem d_Al_get_16 : decode b_Al_get 16 = .ok (.iload_n 2, 1) := dk_0 a_Al_get_16 (dko_28 _)
theorem d_Al_get_17 : decode b_Al_get 17 = .ok (.iconst 2, 1) := dk_0 a_Al_get_17 (dko_5 _)
theorem d_Al_get_18 : decode b_Al_get 18 = .ok (.if_icmp .le 5, 3) := dk_S2 a_Al_get_18 (dko_164 _) (by decide +kernel)
theorem d_Al_get_21 : decode b_Al_get 21 = .ok (.iconst (-1), 1) := dk_0 a_Al_get_21 (dko_2 _)
theorem d_Al_get_22 : decode b_Al_get 22 = .ok (.ireturn, 1) := dk_0 a_Al_get_22 (dko_172 _)
theorem d_Al_get_23 : decode b_Al_get 23 = .ok (.iload_n 2, 1) := dk_0 a_Al_get_23 (dko_28 _)
theorem d_Al_get_24 : decode b_Al_get 24 = .ok (.ifCond .ne 12, 3) := dk_S2 a_Al_get_24 (dko_154 _) (by decide +kernel)
theorem d_Al_get_27 : decode b_Al_get 27 = .ok (.aload_n 0, 1) := dk_0 a_Al_get_27 (dko_42 _)
theorem d_Al_get_28 : decode b_Al_get 28 = .ok (.getfield 9, 3) := dk_U2 a_Al_get_28 (dko_180 _) rfl
theorem d_Al_get_31 : decode b_Al_get 31 = .ok (.iload_n 1, 1) := dk_0 a_Al_get_31 (dko_27 _)
theorem d_Al_get_32 : decode b_Al_get 32 = .ok (.iaload, 1) := dk_0 a_Al_get_32 (dko_46 _)
theorem d_Al_get_33 : decode b_Al_get 33 = .ok (.goto 23, 3) := dk_S2 a_Al_get_33 (dko_167 _) (by decide +kernel)
theorem d_Al_get_36 : decode b_Al_get 36 = .ok (.iload_n 2, 1) := dk_0 a_Al_get_36 (dko_28 _)
theorem d_Al_get_37 : decode b_Al_get 37 = .ok (.iconst 1, 1) := dk_0 a_Al_get_37 (dko_4 _)
theorem d_Al_get_38 : decode b_Al_get 38 = .ok (.if_icmp .ne 12, 3) := dk_S2 a_Al_get_38 (dko_160 _) (by decide +kernel)
theorem d_Al_get_41 : decode b_Al_get 41 = .ok (.aload_n 0, 1) := dk_0 a_Al_get_41 (dko_42 _)
theorem d_Al_get_42 : decode b_Al_get 42 = .ok (.getfield 15, 3) := dk_U2 a_Al_get_42 (dko_180 _) rfl
theorem d_Al_get_45 : decode b_Al_get 45 = .ok (.iload_n 1, 1) := dk_0 a_Al_get_45 (dko_27 _)
theorem d_Al_get_46 : decode b_Al_get 46 = .ok (.iaload, 1) := dk_0 a_Al_get_46 (dko_46 _)
theorem d_Al_get_47 : decode b_Al_get 47 = .ok (.goto 9, 3) := dk_S2 a_Al_get_47 (dko_167 _) (by decide +kernel)
theorem d_Al_get_50 : decode b_Al_get 50 = .ok (.aload_n 0, 1) := dk_0 a_Al_get_50 (dko_42 _)
theorem d_Al_get_51 : decode b_Al_get 51 = .ok (.getfield 18, 3) := dk_U2 a_Al_get_51 (dko_180 _) rfl
theorem d_Al_get_54 : decode b_Al_get 54 = .ok (.iload_n 1, 1) := dk_0 a_Al_get_54 (dko_27 _)
theorem d_Al_get_55 : decode b_Al_get 55 = .ok (.iaload, 1) := dk_0 a_Al_get_55 (dko_46 _)
theorem d_Al_get_56 : decode b_Al_get 56 = .ok (.ireturn, 1) := dk_0 a_Al_get_56 (dko_172 _)
set_option maxHeartbeats 4000000 in
set_option maxRecDepth 100000 in
theorem ok_Al_get (pc : Nat) : OpS mt mi_Al_get pc (cs_Al_get pc) := (os_n (os_n (os_n (os_n (os_n (os_l (so_iload_n d_Al_get_0 rfl)) (os_l (so_iflt d_Al_get_1 (by decide)))) (os_n (os_l (so_iload_n d_Al_get_4 rfl)) (os_l (so_aload_n d_Al_get_5 rfl)))) (os_n (os_n (os_l (so_get (C := R_Al) (T := F_Al) (N := 4) (j := 0) in_Al rfl (by decide) mw_60 d_Al_get_6)) (os_l (so_icge d_Al_get_9 (by decide)))) (os_n (os_l (so_iload_n d_Al_get_12 rfl)) (os_l (so_iflt d_Al_get_13 (by decide)))))) (os_n (os_n (os_n (os_l (so_iload_n d_Al_get_16 rfl)) (os_l (so_iconst d_Al_get_17 (by decide)))) (os_n (os_l (so_icle d_Al_get_18 (by decide))) (os_l (so_iconst d_Al_get_21 (by decide))))) (os_n (os_n (os_l (so_ireturn rfl d_Al_get_22)) (os_l (so_iload_n d_Al_get_23 rfl))) (os_n (os_l (so_ifne d_Al_get_24 (by decide))) (os_l (so_aload_n d_Al_get_27 rfl)))))) (os_n (os_n (os_n (os_n (os_l (so_get (C := R_Al) (T := F_Al) (N := 4) (j := 1) in_Al rfl (by decide) mw_62 d_Al_get_28)) (os_l (so_iload_n d_Al_get_31 rfl))) (os_n (os_l (so_iaload d_Al_get_32)) (os_l (so_goto d_Al_get_33 (by decide))))) (os_n (os_n (os_l (so_iload_n d_Al_get_36 rfl)) (os_l (so_iconst d_Al_get_37 (by decide)))) (os_n (os_l (so_icne d_Al_get_38 (by decide))) (os_l (so_aload_n d_Al_get_41 rfl))))) (os_n (os_n (os_n (os_l (so_get (C := R_Al) (T := F_Al) (N := 4) (j := 2) in_Al rfl (by decide) mw_63 d_Al_get_42)) (os_l (so_iload_n d_Al_get_45 rfl))) (os_n (os_l (so_iaload d_Al_get_46)) (os_l (so_goto d_Al_get_47 (by decide))))) (os_n (os_n (os_l (so_aload_n d_Al_get_50 rfl)) (os_l (so_get (C := R_Al) (T := F_Al) (N := 4) (j := 3) in_Al rfl (by decide) mw_64 d_Al_get_51))) (os_n (os_l (so_iload_n d_Al_get_54 rfl)) (os_n (os_l (so_iaload d_Al_get_55)) (os_l (so_ireturn rfl d_Al_get_56))))))))
abbrev t_Pl_read_69 : List UInt8 := 172 :: []
abbrev t_Pl_read_68 : List UInt8 := 2 :: t_Pl_read_69
abbrev t_Pl_read_65 : List UInt8 := 167 :: 255 :: 213 :: t_Pl_read_68
abbrev t_Pl_read_62 : List UInt8 := 132 :: 2 :: 1 :: t_Pl_read_65
abbrev t_Pl_read_59 : List UInt8 := 181 :: 0 :: 44 :: t_Pl_read_62
abbrev t_Pl_read_58 : List UInt8 := 96 :: t_Pl_read_59
abbrev t_Pl_read_57 : List UInt8 := 4 :: t_Pl_read_58
abbrev t_Pl_read_54 : List UInt8 := 180 :: 0 :: 44 :: t_Pl_read_57
abbrev t_Pl_read_53 : List UInt8 := 89 :: t_Pl_read_54
abbrev t_Pl_read_52 : List UInt8 := 42 :: t_Pl_read_53
abbrev t_Pl_read_51 : List UInt8 := 172 :: t_Pl_read_52
abbrev t_Pl_read_48 : List UInt8 := 180 :: 0 :: 44 :: t_Pl_read_51
abbrev t_Pl_read_47 : List UInt8 := 42 :: t_Pl_read_48
abbrev t_Pl_read_44 : List UInt8 := 154 :: 0 :: 8 :: t_Pl_read_47
abbrev t_Pl_read_41 : List UInt8 := 182 :: 0 :: 52 :: t_Pl_read_44
abbrev t_Pl_read_40 : List UInt8 := 42 :: t_Pl_read_41
abbrev t_Pl_read_37 : List UInt8 := 162 :: 0 :: 31 :: t_Pl_read_40
abbrev t_Pl_read_34 : List UInt8 := 180 :: 0 :: 47 :: t_Pl_read_37
abbrev t_Pl_read_33 : List UInt8 := 43 :: t_Pl_read_34
abbrev t_Pl_read_30 : List UInt8 := 180 :: 0 :: 44 :: t_Pl_read_33
abbrev t_Pl_read_29 : List UInt8 := 42 :: t_Pl_read_30
abbrev t_Pl_read_26 : List UInt8 := 163 :: 0 :: 42 :: t_Pl_read_29
abbrev t_Pl_read_23 : List UInt8 := 17 :: 15 :: 160 :: t_Pl_read_26
abbrev t_Pl_read_22 : List UInt8 := 28 :: t_Pl_read_23
abbrev t_Pl_read_21 : List UInt8 := 61 :: t_Pl_read_22
abbrev t_Pl_read_20 : List UInt8 := 3 :: t_Pl_read_21
abbrev t_Pl_read_17 : List UInt8 := 181 :: 0 :: 44 :: t_Pl_read_20
abbrev t_Pl_read_16 : List UInt8 := 3 :: t_Pl_read_17
abbrev t_Pl_read_15 : List UInt8 := 42 :: t_Pl_read_16
abbrev t_Pl_read_12 : List UInt8 := 181 :: 0 :: 41 :: t_Pl_read_15
abbrev t_Pl_read_11 : List UInt8 := 3 :: t_Pl_read_12
abbrev t_Pl_read_10 : List UInt8 := 42 :: t_Pl_read_11
abbrev t_Pl_read_7 : List UInt8 := 181 :: 0 :: 37 :: t_Pl_read_10
abbrev t_Pl_read_6 : List UInt8 := 3 :: t_Pl_read_7
abbrev t_Pl_read_5 : List UInt8 := 42 :: t_Pl_read_6
abbrev t_Pl_read_2 : List UInt8 := 181 :: 0 :: 33 :: t_Pl_read_5
abbrev t_Pl_read_1 : List UInt8 := 43 :: t_Pl_read_2
abbrev t_Pl_read_0 : List UInt8 := 42 :: t_Pl_read_1
theorem a_Pl_read_0 : dk_at b_Pl_read 0 t_Pl_read_0 := dk_start (by decide +kernel)
theorem a_Pl_read_1 : dk_at b_Pl_read 1 t_Pl_read_1 := dk_go 1 a_Pl_read_0 rfl
theorem a_Pl_read_2 : dk_at b_Pl_read 2 t_Pl_read_2 := dk_go 1 a_Pl_read_1 rfl
theorem a_Pl_read_5 : dk_at b_Pl_read 5 t_Pl_read_5 := dk_go 3 a_Pl_read_2 rfl
theorem a_Pl_read_6 : dk_at b_Pl_read 6 t_Pl_read_6 := dk_go 1 a_Pl_read_5 rfl
theorem a_Pl_read_7 : dk_at b_Pl_read 7 t_Pl_read_7 := dk_go 1 a_Pl_read_6 rfl
theorem a_Pl_read_10 : dk_at b_Pl_read 10 t_Pl_read_10 := dk_go 3 a_Pl_read_7 rfl
theorem a_Pl_read_11 : dk_at b_Pl_read 11 t_Pl_read_11 := dk_go 1 a_Pl_read_10 rfl
theorem a_Pl_read_12 : dk_at b_Pl_read 12 t_Pl_read_12 := dk_go 1 a_Pl_read_11 rfl
theorem a_Pl_read_15 : dk_at b_Pl_read 15 t_Pl_read_15 := dk_go 3 a_Pl_read_12 rfl
theorem a_Pl_read_16 : dk_at b_Pl_read 16 t_Pl_read_16 := dk_go 1 a_Pl_read_15 rfl
theorem a_Pl_read_17 : dk_at b_Pl_read 17 t_Pl_read_17 := dk_go 1 a_Pl_read_16 rfl
theorem a_Pl_read_20 : dk_at b_Pl_read 20 t_Pl_read_20 := dk_go 3 a_Pl_read_17 rfl
theorem a_Pl_read_21 : dk_at b_Pl_read 21 t_Pl_read_21 := dk_go 1 a_Pl_read_20 rfl
theorem a_Pl_read_22 : dk_at b_Pl_read 22 t_Pl_read_22 := dk_go 1 a_Pl_read_21 rfl
theorem a_Pl_read_23 : dk_at b_Pl_read 23 t_Pl_read_23 := dk_go 1 a_Pl_read_22 rfl
theorem a_Pl_read_26 : dk_at b_Pl_read 26 t_Pl_read_26 := dk_go 3 a_Pl_read_23 rfl
theorem a_Pl_read_29 : dk_at b_Pl_read 29 t_Pl_read_29 := dk_go 3 a_Pl_read_26 rfl
theorem a_Pl_read_30 : dk_at b_Pl_read 30 t_Pl_read_30 := dk_go 1 a_Pl_read_29 rfl
theorem a_Pl_read_33 : dk_at b_Pl_read 33 t_Pl_read_33 := dk_go 3 a_Pl_read_30 rfl
theorem a_Pl_read_34 : dk_at b_Pl_read 34 t_Pl_read_34 := dk_go 1 a_Pl_read_33 rfl
theorem a_Pl_read_37 : dk_at b_Pl_read 37 t_Pl_read_37 := dk_go 3 a_Pl_read_34 rfl
theorem a_Pl_read_40 : dk_at b_Pl_read 40 t_Pl_read_40 := dk_go 3 a_Pl_read_37 rfl
theorem a_Pl_read_41 : dk_at b_Pl_read 41 t_Pl_read_41 := dk_go 1 a_Pl_read_40 rfl
theorem a_Pl_read_44 : dk_at b_Pl_read 44 t_Pl_read_44 := dk_go 3 a_Pl_read_41 rfl
theorem a_Pl_read_47 : dk_at b_Pl_read 47 t_Pl_read_47 := dk_go 3 a_Pl_read_44 rfl
theorem a_Pl_read_48 : dk_at b_Pl_read 48 t_Pl_read_48 := dk_go 1 a_Pl_read_47 rfl
theorem a_Pl_read_51 : dk_at b_Pl_read 51 t_Pl_read_51 := dk_go 3 a_Pl_read_48 rfl
theorem a_Pl_read_52 : dk_at b_Pl_read 52 t_Pl_read_52 := dk_go 1 a_Pl_read_51 rfl
theorem a_Pl_read_53 : dk_at b_Pl_read 53 t_Pl_read_53 := dk_go 1 a_Pl_read_52 rfl
theorem a_Pl_read_54 : dk_at b_Pl_read 54 t_Pl_read_54 := dk_go 1 a_Pl_read_53 rfl
theorem a_Pl_read_57 : dk_at b_Pl_read 57 t_Pl_read_57 := dk_go 3 a_Pl_read_54 rfl
theorem a_Pl_read_58 : dk_at b_Pl_read 58 t_Pl_read_58 := dk_go 1 a_Pl_read_57 rfl
theorem a_Pl_read_59 : dk_at b_Pl_read 59 t_Pl_read_59 := dk_go 1 a_Pl_read_58 rfl
theorem a_Pl_read_62 : dk_at b_Pl_read 62 t_Pl_read_62 := dk_go 3 a_Pl_read_59 rfl
theorem a_Pl_read_65 : dk_at b_Pl_read 65 t_Pl_read_65 := dk_go 3 a_Pl_read_62 rfl
theorem a_Pl_read_68 : dk_at b_Pl_read 68 t_Pl_read_68 := dk_go 3 a_Pl_read_65 rfl
theorem a_Pl_read_69 : dk_at b_Pl_read 69 t_Pl_read_69 := dk_go 1 a_Pl_read_68 rfl
theorem d_Pl_read_0 : decode b_Pl_read 0 = .ok (.aload_n 0, 1) := dk_0 a_Pl_read_0 (dko_42 _)
theorem d_Pl_read_1 : decode b_Pl_read 1 = .ok (.aload_n 1, 1) := dk_0 a_Pl_read_1 (dko_43 _)
theorem d_Pl_read_2 : decode b_Pl_read 2 = .ok (.putfield 33, 3) := dk_U2 a_Pl_read_2 (dko_181 _) rfl
theorem d_Pl_read_5 : decode b_Pl_read 5 = .ok (.aload_n 0, 1) := dk_0 a_Pl_read_5 (dko_42 _)
theorem d_Pl_read_6 : decode b_Pl_read 6 = .ok (.iconst 0, 1) := dk_0 a_Pl_read_6 (dko_3 _)
theorem d_Pl_read_7 : decode b_Pl_read 7 = .ok (.putfield 37, 3) := dk_U2 a_Pl_read_7 (dko_181 _) rfl
theorem d_Pl_read_10 : decode b_Pl_read 10 = .ok (.aload_n 0, 1) := dk_0 a_Pl_read_10 (dko_42 _)
theorem d_Pl_read_11 : decode b_Pl_read 11 = .ok (.iconst 0, 1) := dk_0 a_Pl_read_11 (dko_3 _)
theorem d_Pl_read_12 : decode b_Pl_read 12 = .ok (.putfield 41, 3) := dk_U2 a_Pl_read_12 (dko_181 _) rfl
theorem d_Pl_read_15 : decode b_Pl_read 15 = .ok (.aload_n 0, 1) := dk_0 a_Pl_read_15 (dko_42 _)
theorem d_Pl_read_16 : decode b_Pl_read 16 = .ok (.iconst 0, 1) := dk_0 a_Pl_read_16 (dko_3 _)
theorem d_Pl_read_17 : decode b_Pl_read 17 = .ok (.putfield 44, 3) := dk_U2 a_Pl_read_17 (dko_181 _) rfl
theorem d_Pl_read_20 : decode b_Pl_read 20 = .ok (.iconst 0, 1) := dk_0 a_Pl_read_20 (dko_3 _)
theorem d_Pl_read_21 : decode b_Pl_read 21 = .ok (.istore_n 2, 1) := dk_0 a_Pl_read_21 (dko_61 _)
theorem d_Pl_read_22 : decode b_Pl_read 22 = .ok (.iload_n 2, 1) := dk_0 a_Pl_read_22 (dko_28 _)
theorem d_Pl_read_23 : decode b_Pl_read 23 = .ok (.sipush 4000, 3) := dk_S2 a_Pl_read_23 (dko_17 _) (by decide +kernel)
theorem d_Pl_read_26 : decode b_Pl_read 26 = .ok (.if_icmp .gt 42, 3) := dk_S2 a_Pl_read_26 (dko_163 _) (by decide +kernel)
theorem d_Pl_read_29 : decode b_Pl_read 29 = .ok (.aload_n 0, 1) := dk_0 a_Pl_read_29 (dko_42 _)
theorem d_Pl_read_30 : decode b_Pl_read 30 = .ok (.getfield 44, 3) := dk_U2 a_Pl_read_30 (dko_180 _) rfl
theorem d_Pl_read_33 : decode b_Pl_read 33 = .ok (.aload_n 1, 1) := dk_0 a_Pl_read_33 (dko_43 _)
theorem d_Pl_read_34 : decode b_Pl_read 34 = .ok (.getfield 47, 3) := dk_U2 a_Pl_read_34 (dko_180 _) rfl
theorem d_Pl_read_37 : decode b_Pl_read 37 = .ok (.if_icmp .ge 31, 3) := dk_S2 a_Pl_read_37 (dko_162 _) (by decide +kernel)
theorem d_Pl_read_40 : decode b_Pl_read 40 = .ok (.aload_n 0, 1) := dk_0 a_Pl_read_40 (dko_42 _)
theorem d_Pl_read_41 : decode b_Pl_read 41 = .ok (.invokevirtual 52, 3) := dk_U2 a_Pl_read_41 (dko_182 _) rfl
theorem d_Pl_read_44 : decode b_Pl_read 44 = .ok (.ifCond .ne 8, 3) := dk_S2 a_Pl_read_44 (dko_154 _) (by decide +kernel)
theorem d_Pl_read_47 : decode b_Pl_read 47 = .ok (.aload_n 0, 1) := dk_0 a_Pl_read_47 (dko_42 _)
theorem d_Pl_read_48 : decode b_Pl_read 48 = .ok (.getfield 44, 3) := dk_U2 a_Pl_read_48 (dko_180 _) rfl
theorem d_Pl_read_51 : decode b_Pl_read 51 = .ok (.ireturn, 1) := dk_0 a_Pl_read_51 (dko_172 _)
theorem d_Pl_read_52 : decode b_Pl_read 52 = .ok (.aload_n 0, 1) := dk_0 a_Pl_read_52 (dko_42 _)
theorem d_Pl_read_53 : decode b_Pl_read 53 = .ok (.dup, 1) := dk_0 a_Pl_read_53 (dko_89 _)
theorem d_Pl_read_54 : decode b_Pl_read 54 = .ok (.getfield 44, 3) := dk_U2 a_Pl_read_54 (dko_180 _) rfl
theorem d_Pl_read_57 : decode b_Pl_read 57 = .ok (.iconst 1, 1) := dk_0 a_Pl_read_57 (dko_4 _)
theorem d_Pl_read_58 : decode b_Pl_read 58 = .ok (.iadd, 1) := dk_0 a_Pl_read_58 (dko_96 _)
theorem d_Pl_read_59 : decode b_Pl_read 59 = .ok (.putfield 44, 3) := dk_U2 a_Pl_read_59 (dko_181 _) rfl
theorem d_Pl_read_62 : decode b_Pl_read 62 = .ok (.iinc 2 1, 3) := dk_US a_Pl_read_62 (dko_132 _) (by decide +kernel)
theorem d_Pl_read_65 : decode b_Pl_read 65 = .ok (.goto (-43), 3) := dk_S2 a_Pl_read_65 (dko_167 _) (by decide +kernel)
theorem d_Pl_read_68 : decode b_Pl_read 68 = .ok (.iconst (-1), 1) := dk_0 a_Pl_read_68 (dko_2 _)
theorem d_Pl_read_69 : decode b_Pl_read 69 = .ok (.ireturn, 1) := dk_0 a_Pl_read_69 (dko_172 _)
set_option maxHeartbeats 4000000 in
set_option maxRecDepth 100000 in
theorem ok_Pl_read (pc : Nat) : OpS mt mi_Pl_read pc (cs_Pl_read pc) := (os_n (os_n (os_n (os_n (os_n (os_l (so_aload_n d_Pl_read_0 rfl)) (os_l (so_aload_n d_Pl_read_1 rfl))) (os_n (os_l (so_putR (D := "BreweryHouse$Tape") (C := R_Pl) (T := F_Pl) (N := 12) (j := 9) in_Pl t_Pl_ok n_Pl rfl (by decide) mw_117 rfl (by decide +kernel) d_Pl_read_2)) (os_l (so_aload_n d_Pl_read_5 rfl)))) (os_n (os_n (os_l (so_iconst d_Pl_read_6 (by decide))) (os_l (so_putI (C := R_Pl) (T := F_Pl) (N := 12) (j := 0) in_Pl t_Pl_ok n_Pl rfl (by decide) mw_86 rfl (by decide +kernel) d_Pl_read_7))) (os_n (os_l (so_aload_n d_Pl_read_10 rfl)) (os_n (os_l (so_iconst d_Pl_read_11 (by decide))) (os_l (so_putI (C := R_Pl) (T := F_Pl) (N := 12) (j := 1) in_Pl t_Pl_ok n_Pl rfl (by decide) mw_92 rfl (by decide +kernel) d_Pl_read_12)))))) (os_n (os_n (os_n (os_l (so_aload_n d_Pl_read_15 rfl)) (os_l (so_iconst d_Pl_read_16 (by decide)))) (os_n (os_l (so_putI (C := R_Pl) (T := F_Pl) (N := 12) (j := 10) in_Pl t_Pl_ok n_Pl rfl (by decide) mw_118 rfl (by decide +kernel) d_Pl_read_17)) (os_n (os_l (so_iconst d_Pl_read_20 (by decide))) (os_l (so_istore_n d_Pl_read_21 rfl (by decide)))))) (os_n (os_n (os_l (so_iload_n d_Pl_read_22 rfl)) (os_l (so_sipush d_Pl_read_23 (by decide)))) (os_n (os_l (so_icgt d_Pl_read_26 (by decide))) (os_n (os_l (so_aload_n d_Pl_read_29 rfl)) (os_l (so_get (C := R_Pl) (T := F_Pl) (N := 12) (j := 10) in_Pl rfl (by decide) mw_118 d_Pl_read_30))))))) (os_n (os_n (os_n (os_n (os_l (so_aload_n d_Pl_read_33 rfl)) (os_l (so_get (C := R_Tp) (T := F_Tp) (N := 3) (j := 2) in_Tp rfl (by decide) mw_41 d_Pl_read_34))) (os_n (os_l (so_icge d_Pl_read_37 (by decide))) (os_l (so_aload_n d_Pl_read_40 rfl)))) (os_n (os_n (os_l (so_callV (iv := mi_Pl_readLine) rfl rfl rfl mw_761 mw_763 sl_0 mw_5 mw_764 ⟨by decide +kernel, by decide +kernel, by decide +kernel⟩ (by decide) d_Pl_read_41)) (os_l (so_ifne d_Pl_read_44 (by decide)))) (os_n (os_l (so_aload_n d_Pl_read_47 rfl)) (os_n (os_l (so_get (C := R_Pl) (T := F_Pl) (N := 12) (j := 10) in_Pl rfl (by decide) mw_118 d_Pl_read_48)) (os_l (so_ireturn rfl d_Pl_read_51)))))) (os_n (os_n (os_n (os_l (so_aload_n d_Pl_read_52 rfl)) (os_l (so_dup d_Pl_read_53))) (os_n (os_l (so_get (C := R_Pl) (T := F_Pl) (N := 12) (j := 10) in_Pl rfl (by decide) mw_118 d_Pl_read_54)) (os_n (os_l (so_iconst d_Pl_read_57 (by decide))) (os_l (so_iadd d_Pl_read_58))))) (os_n (os_n (os_l (so_putI (C := R_Pl) (T := F_Pl) (N := 12) (j := 10) in_Pl t_Pl_ok n_Pl rfl (by decide) mw_118 rfl (by decide +kernel) d_Pl_read_59)) (os_l (so_iinc d_Pl_read_62 (by decide) (by decide)))) (os_n (os_l (so_goto d_Pl_read_65 (by decide))) (os_n (os_l (so_iconst d_Pl_read_68 (by decide))) (os_l (so_ireturn rfl d_Pl_read_69))))))))
abbrev t_Pl_readLine_228 : List UInt8 := 172 :: []
abbrev t_Pl_readLine_227 : List UInt8 := 3 :: t_Pl_readLine_228
abbrev t_Pl_readLine_224 : List UInt8 := 167 :: 0 :: 4 :: t_Pl_readLine_227
abbrev t_Pl_readLine_223 : List UInt8 := 4 :: t_Pl_readLine_224
abbrev t_Pl_readLine_220 : List UInt8 := 153 :: 0 :: 7 :: t_Pl_readLine_223
abbrev t_Pl_readLine_217 : List UInt8 := 182 :: 0 :: 85 :: t_Pl_readLine_220
abbrev t_Pl_readLine_216 : List UInt8 := 42 :: t_Pl_readLine_217
abbrev t_Pl_readLine_213 : List UInt8 := 153 :: 0 :: 14 :: t_Pl_readLine_216
abbrev t_Pl_readLine_210 : List UInt8 := 182 :: 0 :: 61 :: t_Pl_readLine_213
abbrev t_Pl_readLine_208 : List UInt8 := 18 :: 83 :: t_Pl_readLine_210
abbrev t_Pl_readLine_207 : List UInt8 := 42 :: t_Pl_readLine_208
abbrev t_Pl_readLine_206 : List UInt8 := 172 :: t_Pl_readLine_207
abbrev t_Pl_readLine_205 : List UInt8 := 3 :: t_Pl_readLine_206
abbrev t_Pl_readLine_202 : List UInt8 := 167 :: 0 :: 4 :: t_Pl_readLine_205
abbrev t_Pl_readLine_201 : List UInt8 := 4 :: t_Pl_readLine_202
abbrev t_Pl_readLine_198 : List UInt8 := 153 :: 0 :: 7 :: t_Pl_readLine_201
abbrev t_Pl_readLine_195 : List UInt8 := 182 :: 0 :: 75 :: t_Pl_readLine_198
abbrev t_Pl_readLine_194 : List UInt8 := 3 :: t_Pl_readLine_195
abbrev t_Pl_readLine_192 : List UInt8 := 16 :: 8 :: t_Pl_readLine_194
abbrev t_Pl_readLine_191 : List UInt8 := 42 :: t_Pl_readLine_192
abbrev t_Pl_readLine_188 : List UInt8 := 153 :: 0 :: 17 :: t_Pl_readLine_191
abbrev t_Pl_readLine_185 : List UInt8 := 182 :: 0 :: 68 :: t_Pl_readLine_188
abbrev t_Pl_readLine_184 : List UInt8 := 42 :: t_Pl_readLine_185
abbrev t_Pl_readLine_181 : List UInt8 := 153 :: 0 :: 24 :: t_Pl_readLine_184
abbrev t_Pl_readLine_178 : List UInt8 := 182 :: 0 :: 61 :: t_Pl_readLine_181
abbrev t_Pl_readLine_176 : List UInt8 := 18 :: 81 :: t_Pl_readLine_178
abbrev t_Pl_readLine_175 : List UInt8 := 42 :: t_Pl_readLine_176
abbrev t_Pl_readLine_172 : List UInt8 := 160 :: 0 :: 35 :: t_Pl_readLine_175
abbrev t_Pl_readLine_170 : List UInt8 := 16 :: 117 :: t_Pl_readLine_172
abbrev t_Pl_readLine_167 : List UInt8 := 182 :: 0 :: 56 :: t_Pl_readLine_170
abbrev t_Pl_readLine_166 : List UInt8 := 96 :: t_Pl_readLine_167
abbrev t_Pl_readLine_165 : List UInt8 := 4 :: t_Pl_readLine_166
abbrev t_Pl_readLine_162 : List UInt8 := 180 :: 0 :: 44 :: t_Pl_readLine_165
abbrev t_Pl_readLine_161 : List UInt8 := 42 :: t_Pl_readLine_162
abbrev t_Pl_readLine_158 : List UInt8 := 180 :: 0 :: 33 :: t_Pl_readLine_161
abbrev t_Pl_readLine_157 : List UInt8 := 42 :: t_Pl_readLine_158
abbrev t_Pl_readLine_154 : List UInt8 := 160 :: 0 :: 53 :: t_Pl_readLine_157
abbrev t_Pl_readLine_152 : List UInt8 := 16 :: 112 :: t_Pl_readLine_154
abbrev t_Pl_readLine_149 : List UInt8 := 182 :: 0 :: 56 :: t_Pl_readLine_152
abbrev t_Pl_readLine_146 : List UInt8 := 180 :: 0 :: 44 :: t_Pl_readLine_149
abbrev t_Pl_readLine_145 : List UInt8 := 42 :: t_Pl_readLine_146
abbrev t_Pl_readLine_142 : List UInt8 := 180 :: 0 :: 33 :: t_Pl_readLine_145
abbrev t_Pl_readLine_141 : List UInt8 := 42 :: t_Pl_readLine_142
abbrev t_Pl_readLine_140 : List UInt8 := 172 :: t_Pl_readLine_141
abbrev t_Pl_readLine_139 : List UInt8 := 3 :: t_Pl_readLine_140
abbrev t_Pl_readLine_136 : List UInt8 := 167 :: 0 :: 4 :: t_Pl_readLine_139
abbrev t_Pl_readLine_135 : List UInt8 := 4 :: t_Pl_readLine_136
abbrev t_Pl_readLine_132 : List UInt8 := 153 :: 0 :: 7 :: t_Pl_readLine_135
abbrev t_Pl_readLine_129 : List UInt8 := 182 :: 0 :: 75 :: t_Pl_readLine_132
abbrev t_Pl_readLine_128 : List UInt8 := 3 :: t_Pl_readLine_129
abbrev t_Pl_readLine_125 : List UInt8 := 180 :: 0 :: 71 :: t_Pl_readLine_128
abbrev t_Pl_readLine_124 : List UInt8 := 42 :: t_Pl_readLine_125
abbrev t_Pl_readLine_123 : List UInt8 := 42 :: t_Pl_readLine_124
abbrev t_Pl_readLine_120 : List UInt8 := 163 :: 0 :: 19 :: t_Pl_readLine_123
abbrev t_Pl_readLine_118 : List UInt8 := 16 :: 7 :: t_Pl_readLine_120
abbrev t_Pl_readLine_115 : List UInt8 := 180 :: 0 :: 71 :: t_Pl_readLine_118
abbrev t_Pl_readLine_114 : List UInt8 := 42 :: t_Pl_readLine_115
abbrev t_Pl_readLine_111 : List UInt8 := 153 :: 0 :: 28 :: t_Pl_readLine_114
abbrev t_Pl_readLine_108 : List UInt8 := 182 :: 0 :: 68 :: t_Pl_readLine_111
abbrev t_Pl_readLine_107 : List UInt8 := 42 :: t_Pl_readLine_108
abbrev t_Pl_readLine_104 : List UInt8 := 153 :: 0 :: 35 :: t_Pl_readLine_107
abbrev t_Pl_readLine_101 : List UInt8 := 182 :: 0 :: 65 :: t_Pl_readLine_104
abbrev t_Pl_readLine_100 : List UInt8 := 42 :: t_Pl_readLine_101
abbrev t_Pl_readLine_97 : List UInt8 := 153 :: 0 :: 42 :: t_Pl_readLine_100
abbrev t_Pl_readLine_94 : List UInt8 := 182 :: 0 :: 61 :: t_Pl_readLine_97
abbrev t_Pl_readLine_92 : List UInt8 := 18 :: 79 :: t_Pl_readLine_94
abbrev t_Pl_readLine_91 : List UInt8 := 42 :: t_Pl_readLine_92
abbrev t_Pl_readLine_88 : List UInt8 := 160 :: 0 :: 53 :: t_Pl_readLine_91
abbrev t_Pl_readLine_86 : List UInt8 := 16 :: 118 :: t_Pl_readLine_88
abbrev t_Pl_readLine_83 : List UInt8 := 182 :: 0 :: 56 :: t_Pl_readLine_86
abbrev t_Pl_readLine_80 : List UInt8 := 180 :: 0 :: 44 :: t_Pl_readLine_83
abbrev t_Pl_readLine_79 : List UInt8 := 42 :: t_Pl_readLine_80
abbrev t_Pl_readLine_76 : List UInt8 := 180 :: 0 :: 33 :: t_Pl_readLine_79
abbrev t_Pl_readLine_75 : List UInt8 := 42 :: t_Pl_readLine_76
abbrev t_Pl_readLine_74 : List UInt8 := 172 :: t_Pl_readLine_75
abbrev t_Pl_readLine_73 : List UInt8 := 3 :: t_Pl_readLine_74
abbrev t_Pl_readLine_70 : List UInt8 := 167 :: 0 :: 4 :: t_Pl_readLine_73
abbrev t_Pl_readLine_69 : List UInt8 := 4 :: t_Pl_readLine_70
abbrev t_Pl_readLine_66 : List UInt8 := 153 :: 0 :: 7 :: t_Pl_readLine_69
abbrev t_Pl_readLine_63 : List UInt8 := 182 :: 0 :: 75 :: t_Pl_readLine_66
abbrev t_Pl_readLine_60 : List UInt8 := 180 :: 0 :: 71 :: t_Pl_readLine_63
abbrev t_Pl_readLine_59 : List UInt8 := 42 :: t_Pl_readLine_60
abbrev t_Pl_readLine_57 : List UInt8 := 16 :: 9 :: t_Pl_readLine_59
abbrev t_Pl_readLine_56 : List UInt8 := 42 :: t_Pl_readLine_57
abbrev t_Pl_readLine_53 : List UInt8 := 163 :: 0 :: 20 :: t_Pl_readLine_56
abbrev t_Pl_readLine_51 : List UInt8 := 18 :: 74 :: t_Pl_readLine_53
abbrev t_Pl_readLine_48 : List UInt8 := 180 :: 0 :: 71 :: t_Pl_readLine_51
abbrev t_Pl_readLine_47 : List UInt8 := 42 :: t_Pl_readLine_48
abbrev t_Pl_readLine_44 : List UInt8 := 161 :: 0 :: 29 :: t_Pl_readLine_47
abbrev t_Pl_readLine_43 : List UInt8 := 4 :: t_Pl_readLine_44
abbrev t_Pl_readLine_40 : List UInt8 := 180 :: 0 :: 71 :: t_Pl_readLine_43
abbrev t_Pl_readLine_39 : List UInt8 := 42 :: t_Pl_readLine_40
abbrev t_Pl_readLine_36 : List UInt8 := 153 :: 0 :: 37 :: t_Pl_readLine_39
abbrev t_Pl_readLine_33 : List UInt8 := 182 :: 0 :: 68 :: t_Pl_readLine_36
abbrev t_Pl_readLine_32 : List UInt8 := 42 :: t_Pl_readLine_33
abbrev t_Pl_readLine_29 : List UInt8 := 153 :: 0 :: 44 :: t_Pl_readLine_32
abbrev t_Pl_readLine_26 : List UInt8 := 182 :: 0 :: 65 :: t_Pl_readLine_29
abbrev t_Pl_readLine_25 : List UInt8 := 42 :: t_Pl_readLine_26
abbrev t_Pl_readLine_22 : List UInt8 := 153 :: 0 :: 51 :: t_Pl_readLine_25
abbrev t_Pl_readLine_19 : List UInt8 := 182 :: 0 :: 61 :: t_Pl_readLine_22
abbrev t_Pl_readLine_17 : List UInt8 := 18 :: 59 :: t_Pl_readLine_19
abbrev t_Pl_readLine_16 : List UInt8 := 42 :: t_Pl_readLine_17
abbrev t_Pl_readLine_13 : List UInt8 := 160 :: 0 :: 62 :: t_Pl_readLine_16
abbrev t_Pl_readLine_11 : List UInt8 := 16 :: 116 :: t_Pl_readLine_13
abbrev t_Pl_readLine_8 : List UInt8 := 182 :: 0 :: 56 :: t_Pl_readLine_11
abbrev t_Pl_readLine_5 : List UInt8 := 180 :: 0 :: 44 :: t_Pl_readLine_8
abbrev t_Pl_readLine_4 : List UInt8 := 42 :: t_Pl_readLine_5
abbrev t_Pl_readLine_1 : List UInt8 := 180 :: 0 :: 33 :: t_Pl_readLine_4
abbrev t_Pl_readLine_0 : List UInt8 := 42 :: t_Pl_readLine_1
theorem a_Pl_readLine_0 : dk_at b_Pl_readLine 0 t_Pl_readLine_0 := dk_start (by decide +kernel)
theorem a_Pl_readLine_1 : dk_at b_Pl_readLine 1 t_Pl_readLine_1 := dk_go 1 a_Pl_readLine_0 rfl
theorem a_Pl_readLine_4 : dk_at b_Pl_readLine 4 t_Pl_readLine_4 := dk_go 3 a_Pl_readLine_1 rfl
theorem a_Pl_readLine_5 : dk_at b_Pl_readLine 5 t_Pl_readLine_5 := dk_go 1 a_Pl_readLine_4 rfl
theorem a_Pl_readLine_8 : dk_at b_Pl_readLine 8 t_Pl_readLine_8 := dk_go 3 a_Pl_readLine_5 rfl
theorem a_Pl_readLine_11 : dk_at b_Pl_readLine 11 t_Pl_readLine_11 := dk_go 3 a_Pl_readLine_8 rfl
theorem a_Pl_readLine_13 : dk_at b_Pl_readLine 13 t_Pl_readLine_13 := dk_go 2 a_Pl_readLine_11 rfl
theorem a_Pl_readLine_16 : dk_at b_Pl_readLine 16 t_Pl_readLine_16 := dk_go 3 a_Pl_readLine_13 rfl
theorem a_Pl_readLine_17 : dk_at b_Pl_readLine 17 t_Pl_readLine_17 := dk_go 1 a_Pl_readLine_16 rfl
theorem a_Pl_readLine_19 : dk_at b_Pl_readLine 19 t_Pl_readLine_19 := dk_go 2 a_Pl_readLine_17 rfl
theorem a_Pl_readLine_22 : dk_at b_Pl_readLine 22 t_Pl_readLine_22 := dk_go 3 a_Pl_readLine_19 rfl
theorem a_Pl_readLine_25 : dk_at b_Pl_readLine 25 t_Pl_readLine_25 := dk_go 3 a_Pl_readLine_22 rfl
theorem a_Pl_readLine_26 : dk_at b_Pl_readLine 26 t_Pl_readLine_26 := dk_go 1 a_Pl_readLine_25 rfl
theorem a_Pl_readLine_29 : dk_at b_Pl_readLine 29 t_Pl_readLine_29 := dk_go 3 a_Pl_readLine_26 rfl
theorem a_Pl_readLine_32 : dk_at b_Pl_readLine 32 t_Pl_readLine_32 := dk_go 3 a_Pl_readLine_29 rfl
theorem a_Pl_readLine_33 : dk_at b_Pl_readLine 33 t_Pl_readLine_33 := dk_go 1 a_Pl_readLine_32 rfl
theorem a_Pl_readLine_36 : dk_at b_Pl_readLine 36 t_Pl_readLine_36 := dk_go 3 a_Pl_readLine_33 rfl
theorem a_Pl_readLine_39 : dk_at b_Pl_readLine 39 t_Pl_readLine_39 := dk_go 3 a_Pl_readLine_36 rfl
theorem a_Pl_readLine_40 : dk_at b_Pl_readLine 40 t_Pl_readLine_40 := dk_go 1 a_Pl_readLine_39 rfl
theorem a_Pl_readLine_43 : dk_at b_Pl_readLine 43 t_Pl_readLine_43 := dk_go 3 a_Pl_readLine_40 rfl
theorem a_Pl_readLine_44 : dk_at b_Pl_readLine 44 t_Pl_readLine_44 := dk_go 1 a_Pl_readLine_43 rfl
theorem a_Pl_readLine_47 : dk_at b_Pl_readLine 47 t_Pl_readLine_47 := dk_go 3 a_Pl_readLine_44 rfl
theorem a_Pl_readLine_48 : dk_at b_Pl_readLine 48 t_Pl_readLine_48 := dk_go 1 a_Pl_readLine_47 rfl
theorem a_Pl_readLine_51 : dk_at b_Pl_readLine 51 t_Pl_readLine_51 := dk_go 3 a_Pl_readLine_48 rfl
theorem a_Pl_readLine_53 : dk_at b_Pl_readLine 53 t_Pl_readLine_53 := dk_go 2 a_Pl_readLine_51 rfl
theorem a_Pl_readLine_56 : dk_at b_Pl_readLine 56 t_Pl_readLine_56 := dk_go 3 a_Pl_readLine_53 rfl
theorem a_Pl_readLine_57 : dk_at b_Pl_readLine 57 t_Pl_readLine_57 := dk_go 1 a_Pl_readLine_56 rfl
theorem a_Pl_readLine_59 : dk_at b_Pl_readLine 59 t_Pl_readLine_59 := dk_go 2 a_Pl_readLine_57 rfl
theorem a_Pl_readLine_60 : dk_at b_Pl_readLine 60 t_Pl_readLine_60 := dk_go 1 a_Pl_readLine_59 rfl
theorem a_Pl_readLine_63 : dk_at b_Pl_readLine 63 t_Pl_readLine_63 := dk_go 3 a_Pl_readLine_60 rfl
theorem a_Pl_readLine_66 : dk_at b_Pl_readLine 66 t_Pl_readLine_66 := dk_go 3 a_Pl_readLine_63 rfl
theorem a_Pl_readLine_69 : dk_at b_Pl_readLine 69 t_Pl_readLine_69 := dk_go 3 a_Pl_readLine_66 rfl
theorem a_Pl_readLine_70 : dk_at b_Pl_readLine 70 t_Pl_readLine_70 := dk_go 1 a_Pl_readLine_69 rfl
theorem a_Pl_readLine_73 : dk_at b_Pl_readLine 73 t_Pl_readLine_73 := dk_go 3 a_Pl_readLine_70 rfl
theorem a_Pl_readLine_74 : dk_at b_Pl_readLine 74 t_Pl_readLine_74 := dk_go 1 a_Pl_readLine_73 rfl
theorem a_Pl_readLine_75 : dk_at b_Pl_readLine 75 t_Pl_readLine_75 := dk_go 1 a_Pl_readLine_74 rfl
theorem a_Pl_readLine_76 : dk_at b_Pl_readLine 76 t_Pl_readLine_76 := dk_go 1 a_Pl_readLine_75 rfl
theorem a_Pl_readLine_79 : dk_at b_Pl_readLine 79 t_Pl_readLine_79 := dk_go 3 a_Pl_readLine_76 rfl
theorem a_Pl_readLine_80 : dk_at b_Pl_readLine 80 t_Pl_readLine_80 := dk_go 1 a_Pl_readLine_79 rfl
theorem a_Pl_readLine_83 : dk_at b_Pl_readLine 83 t_Pl_readLine_83 := dk_go 3 a_Pl_readLine_80 rfl
theorem a_Pl_readLine_86 : dk_at b_Pl_readLine 86 t_Pl_readLine_86 := dk_go 3 a_Pl_readLine_83 rfl
theorem a_Pl_readLine_88 : dk_at b_Pl_readLine 88 t_Pl_readLine_88 := dk_go 2 a_Pl_readLine_86 rfl
theorem a_Pl_readLine_91 : dk_at b_Pl_readLine 91 t_Pl_readLine_91 := dk_go 3 a_Pl_readLine_88 rfl
theorem a_Pl_readLine_92 : dk_at b_Pl_readLine 92 t_Pl_readLine_92 := dk_go 1 a_Pl_readLine_91 rfl
theorem a_Pl_readLine_94 : dk_at b_Pl_readLine 94 t_Pl_readLine_94 := dk_go 2 a_Pl_readLine_92 rfl
theorem a_Pl_readLine_97 : dk_at b_Pl_readLine 97 t_Pl_readLine_97 := dk_go 3 a_Pl_readLine_94 rfl
theorem a_Pl_readLine_100 : dk_at b_Pl_readLine 100 t_Pl_readLine_100 := dk_go 3 a_Pl_readLine_97 rfl
theorem a_Pl_readLine_101 : dk_at b_Pl_readLine 101 t_Pl_readLine_101 := dk_go 1 a_Pl_readLine_100 rfl
theorem a_Pl_readLine_104 : dk_at b_Pl_readLine 104 t_Pl_readLine_104 := dk_go 3 a_Pl_readLine_101 rfl
theorem a_Pl_readLine_107 : dk_at b_Pl_readLine 107 t_Pl_readLine_107 := dk_go 3 a_Pl_readLine_104 rfl
theorem a_Pl_readLine_108 : dk_at b_Pl_readLine 108 t_Pl_readLine_108 := dk_go 1 a_Pl_readLine_107 rfl
theorem a_Pl_readLine_111 : dk_at b_Pl_readLine 111 t_Pl_readLine_111 := dk_go 3 a_Pl_readLine_108 rfl
theorem a_Pl_readLine_114 : dk_at b_Pl_readLine 114 t_Pl_readLine_114 := dk_go 3 a_Pl_readLine_111 rfl
theorem a_Pl_readLine_115 : dk_at b_Pl_readLine 115 t_Pl_readLine_115 := dk_go 1 a_Pl_readLine_114 rfl
theorem a_Pl_readLine_118 : dk_at b_Pl_readLine 118 t_Pl_readLine_118 := dk_go 3 a_Pl_readLine_115 rfl
theorem a_Pl_readLine_120 : dk_at b_Pl_readLine 120 t_Pl_readLine_120 := dk_go 2 a_Pl_readLine_118 rfl
theorem a_Pl_readLine_123 : dk_at b_Pl_readLine 123 t_Pl_readLine_123 := dk_go 3 a_Pl_readLine_120 rfl
theorem a_Pl_readLine_124 : dk_at b_Pl_readLine 124 t_Pl_readLine_124 := dk_go 1 a_Pl_readLine_123 rfl
theorem a_Pl_readLine_125 : dk_at b_Pl_readLine 125 t_Pl_readLine_125 := dk_go 1 a_Pl_readLine_124 rfl
theorem a_Pl_readLine_128 : dk_at b_Pl_readLine 128 t_Pl_readLine_128 := dk_go 3 a_Pl_readLine_125 rfl
theorem a_Pl_readLine_129 : dk_at b_Pl_readLine 129 t_Pl_readLine_129 := dk_go 1 a_Pl_readLine_128 rfl
theorem a_Pl_readLine_132 : dk_at b_Pl_readLine 132 t_Pl_readLine_132 := dk_go 3 a_Pl_readLine_129 rfl
theorem a_Pl_readLine_135 : dk_at b_Pl_readLine 135 t_Pl_readLine_135 := dk_go 3 a_Pl_readLine_132 rfl
theorem a_Pl_readLine_136 : dk_at b_Pl_readLine 136 t_Pl_readLine_136 := dk_go 1 a_Pl_readLine_135 rfl
theorem a_Pl_readLine_139 : dk_at b_Pl_readLine 139 t_Pl_readLine_139 := dk_go 3 a_Pl_readLine_136 rfl
theorem a_Pl_readLine_140 : dk_at b_Pl_readLine 140 t_Pl_readLine_140 := dk_go 1 a_Pl_readLine_139 rfl
theorem a_Pl_readLine_141 : dk_at b_Pl_readLine 141 t_Pl_readLine_141 := dk_go 1 a_Pl_readLine_140 rfl
theorem a_Pl_readLine_142 : dk_at b_Pl_readLine 142 t_Pl_readLine_142 := dk_go 1 a_Pl_readLine_141 rfl
theorem a_Pl_readLine_145 : dk_at b_Pl_readLine 145 t_Pl_readLine_145 := dk_go 3 a_Pl_readLine_142 rfl
theorem a_Pl_readLine_146 : dk_at b_Pl_readLine 146 t_Pl_readLine_146 := dk_go 1 a_Pl_readLine_145 rfl
theorem a_Pl_readLine_149 : dk_at b_Pl_readLine 149 t_Pl_readLine_149 := dk_go 3 a_Pl_readLine_146 rfl
theorem a_Pl_readLine_152 : dk_at b_Pl_readLine 152 t_Pl_readLine_152 := dk_go 3 a_Pl_readLine_149 rfl
theorem a_Pl_readLine_154 : dk_at b_Pl_readLine 154 t_Pl_readLine_154 := dk_go 2 a_Pl_readLine_152 rfl
theorem a_Pl_readLine_157 : dk_at b_Pl_readLine 157 t_Pl_readLine_157 := dk_go 3 a_Pl_readLine_154 rfl
theorem a_Pl_readLine_158 : dk_at b_Pl_readLine 158 t_Pl_readLine_158 := dk_go 1 a_Pl_readLine_157 rfl
theorem a_Pl_readLine_161 : dk_at b_Pl_readLine 161 t_Pl_readLine_161 := dk_go 3 a_Pl_readLine_158 rfl
theorem a_Pl_readLine_162 : dk_at b_Pl_readLine 162 t_Pl_readLine_162 := dk_go 1 a_Pl_readLine_161 rfl
theorem a_Pl_readLine_165 : dk_at b_Pl_readLine 165 t_Pl_readLine_165 := dk_go 3 a_Pl_readLine_162 rfl
theorem a_Pl_readLine_166 : dk_at b_Pl_readLine 166 t_Pl_readLine_166 := dk_go 1 a_Pl_readLine_165 rfl
theorem a_Pl_readLine_167 : dk_at b_Pl_readLine 167 t_Pl_readLine_167 := dk_go 1 a_Pl_readLine_166 rfl
theorem a_Pl_readLine_170 : dk_at b_Pl_readLine 170 t_Pl_readLine_170 := dk_go 3 a_Pl_readLine_167 rfl
theorem a_Pl_readLine_172 : dk_at b_Pl_readLine 172 t_Pl_readLine_172 := dk_go 2 a_Pl_readLine_170 rfl
theorem a_Pl_readLine_175 : dk_at b_Pl_readLine 175 t_Pl_readLine_175 := dk_go 3 a_Pl_readLine_172 rfl
theorem a_Pl_readLine_176 : dk_at b_Pl_readLine 176 t_Pl_readLine_176 := dk_go 1 a_Pl_readLine_175 rfl
theorem a_Pl_readLine_178 : dk_at b_Pl_readLine 178 t_Pl_readLine_178 := dk_go 2 a_Pl_readLine_176 rfl
theorem a_Pl_readLine_181 : dk_at b_Pl_readLine 181 t_Pl_readLine_181 := dk_go 3 a_Pl_readLine_178 rfl
theorem a_Pl_readLine_184 : dk_at b_Pl_readLine 184 t_Pl_readLine_184 := dk_go 3 a_Pl_readLine_181 rfl
theorem a_Pl_readLine_185 : dk_at b_Pl_readLine 185 t_Pl_readLine_185 := dk_go 1 a_Pl_readLine_184 rfl
theorem a_Pl_readLine_188 : dk_at b_Pl_readLine 188 t_Pl_readLine_188 := dk_go 3 a_Pl_readLine_185 rfl
theorem a_Pl_readLine_191 : dk_at b_Pl_readLine 191 t_Pl_readLine_191 := dk_go 3 a_Pl_readLine_188 rfl
theorem a_Pl_readLine_192 : dk_at b_Pl_readLine 192 t_Pl_readLine_192 := dk_go 1 a_Pl_readLine_191 rfl
theorem a_Pl_readLine_194 : dk_at b_Pl_readLine 194 t_Pl_readLine_194 := dk_go 2 a_Pl_readLine_192 rfl
theorem a_Pl_readLine_195 : dk_at b_Pl_readLine 195 t_Pl_readLine_195 := dk_go 1 a_Pl_readLine_194 rfl
theorem a_Pl_readLine_198 : dk_at b_Pl_readLine 198 t_Pl_readLine_198 := dk_go 3 a_Pl_readLine_195 rfl
theorem a_Pl_readLine_201 : dk_at b_Pl_readLine 201 t_Pl_readLine_201 := dk_go 3 a_Pl_readLine_198 rfl
theorem a_Pl_readLine_202 : dk_at b_Pl_readLine 202 t_Pl_readLine_202 := dk_go 1 a_Pl_readLine_201 rfl
theorem a_Pl_readLine_205 : dk_at b_Pl_readLine 205 t_Pl_readLine_205 := dk_go 3 a_Pl_readLine_202 rfl
theorem a_Pl_readLine_206 : dk_at b_Pl_readLine 206 t_Pl_readLine_206 := dk_go 1 a_Pl_readLine_205 rfl
theorem a_Pl_readLine_207 : dk_at b_Pl_readLine 207 t_Pl_readLine_207 := dk_go 1 a_Pl_readLine_206 rfl
theorem a_Pl_readLine_208 : dk_at b_Pl_readLine 208 t_Pl_readLine_208 := dk_go 1 a_Pl_readLine_207 rfl
theorem a_Pl_readLine_210 : dk_at b_Pl_readLine 210 t_Pl_readLine_210 := dk_go 2 a_Pl_readLine_208 rfl
theorem a_Pl_readLine_213 : dk_at b_Pl_readLine 213 t_Pl_readLine_213 := dk_go 3 a_Pl_readLine_210 rfl
theorem a_Pl_readLine_216 : dk_at b_Pl_readLine 216 t_Pl_readLine_216 := dk_go 3 a_Pl_readLine_213 rfl
theorem a_Pl_readLine_217 : dk_at b_Pl_readLine 217 t_Pl_readLine_217 := dk_go 1 a_Pl_readLine_216 rfl
theorem a_Pl_readLine_220 : dk_at b_Pl_readLine 220 t_Pl_readLine_220 := dk_go 3 a_Pl_readLine_217 rfl
theorem a_Pl_readLine_223 : dk_at b_Pl_readLine 223 t_Pl_readLine_223 := dk_go 3 a_Pl_readLine_220 rfl
theorem a_Pl_readLine_224 : dk_at b_Pl_readLine 224 t_Pl_readLine_224 := dk_go 1 a_Pl_readLine_223 rfl
theorem a_Pl_readLine_227 : dk_at b_Pl_readLine 227 t_Pl_readLine_227 := dk_go 3 a_Pl_readLine_224 rfl
theorem a_Pl_readLine_228 : dk_at b_Pl_readLine 228 t_Pl_readLine_228 := dk_go 1 a_Pl_readLine_227 rfl
theorem d_Pl_readLine_0 : decode b_Pl_readLine 0 = .ok (.aload_n 0, 1) := dk_0 a_Pl_readLine_0 (dko_42 _)
theorem d_Pl_readLine_1 : decode b_Pl_readLine 1 = .ok (.getfield 33, 3) := dk_U2 a_Pl_readLine_1 (dko_180 _) rfl
theorem d_Pl_readLine_4 : decode b_Pl_readLine 4 = .ok (.aload_n 0, 1) := dk_0 a_Pl_readLine_4 (dko_42 _)
theorem d_Pl_readLine_5 : decode b_Pl_readLine 5 = .ok (.getfield 44, 3) := dk_U2 a_Pl_readLine_5 (dko_180 _) rfl
theorem d_Pl_readLine_8 : decode b_Pl_readLine 8 = .ok (.invokevirtual 56, 3) := dk_U2 a_Pl_readLine_8 (dko_182 _) rfl
theorem d_Pl_readLine_11 : decode b_Pl_readLine 11 = .ok (.bipush 116, 2) := dk_S1 a_Pl_readLine_11 (dko_16 _) (by decide +kernel)
theorem d_Pl_readLine_13 : decode b_Pl_readLine 13 = .ok (.if_icmp .ne 62, 3) := dk_S2 a_Pl_readLine_13 (dko_160 _) (by decide +kernel)
theorem d_Pl_readLine_16 : decode b_Pl_readLine 16 = .ok (.aload_n 0, 1) := dk_0 a_Pl_readLine_16 (dko_42 _)
theorem d_Pl_readLine_17 : decode b_Pl_readLine 17 = .ok (.ldc 59, 2) := dk_U1 a_Pl_readLine_17 (dko_18 _) rfl
theorem d_Pl_readLine_19 : decode b_Pl_readLine 19 = .ok (.invokevirtual 61, 3) := dk_U2 a_Pl_readLine_19 (dko_182 _) rfl
theorem d_Pl_readLine_22 : decode b_Pl_readLine 22 = .ok (.ifCond .eq 51, 3) := dk_S2 a_Pl_readLine_22 (dko_153 _) (by decide +kernel)
theorem d_Pl_readLine_25 : decode b_Pl_readLine 25 = .ok (.aload_n 0, 1) := dk_0 a_Pl_readLine_25 (dko_42 _)
theorem d_Pl_readLine_26 : decode b_Pl_readLine 26 = .ok (.invokevirtual 65, 3) := dk_U2 a_Pl_readLine_26 (dko_182 _) rfl
theorem d_Pl_readLine_29 : decode b_Pl_readLine 29 = .ok (.ifCond .eq 44, 3) := dk_S2 a_Pl_readLine_29 (dko_153 _) (by decide +kernel)
theorem d_Pl_readLine_32 : decode b_Pl_readLine 32 = .ok (.aload_n 0, 1) := dk_0 a_Pl_readLine_32 (dko_42 _)
theorem d_Pl_readLine_33 : decode b_Pl_readLine 33 = .ok (.invokevirtual 68, 3) := dk_U2 a_Pl_readLine_33 (dko_182 _) rfl
theorem d_Pl_readLine_36 : decode b_Pl_readLine 36 = .ok (.ifCond .eq 37, 3) := dk_S2 a_Pl_readLine_36 (dko_153 _) (by decide +kernel)
theorem d_Pl_readLine_39 : decode b_Pl_readLine 39 = .ok (.aload_n 0, 1) := dk_0 a_Pl_readLine_39 (dko_42 _)
theorem d_Pl_readLine_40 : decode b_Pl_readLine 40 = .ok (.getfield 71, 3) := dk_U2 a_Pl_readLine_40 (dko_180 _) rfl
theorem d_Pl_readLine_43 : decode b_Pl_readLine 43 = .ok (.iconst 1, 1) := dk_0 a_Pl_readLine_43 (dko_4 _)
theorem d_Pl_readLine_44 : decode b_Pl_readLine 44 = .ok (.if_icmp .lt 29, 3) := dk_S2 a_Pl_readLine_44 (dko_161 _) (by decide +kernel)
theorem d_Pl_readLine_47 : decode b_Pl_readLine 47 = .ok (.aload_n 0, 1) := dk_0 a_Pl_readLine_47 (dko_42 _)
theorem d_Pl_readLine_48 : decode b_Pl_readLine 48 = .ok (.getfield 71, 3) := dk_U2 a_Pl_readLine_48 (dko_180 _) rfl
theorem d_Pl_readLine_51 : decode b_Pl_readLine 51 = .ok (.ldc 74, 2) := dk_U1 a_Pl_readLine_51 (dko_18 _) rfl
theorem d_Pl_readLine_53 : decode b_Pl_readLine 53 = .ok (.if_icmp .gt 20, 3) := dk_S2 a_Pl_readLine_53 (dko_163 _) (by decide +kernel)
theorem d_Pl_readLine_56 : decode b_Pl_readLine 56 = .ok (.aload_n 0, 1) := dk_0 a_Pl_readLine_56 (dko_42 _)
theorem d_Pl_readLine_57 : decode b_Pl_readLine 57 = .ok (.bipush 9, 2) := dk_S1 a_Pl_readLine_57 (dko_16 _) (by decide +kernel)
theorem d_Pl_readLine_59 : decode b_Pl_readLine 59 = .ok (.aload_n 0, 1) := dk_0 a_Pl_readLine_59 (dko_42 _)
theorem d_Pl_readLine_60 : decode b_Pl_readLine 60 = .ok (.getfield 71, 3) := dk_U2 a_Pl_readLine_60 (dko_180 _) rfl
theorem d_Pl_readLine_63 : decode b_Pl_readLine 63 = .ok (.invokevirtual 75, 3) := dk_U2 a_Pl_readLine_63 (dko_182 _) rfl
theorem d_Pl_readLine_66 : decode b_Pl_readLine 66 = .ok (.ifCond .eq 7, 3) := dk_S2 a_Pl_readLine_66 (dko_153 _) (by decide +kernel)
theorem d_Pl_readLine_69 : decode b_Pl_readLine 69 = .ok (.iconst 1, 1) := dk_0 a_Pl_readLine_69 (dko_4 _)
theorem d_Pl_readLine_70 : decode b_Pl_readLine 70 = .ok (.goto 4, 3) := dk_S2 a_Pl_readLine_70 (dko_167 _) (by decide +kernel)
theorem d_Pl_readLine_73 : decode b_Pl_readLine 73 = .ok (.iconst 0, 1) := dk_0 a_Pl_readLine_73 (dko_3 _)
theorem d_Pl_readLine_74 : decode b_Pl_readLine 74 = .ok (.ireturn, 1) := dk_0 a_Pl_readLine_74 (dko_172 _)
theorem d_Pl_readLine_75 : decode b_Pl_readLine 75 = .ok (.aload_n 0, 1) := dk_0 a_Pl_readLine_75 (dko_42 _)
theorem d_Pl_readLine_76 : decode b_Pl_readLine 76 = .ok (.getfield 33, 3) := dk_U2 a_Pl_readLine_76 (dko_180 _) rfl
theorem d_Pl_readLine_79 : decode b_Pl_readLine 79 = .ok (.aload_n 0, 1) := dk_0 a_Pl_readLine_79 (dko_42 _)
theorem d_Pl_readLine_80 : decode b_Pl_readLine 80 = .ok (.getfield 44, 3) := dk_U2 a_Pl_readLine_80 (dko_180 _) rfl
theorem d_Pl_readLine_83 : decode b_Pl_readLine 83 = .ok (.invokevirtual 56, 3) := dk_U2 a_Pl_readLine_83 (dko_182 _) rfl
theorem d_Pl_readLine_86 : decode b_Pl_readLine 86 = .ok (.bipush 118, 2) := dk_S1 a_Pl_readLine_86 (dko_16 _) (by decide +kernel)
theorem d_Pl_readLine_88 : decode b_Pl_readLine 88 = .ok (.if_icmp .ne 53, 3) := dk_S2 a_Pl_readLine_88 (dko_160 _) (by decide +kernel)
theorem d_Pl_readLine_91 : decode b_Pl_readLine 91 = .ok (.aload_n 0, 1) := dk_0 a_Pl_readLine_91 (dko_42 _)
theorem d_Pl_readLine_92 : decode b_Pl_readLine 92 = .ok (.ldc 79, 2) := dk_U1 a_Pl_readLine_92 (dko_18 _) rfl
theorem d_Pl_readLine_94 : decode b_Pl_readLine 94 = .ok (.invokevirtual 61, 3) := dk_U2 a_Pl_readLine_94 (dko_182 _) rfl
theorem d_Pl_readLine_97 : decode b_Pl_readLine 97 = .ok (.ifCond .eq 42, 3) := dk_S2 a_Pl_readLine_97 (dko_153 _) (by decide +kernel)
theorem d_Pl_readLine_100 : decode b_Pl_readLine 100 = .ok (.aload_n 0, 1) := dk_0 a_Pl_readLine_100 (dko_42 _)
theorem d_Pl_readLine_101 : decode b_Pl_readLine 101 = .ok (.invokevirtual 65, 3) := dk_U2 a_Pl_readLine_101 (dko_182 _) rfl
theorem d_Pl_readLine_104 : decode b_Pl_readLine 104 = .ok (.ifCond .eq 35, 3) := dk_S2 a_Pl_readLine_104 (dko_153 _) (by decide +kernel)
theorem d_Pl_readLine_107 : decode b_Pl_readLine 107 = .ok (.aload_n 0, 1) := dk_0 a_Pl_readLine_107 (dko_42 _)
theorem d_Pl_readLine_108 : decode b_Pl_readLine 108 = .ok (.invokevirtual 68, 3) := dk_U2 a_Pl_readLine_108 (dko_182 _) rfl
theorem d_Pl_readLine_111 : decode b_Pl_readLine 111 = .ok (.ifCond .eq 28, 3) := dk_S2 a_Pl_readLine_111 (dko_153 _) (by decide +kernel)
theorem d_Pl_readLine_114 : decode b_Pl_readLine 114 = .ok (.aload_n 0, 1) := dk_0 a_Pl_readLine_114 (dko_42 _)
theorem d_Pl_readLine_115 : decode b_Pl_readLine 115 = .ok (.getfield 71, 3) := dk_U2 a_Pl_readLine_115 (dko_180 _) rfl
theorem d_Pl_readLine_118 : decode b_Pl_readLine 118 = .ok (.bipush 7, 2) := dk_S1 a_Pl_readLine_118 (dko_16 _) (by decide +kernel)
theorem d_Pl_readLine_120 : decode b_Pl_readLine 120 = .ok (.if_icmp .gt 19, 3) := dk_S2 a_Pl_readLine_120 (dko_163 _) (by decide +kernel)
theorem d_Pl_readLine_123 : decode b_Pl_readLine 123 = .ok (.aload_n 0, 1) := dk_0 a_Pl_readLine_123 (dko_42 _)
theorem d_Pl_readLine_124 : decode b_Pl_readLine 124 = .ok (.aload_n 0, 1) := dk_0 a_Pl_readLine_124 (dko_42 _)
theorem d_Pl_readLine_125 : decode b_Pl_readLine 125 = .ok (.getfield 71, 3) := dk_U2 a_Pl_readLine_125 (dko_180 _) rfl
theorem d_Pl_readLine_128 : decode b_Pl_readLine 128 = .ok (.iconst 0, 1) := dk_0 a_Pl_readLine_128 (dko_3 _)
theorem d_Pl_readLine_129 : decode b_Pl_readLine 129 = .ok (.invokevirtual 75, 3) := dk_U2 a_Pl_readLine_129 (dko_182 _) rfl
theorem d_Pl_readLine_132 : decode b_Pl_readLine 132 = .ok (.ifCond .eq 7, 3) := dk_S2 a_Pl_readLine_132 (dko_153 _) (by decide +kernel)
theorem d_Pl_readLine_135 : decode b_Pl_readLine 135 = .ok (.iconst 1, 1) := dk_0 a_Pl_readLine_135 (dko_4 _)
theorem d_Pl_readLine_136 : decode b_Pl_readLine 136 = .ok (.goto 4, 3) := dk_S2 a_Pl_readLine_136 (dko_167 _) (by decide +kernel)
theorem d_Pl_readLine_139 : decode b_Pl_readLine 139 = .ok (.iconst 0, 1) := dk_0 a_Pl_readLine_139 (dko_3 _)
theorem d_Pl_readLine_140 : decode b_Pl_readLine 140 = .ok (.ireturn, 1) := dk_0 a_Pl_readLine_140 (dko_172 _)
theorem d_Pl_readLine_141 : decode b_Pl_readLine 141 = .ok (.aload_n 0, 1) := dk_0 a_Pl_readLine_141 (dko_42 _)
theorem d_Pl_readLine_142 : decode b_Pl_readLine 142 = .ok (.getfield 33, 3) := dk_U2 a_Pl_readLine_142 (dko_180 _) rfl
theorem d_Pl_readLine_145 : decode b_Pl_readLine 145 = .ok (.aload_n 0, 1) := dk_0 a_Pl_readLine_145 (dko_42 _)
theorem d_Pl_readLine_146 : decode b_Pl_readLine 146 = .ok (.getfield 44, 3) := dk_U2 a_Pl_readLine_146 (dko_180 _) rfl
theorem d_Pl_readLine_149 : decode b_Pl_readLine 149 = .ok (.invokevirtual 56, 3) := dk_U2 a_Pl_readLine_149 (dko_182 _) rfl
theorem d_Pl_readLine_152 : decode b_Pl_readLine 152 = .ok (.bipush 112, 2) := dk_S1 a_Pl_readLine_152 (dko_16 _) (by decide +kernel)
theorem d_Pl_readLine_154 : decode b_Pl_readLine 154 = .ok (.if_icmp .ne 53, 3) := dk_S2 a_Pl_readLine_154 (dko_160 _) (by decide +kernel)
theorem d_Pl_readLine_157 : decode b_Pl_readLine 157 = .ok (.aload_n 0, 1) := dk_0 a_Pl_readLine_157 (dko_42 _)
theorem d_Pl_readLine_158 : decode b_Pl_readLine 158 = .ok (.getfield 33, 3) := dk_U2 a_Pl_readLine_158 (dko_180 _) rfl
theorem d_Pl_readLine_161 : decode b_Pl_readLine 161 = .ok (.aload_n 0, 1) := dk_0 a_Pl_readLine_161 (dko_42 _)
theorem d_Pl_readLine_162 : decode b_Pl_readLine 162 = .ok (.getfield 44, 3) := dk_U2 a_Pl_readLine_162 (dko_180 _) rfl
theorem d_Pl_readLine_165 : decode b_Pl_readLine 165 = .ok (.iconst 1, 1) := dk_0 a_Pl_readLine_165 (dko_4 _)
theorem d_Pl_readLine_166 : decode b_Pl_readLine 166 = .ok (.iadd, 1) := dk_0 a_Pl_readLine_166 (dko_96 _)
theorem d_Pl_readLine_167 : decode b_Pl_readLine 167 = .ok (.invokevirtual 56, 3) := dk_U2 a_Pl_readLine_167 (dko_182 _) rfl
theorem d_Pl_readLine_170 : decode b_Pl_readLine 170 = .ok (.bipush 117, 2) := dk_S1 a_Pl_readLine_170 (dko_16 _) (by decide +kernel)
theorem d_Pl_readLine_172 : decode b_Pl_readLine 172 = .ok (.if_icmp .ne 35, 3) := dk_S2 a_Pl_readLine_172 (dko_160 _) (by decide +kernel)
theorem d_Pl_readLine_175 : decode b_Pl_readLine 175 = .ok (.aload_n 0, 1) := dk_0 a_Pl_readLine_175 (dko_42 _)
theorem d_Pl_readLine_176 : decode b_Pl_readLine 176 = .ok (.ldc 81, 2) := dk_U1 a_Pl_readLine_176 (dko_18 _) rfl
theorem d_Pl_readLine_178 : decode b_Pl_readLine 178 = .ok (.invokevirtual 61, 3) := dk_U2 a_Pl_readLine_178 (dko_182 _) rfl
theorem d_Pl_readLine_181 : decode b_Pl_readLine 181 = .ok (.ifCond .eq 24, 3) := dk_S2 a_Pl_readLine_181 (dko_153 _) (by decide +kernel)
theorem d_Pl_readLine_184 : decode b_Pl_readLine 184 = .ok (.aload_n 0, 1) := dk_0 a_Pl_readLine_184 (dko_42 _)
theorem d_Pl_readLine_185 : decode b_Pl_readLine 185 = .ok (.invokevirtual 68, 3) := dk_U2 a_Pl_readLine_185 (dko_182 _) rfl
theorem d_Pl_readLine_188 : decode b_Pl_readLine 188 = .ok (.ifCond .eq 17, 3) := dk_S2 a_Pl_readLine_188 (dko_153 _) (by decide +kernel)
theorem d_Pl_readLine_191 : decode b_Pl_readLine 191 = .ok (.aload_n 0, 1) := dk_0 a_Pl_readLine_191 (dko_42 _)
theorem d_Pl_readLine_192 : decode b_Pl_readLine 192 = .ok (.bipush 8, 2) := dk_S1 a_Pl_readLine_192 (dko_16 _) (by decide +kernel)
theorem d_Pl_readLine_194 : decode b_Pl_readLine 194 = .ok (.iconst 0, 1) := dk_0 a_Pl_readLine_194 (dko_3 _)
theorem d_Pl_readLine_195 : decode b_Pl_readLine 195 = .ok (.invokevirtual 75, 3) := dk_U2 a_Pl_readLine_195 (dko_182 _) rfl
theorem d_Pl_readLine_198 : decode b_Pl_readLine 198 = .ok (.ifCond .eq 7, 3) := dk_S2 a_Pl_readLine_198 (dko_153 _) (by decide +kernel)
theorem d_Pl_readLine_201 : decode b_Pl_readLine 201 = .ok (.iconst 1, 1) := dk_0 a_Pl_readLine_201 (dko_4 _)
theorem d_Pl_readLine_202 : decode b_Pl_readLine 202 = .ok (.goto 4, 3) := dk_S2 a_Pl_readLine_202 (dko_167 _) (by decide +kernel)
theorem d_Pl_readLine_205 : decode b_Pl_readLine 205 = .ok (.iconst 0, 1) := dk_0 a_Pl_readLine_205 (dko_3 _)
theorem d_Pl_readLine_206 : decode b_Pl_readLine 206 = .ok (.ireturn, 1) := dk_0 a_Pl_readLine_206 (dko_172 _)
theorem d_Pl_readLine_207 : decode b_Pl_readLine 207 = .ok (.aload_n 0, 1) := dk_0 a_Pl_readLine_207 (dko_42 _)
theorem d_Pl_readLine_208 : decode b_Pl_readLine 208 = .ok (.ldc 83, 2) := dk_U1 a_Pl_readLine_208 (dko_18 _) rfl
theorem d_Pl_readLine_210 : decode b_Pl_readLine 210 = .ok (.invokevirtual 61, 3) := dk_U2 a_Pl_readLine_210 (dko_182 _) rfl
theorem d_Pl_readLine_213 : decode b_Pl_readLine 213 = .ok (.ifCond .eq 14, 3) := dk_S2 a_Pl_readLine_213 (dko_153 _) (by decide +kernel)
theorem d_Pl_readLine_216 : decode b_Pl_readLine 216 = .ok (.aload_n 0, 1) := dk_0 a_Pl_readLine_216 (dko_42 _)
theorem d_Pl_readLine_217 : decode b_Pl_readLine 217 = .ok (.invokevirtual 85, 3) := dk_U2 a_Pl_readLine_217 (dko_182 _) rfl
theorem d_Pl_readLine_220 : decode b_Pl_readLine 220 = .ok (.ifCond .eq 7, 3) := dk_S2 a_Pl_readLine_220 (dko_153 _) (by decide +kernel)
theorem d_Pl_readLine_223 : decode b_Pl_readLine 223 = .ok (.iconst 1, 1) := dk_0 a_Pl_readLine_223 (dko_4 _)
theorem d_Pl_readLine_224 : decode b_Pl_readLine 224 = .ok (.goto 4, 3) := dk_S2 a_Pl_readLine_224 (dko_167 _) (by decide +kernel)
theorem d_Pl_readLine_227 : decode b_Pl_readLine 227 = .ok (.iconst 0, 1) := dk_0 a_Pl_readLine_227 (dko_3 _)
theorem d_Pl_readLine_228 : decode b_Pl_readLine 228 = .ok (.ireturn, 1) := dk_0 a_Pl_readLine_228 (dko_172 _)
set_option maxHeartbeats 4000000 in
set_option maxRecDepth 100000 in
theorem ok_Pl_readLine (pc : Nat) : OpS mt mi_Pl_readLine pc (cs_Pl_readLine pc) := (os_n (os_n (os_n (os_n (os_n (os_n (os_l (so_aload_n d_Pl_readLine_0 rfl)) (os_n (os_l (so_get (C := R_Pl) (T := F_Pl) (N := 12) (j := 9) in_Pl rfl (by decide) mw_117 d_Pl_readLine_1)) (os_l (so_aload_n d_Pl_readLine_4 rfl)))) (os_n (os_l (so_get (C := R_Pl) (T := F_Pl) (N := 12) (j := 10) in_Pl rfl (by decide) mw_118 d_Pl_readLine_5)) (os_n (os_l (so_callV (iv := mi_Tp_at) rfl rfl rfl mw_765 mw_754 mw_755 mw_2 mw_756 ⟨by decide +kernel, by decide +kernel, by decide +kernel⟩ (by decide) d_Pl_readLine_8)) (os_l (so_bipush d_Pl_readLine_11 (by decide)))))) (os_n (os_n (os_l (so_icne d_Pl_readLine_13 (by decide))) (os_n (os_l (so_aload_n d_Pl_readLine_16 rfl)) (os_l (so_ldcS (k := 1) (idx := 0) (q := ("BreweryHouse$Plant", 59, "tank ")) (by decide +kernel) rfl d_Pl_readLine_17)))) (os_n (os_n (os_l (so_callV (iv := mi_Pl_takes) rfl rfl rfl mw_767 mw_769 sl_1 mw_5 mw_770 ⟨by decide +kernel, by decide +kernel, by decide +kernel⟩ (by decide) d_Pl_readLine_19)) (os_l (so_ifeq d_Pl_readLine_22 (by decide)))) (os_n (os_l (so_aload_n d_Pl_readLine_25 rfl)) (os_l (so_callV (iv := mi_Pl_takesNumber) rfl rfl rfl mw_773 mw_775 sl_2 mw_5 mw_776 ⟨by decide +kernel, by decide +kernel, by decide +kernel⟩ (by decide) d_Pl_readLine_26)))))) (os_n (os_n (os_n (os_l (so_ifeq d_Pl_readLine_29 (by decide))) (os_n (os_l (so_aload_n d_Pl_readLine_32 rfl)) (os_l (so_callV (iv := mi_Pl_endsLine) rfl rfl rfl mw_780 mw_782 sl_3 mw_5 mw_783 ⟨by decide +kernel, by decide +kernel, by decide +kernel⟩ (by decide) d_Pl_readLine_33)))) (os_n (os_n (os_l (so_ifeq d_Pl_readLine_36 (by decide))) (os_l (so_aload_n d_Pl_readLine_39 rfl))) (os_n (os_l (so_get (C := R_Pl) (T := F_Pl) (N := 12) (j := 11) in_Pl rfl (by decide) mw_119 d_Pl_readLine_40)) (os_l (so_iconst d_Pl_readLine_43 (by decide)))))) (os_n (os_n (os_l (so_iclt d_Pl_readLine_44 (by decide))) (os_n (os_l (so_aload_n d_Pl_readLine_47 rfl)) (os_l (so_get (C := R_Pl) (T := F_Pl) (N := 12) (j := 11) in_Pl rfl (by decide) mw_119 d_Pl_readLine_48)))) (os_n (os_n (os_l (so_ldc mw_784 d_Pl_readLine_51)) (os_l (so_icgt d_Pl_readLine_53 (by decide)))) (os_n (os_l (so_aload_n d_Pl_readLine_56 rfl)) (os_l (so_bipush d_Pl_readLine_57 (by decide)))))))) (os_n (os_n (os_n (os_n (os_l (so_aload_n d_Pl_readLine_59 rfl)) (os_n (os_l (so_get (C := R_Pl) (T := F_Pl) (N := 12) (j := 11) in_Pl rfl (by decide) mw_119 d_Pl_readLine_60)) (os_l (so_callV (iv := mi_Pl_addThing) rfl rfl rfl mw_785 mw_787 sl_4 mw_5 mw_788 ⟨by decide +kernel, by decide +kernel, by decide +kernel⟩ (by decide) d_Pl_readLine_63)))) (os_n (os_l (so_ifeq d_Pl_readLine_66 (by decide))) (os_n (os_l (so_iconst d_Pl_readLine_69 (by decide))) (os_l (so_goto d_Pl_readLine_70 (by decide)))))) (os_n (os_n (os_l (so_iconst d_Pl_readLine_73 (by decide))) (os_n (os_l (so_zreturn rfl d_Pl_readLine_74)) (os_l (so_aload_n d_Pl_readLine_75 rfl)))) (os_n (os_n (os_l (so_get (C := R_Pl) (T := F_Pl) (N := 12) (j := 9) in_Pl rfl (by decide) mw_117 d_Pl_readLine_76)) (os_l (so_aload_n d_Pl_readLine_79 rfl))) (os_n (os_l (so_get (C := R_Pl) (T := F_Pl) (N := 12) (j := 10) in_Pl rfl (by decide) mw_118 d_Pl_readLine_80)) (os_l (so_callV (iv := mi_Tp_at) rfl rfl rfl mw_765 mw_754 mw_755 mw_2 mw_756 ⟨by decide +kernel, by decide +kernel, by decide +kernel⟩ (by decide) d_Pl_readLine_83)))))) (os_n (os_n (os_n (os_l (so_bipush d_Pl_readLine_86 (by decide))) (os_n (os_l (so_icne d_Pl_readLine_88 (by decide))) (os_l (so_aload_n d_Pl_readLine_91 rfl)))) (os_n (os_n (os_l (so_ldcS (k := 2) (idx := 0) (q := ("BreweryHouse$Plant", 79, "valve ")) (by decide +kernel) rfl d_Pl_readLine_92)) (os_l (so_callV (iv := mi_Pl_takes) rfl rfl rfl mw_767 mw_769 sl_1 mw_5 mw_770 ⟨by decide +kernel, by decide +kernel, by decide +kernel⟩ (by decide) d_Pl_readLine_94))) (os_n (os_l (so_ifeq d_Pl_readLine_97 (by decide))) (os_l (so_aload_n d_Pl_readLine_100 rfl))))) (os_n (os_n (os_l (so_callV (iv := mi_Pl_takesNumber) rfl rfl rfl mw_773 mw_775 sl_2 mw_5 mw_776 ⟨by decide +kernel, by decide +kernel, by decide +kernel⟩ (by decide) d_Pl_readLine_101)) (os_n (os_l (so_ifeq d_Pl_readLine_104 (by decide))) (os_l (so_aload_n d_Pl_readLine_107 rfl)))) (os_n (os_n (os_l (so_callV (iv := mi_Pl_endsLine) rfl rfl rfl mw_780 mw_782 sl_3 mw_5 mw_783 ⟨by decide +kernel, by decide +kernel, by decide +kernel⟩ (by decide) d_Pl_readLine_108)) (os_l (so_ifeq d_Pl_readLine_111 (by decide)))) (os_n (os_l (so_aload_n d_Pl_readLine_114 rfl)) (os_l (so_get (C := R_Pl) (T := F_Pl) (N := 12) (j := 11) in_Pl rfl (by decide) mw_119 d_Pl_readLine_115)))))))) (os_n (os_n (os_n (os_n (os_n (os_l (so_bipush d_Pl_readLine_118 (by decide))) (os_n (os_l (so_icgt d_Pl_readLine_120 (by decide))) (os_l (so_aload_n d_Pl_readLine_123 rfl)))) (os_n (os_l (so_aload_n d_Pl_readLine_124 rfl)) (os_n (os_l (so_get (C := R_Pl) (T := F_Pl) (N := 12) (j := 11) in_Pl rfl (by decide) mw_119 d_Pl_readLine_125)) (os_l (so_iconst d_Pl_readLine_128 (by decide)))))) (os_n (os_n (os_l (so_callV (iv := mi_Pl_addThing) rfl rfl rfl mw_785 mw_787 sl_4 mw_5 mw_788 ⟨by decide +kernel, by decide +kernel, by decide +kernel⟩ (by decide) d_Pl_readLine_129)) (os_n (os_l (so_ifeq d_Pl_readLine_132 (by decide))) (os_l (so_iconst d_Pl_readLine_135 (by decide))))) (os_n (os_n (os_l (so_goto d_Pl_readLine_136 (by decide))) (os_l (so_iconst d_Pl_readLine_139 (by decide)))) (os_n (os_l (so_zreturn rfl d_Pl_readLine_140)) (os_l (so_aload_n d_Pl_readLine_141 rfl)))))) (os_n (os_n (os_n (os_l (so_get (C := R_Pl) (T := F_Pl) (N := 12) (j := 9) in_Pl rfl (by decide) mw_117 d_Pl_readLine_142)) (os_n (os_l (so_aload_n d_Pl_readLine_145 rfl)) (os_l (so_get (C := R_Pl) (T := F_Pl) (N := 12) (j := 10) in_Pl rfl (by decide) mw_118 d_Pl_readLine_146)))) (os_n (os_n (os_l (so_callV (iv := mi_Tp_at) rfl rfl rfl mw_765 mw_754 mw_755 mw_2 mw_756 ⟨by decide +kernel, by decide +kernel, by decide +kernel⟩ (by decide) d_Pl_readLine_149)) (os_l (so_bipush d_Pl_readLine_152 (by decide)))) (os_n (os_l (so_icne d_Pl_readLine_154 (by decide))) (os_l (so_aload_n d_Pl_readLine_157 rfl))))) (os_n (os_n (os_l (so_get (C := R_Pl) (T := F_Pl) (N := 12) (j := 9) in_Pl rfl (by decide) mw_117 d_Pl_readLine_158)) (os_n (os_l (so_aload_n d_Pl_readLine_161 rfl)) (os_l (so_get (C := R_Pl) (T := F_Pl) (N := 12) (j := 10) in_Pl rfl (by decide) mw_118 d_Pl_readLine_162)))) (os_n (os_n (os_l (so_iconst d_Pl_readLine_165 (by decide))) (os_l (so_iadd d_Pl_readLine_166))) (os_n (os_l (so_callV (iv := mi_Tp_at) rfl rfl rfl mw_765 mw_754 mw_755 mw_2 mw_756 ⟨by decide +kernel, by decide +kernel, by decide +kernel⟩ (by decide) d_Pl_readLine_167)) (os_l (so_bipush d_Pl_readLine_170 (by decide)))))))) (os_n (os_n (os_n (os_n (os_l (so_icne d_Pl_readLine_172 (by decide))) (os_n (os_l (so_aload_n d_Pl_readLine_175 rfl)) (os_l (so_ldcS (k := 3) (idx := 0) (q := ("BreweryHouse$Plant", 81, "pump")) (by decide +kernel) rfl d_Pl_readLine_176)))) (os_n (os_n (os_l (so_callV (iv := mi_Pl_takes) rfl rfl rfl mw_767 mw_769 sl_1 mw_5 mw_770 ⟨by decide +kernel, by decide +kernel, by decide +kernel⟩ (by decide) d_Pl_readLine_178)) (os_l (so_ifeq d_Pl_readLine_181 (by decide)))) (os_n (os_l (so_aload_n d_Pl_readLine_184 rfl)) (os_l (so_callV (iv := mi_Pl_endsLine) rfl rfl rfl mw_780 mw_782 sl_3 mw_5 mw_783 ⟨by decide +kernel, by decide +kernel, by decide +kernel⟩ (by decide) d_Pl_readLine_185))))) (os_n (os_n (os_l (so_ifeq d_Pl_readLine_188 (by decide))) (os_n (os_l (so_aload_n d_Pl_readLine_191 rfl)) (os_l (so_bipush d_Pl_readLine_192 (by decide))))) (os_n (os_n (os_l (so_iconst d_Pl_readLine_194 (by decide))) (os_l (so_callV (iv := mi_Pl_addThing) rfl rfl rfl mw_785 mw_787 sl_4 mw_5 mw_788 ⟨by decide +kernel, by decide +kernel, by decide +kernel⟩ (by decide) d_Pl_readLine_195))) (os_n (os_l (so_ifeq d_Pl_readLine_198 (by decide))) (os_l (so_iconst d_Pl_readLine_201 (by decide))))))) (os_n (os_n (os_n (os_l (so_goto d_Pl_readLine_202 (by decide))) (os_n (os_l (so_iconst d_Pl_readLine_205 (by decide))) (os_l (so_zreturn rfl d_Pl_readLine_206)))) (os_n (os_n (os_l (so_aload_n d_Pl_readLine_207 rfl)) (os_l (so_ldcS (k := 4) (idx := 0) (q := ("BreweryHouse$Plant", 83, "pipe ")) (by decide +kernel) rfl d_Pl_readLine_208))) (os_n (os_l (so_callV (iv := mi_Pl_takes) rfl rfl rfl mw_767 mw_769 sl_1 mw_5 mw_770 ⟨by decide +kernel, by decide +kernel, by decide +kernel⟩ (by decide) d_Pl_readLine_210)) (os_l (so_ifeq d_Pl_readLine_213 (by decide)))))) (os_n (os_n (os_l (so_aload_n d_Pl_readLine_216 rfl)) (os_n (os_l (so_callV (iv := mi_Pl_readPipe) rfl rfl rfl mw_792 mw_794 sl_5 mw_5 mw_795 ⟨by decide +kernel, by decide +kernel, by decide +kernel⟩ (by decide) d_Pl_readLine_217)) (os_l (so_ifeq d_Pl_readLine_220 (by decide))))) (os_n (os_n (os_l (so_iconst d_Pl_readLine_223 (by decide))) (os_l (so_goto d_Pl_readLine_224 (by decide)))) (os_n (os_l (so_iconst d_Pl_readLine_227 (by decide))) (os_l (so_zreturn rfl d_Pl_readLine_228)))))))))
abbrev t_Pl_readPipe_78 : List UInt8 := 172 :: []
abbrev t_Pl_readPipe_77 : List UInt8 := 3 :: t_Pl_readPipe_78
abbrev t_Pl_readPipe_74 : List UInt8 := 167 :: 0 :: 4 :: t_Pl_readPipe_77
abbrev t_Pl_readPipe_73 : List UInt8 := 4 :: t_Pl_readPipe_74
abbrev t_Pl_readPipe_70 : List UInt8 := 153 :: 0 :: 7 :: t_Pl_readPipe_73
abbrev t_Pl_readPipe_67 : List UInt8 := 182 :: 0 :: 93 :: t_Pl_readPipe_70
abbrev t_Pl_readPipe_64 : List UInt8 := 180 :: 0 :: 71 :: t_Pl_readPipe_67
abbrev t_Pl_readPipe_63 : List UInt8 := 42 :: t_Pl_readPipe_64
abbrev t_Pl_readPipe_62 : List UInt8 := 28 :: t_Pl_readPipe_63
abbrev t_Pl_readPipe_61 : List UInt8 := 27 :: t_Pl_readPipe_62
abbrev t_Pl_readPipe_60 : List UInt8 := 42 :: t_Pl_readPipe_61
abbrev t_Pl_readPipe_57 : List UInt8 := 153 :: 0 :: 20 :: t_Pl_readPipe_60
abbrev t_Pl_readPipe_54 : List UInt8 := 182 :: 0 :: 68 :: t_Pl_readPipe_57
abbrev t_Pl_readPipe_53 : List UInt8 := 42 :: t_Pl_readPipe_54
abbrev t_Pl_readPipe_50 : List UInt8 := 153 :: 0 :: 27 :: t_Pl_readPipe_53
abbrev t_Pl_readPipe_47 : List UInt8 := 182 :: 0 :: 65 :: t_Pl_readPipe_50
abbrev t_Pl_readPipe_46 : List UInt8 := 42 :: t_Pl_readPipe_47
abbrev t_Pl_readPipe_43 : List UInt8 := 153 :: 0 :: 34 :: t_Pl_readPipe_46
abbrev t_Pl_readPipe_40 : List UInt8 := 182 :: 0 :: 61 :: t_Pl_readPipe_43
abbrev t_Pl_readPipe_38 : List UInt8 := 18 :: 91 :: t_Pl_readPipe_40
abbrev t_Pl_readPipe_37 : List UInt8 := 42 :: t_Pl_readPipe_38
abbrev t_Pl_readPipe_36 : List UInt8 := 61 :: t_Pl_readPipe_37
abbrev t_Pl_readPipe_33 : List UInt8 := 180 :: 0 :: 71 :: t_Pl_readPipe_36
abbrev t_Pl_readPipe_32 : List UInt8 := 42 :: t_Pl_readPipe_33
abbrev t_Pl_readPipe_31 : List UInt8 := 172 :: t_Pl_readPipe_32
abbrev t_Pl_readPipe_30 : List UInt8 := 3 :: t_Pl_readPipe_31
abbrev t_Pl_readPipe_27 : List UInt8 := 154 :: 0 :: 5 :: t_Pl_readPipe_30
abbrev t_Pl_readPipe_24 : List UInt8 := 182 :: 0 :: 88 :: t_Pl_readPipe_27
abbrev t_Pl_readPipe_23 : List UInt8 := 42 :: t_Pl_readPipe_24
abbrev t_Pl_readPipe_20 : List UInt8 := 153 :: 0 :: 10 :: t_Pl_readPipe_23
abbrev t_Pl_readPipe_17 : List UInt8 := 182 :: 0 :: 61 :: t_Pl_readPipe_20
abbrev t_Pl_readPipe_15 : List UInt8 := 18 :: 91 :: t_Pl_readPipe_17
abbrev t_Pl_readPipe_14 : List UInt8 := 42 :: t_Pl_readPipe_15
abbrev t_Pl_readPipe_13 : List UInt8 := 60 :: t_Pl_readPipe_14
abbrev t_Pl_readPipe_10 : List UInt8 := 180 :: 0 :: 71 :: t_Pl_readPipe_13
abbrev t_Pl_readPipe_9 : List UInt8 := 42 :: t_Pl_readPipe_10
abbrev t_Pl_readPipe_8 : List UInt8 := 172 :: t_Pl_readPipe_9
abbrev t_Pl_readPipe_7 : List UInt8 := 3 :: t_Pl_readPipe_8
abbrev t_Pl_readPipe_4 : List UInt8 := 154 :: 0 :: 5 :: t_Pl_readPipe_7
abbrev t_Pl_readPipe_1 : List UInt8 := 182 :: 0 :: 88 :: t_Pl_readPipe_4
abbrev t_Pl_readPipe_0 : List UInt8 := 42 :: t_Pl_readPipe_1
theorem a_Pl_readPipe_0 : dk_at b_Pl_readPipe 0 t_Pl_readPipe_0 := dk_start (by decide +kernel)
theorem a_Pl_readPipe_1 : dk_at b_Pl_readPipe 1 t_Pl_readPipe_1 := dk_go 1 a_Pl_readPipe_0 rfl
theorem a_Pl_readPipe_4 : dk_at b_Pl_readPipe 4 t_Pl_readPipe_4 := dk_go 3 a_Pl_readPipe_1 rfl
theorem a_Pl_readPipe_7 : dk_at b_Pl_readPipe 7 t_Pl_readPipe_7 := dk_go 3 a_Pl_readPipe_4 rfl
theorem a_Pl_readPipe_8 : dk_at b_Pl_readPipe 8 t_Pl_readPipe_8 := dk_go 1 a_Pl_readPipe_7 rfl
theorem a_Pl_readPipe_9 : dk_at b_Pl_readPipe 9 t_Pl_readPipe_9 := dk_go 1 a_Pl_readPipe_8 rfl
theorem a_Pl_readPipe_10 : dk_at b_Pl_readPipe 10 t_Pl_readPipe_10 := dk_go 1 a_Pl_readPipe_9 rfl
theorem a_Pl_readPipe_13 : dk_at b_Pl_readPipe 13 t_Pl_readPipe_13 := dk_go 3 a_Pl_readPipe_10 rfl
theorem a_Pl_readPipe_14 : dk_at b_Pl_readPipe 14 t_Pl_readPipe_14 := dk_go 1 a_Pl_readPipe_13 rfl
theorem a_Pl_readPipe_15 : dk_at b_Pl_readPipe 15 t_Pl_readPipe_15 := dk_go 1 a_Pl_readPipe_14 rfl
theorem a_Pl_readPipe_17 : dk_at b_Pl_readPipe 17 t_Pl_readPipe_17 := dk_go 2 a_Pl_readPipe_15 rfl
theorem a_Pl_readPipe_20 : dk_at b_Pl_readPipe 20 t_Pl_readPipe_20 := dk_go 3 a_Pl_readPipe_17 rfl
theorem a_Pl_readPipe_23 : dk_at b_Pl_readPipe 23 t_Pl_readPipe_23 := dk_go 3 a_Pl_readPipe_20 rfl
theorem a_Pl_readPipe_24 : dk_at b_Pl_readPipe 24 t_Pl_readPipe_24 := dk_go 1 a_Pl_readPipe_23 rfl
theorem a_Pl_readPipe_27 : dk_at b_Pl_readPipe 27 t_Pl_readPipe_27 := dk_go 3 a_Pl_readPipe_24 rfl
theorem a_Pl_readPipe_30 : dk_at b_Pl_readPipe 30 t_Pl_readPipe_30 := dk_go 3 a_Pl_readPipe_27 rfl
theorem a_Pl_readPipe_31 : dk_at b_Pl_readPipe 31 t_Pl_readPipe_31 := dk_go 1 a_Pl_readPipe_30 rfl
theorem a_Pl_readPipe_32 : dk_at b_Pl_readPipe 32 t_Pl_readPipe_32 := dk_go 1 a_Pl_readPipe_31 rfl
theorem a_Pl_readPipe_33 : dk_at b_Pl_readPipe 33 t_Pl_readPipe_33 := dk_go 1 a_Pl_readPipe_32 rfl
theorem a_Pl_readPipe_36 : dk_at b_Pl_readPipe 36 t_Pl_readPipe_36 := dk_go 3 a_Pl_readPipe_33 rfl
theorem a_Pl_readPipe_37 : dk_at b_Pl_readPipe 37 t_Pl_readPipe_37 := dk_go 1 a_Pl_readPipe_36 rfl
theorem a_Pl_readPipe_38 : dk_at b_Pl_readPipe 38 t_Pl_readPipe_38 := dk_go 1 a_Pl_readPipe_37 rfl
theorem a_Pl_readPipe_40 : dk_at b_Pl_readPipe 40 t_Pl_readPipe_40 := dk_go 2 a_Pl_readPipe_38 rfl
theorem a_Pl_readPipe_43 : dk_at b_Pl_readPipe 43 t_Pl_readPipe_43 := dk_go 3 a_Pl_readPipe_40 rfl
theorem a_Pl_readPipe_46 : dk_at b_Pl_readPipe 46 t_Pl_readPipe_46 := dk_go 3 a_Pl_readPipe_43 rfl
theorem a_Pl_readPipe_47 : dk_at b_Pl_readPipe 47 t_Pl_readPipe_47 := dk_go 1 a_Pl_readPipe_46 rfl
theorem a_Pl_readPipe_50 : dk_at b_Pl_readPipe 50 t_Pl_readPipe_50 := dk_go 3 a_Pl_readPipe_47 rfl
theorem a_Pl_readPipe_53 : dk_at b_Pl_readPipe 53 t_Pl_readPipe_53 := dk_go 3 a_Pl_readPipe_50 rfl
theorem a_Pl_readPipe_54 : dk_at b_Pl_readPipe 54 t_Pl_readPipe_54 := dk_go 1 a_Pl_readPipe_53 rfl
theorem a_Pl_readPipe_57 : dk_at b_Pl_readPipe 57 t_Pl_readPipe_57 := dk_go 3 a_Pl_readPipe_54 rfl
theorem a_Pl_readPipe_60 : dk_at b_Pl_readPipe 60 t_Pl_readPipe_60 := dk_go 3 a_Pl_readPipe_57 rfl
theorem a_Pl_readPipe_61 : dk_at b_Pl_readPipe 61 t_Pl_readPipe_61 := dk_go 1 a_Pl_readPipe_60 rfl
theorem a_Pl_readPipe_62 : dk_at b_Pl_readPipe 62 t_Pl_readPipe_62 := dk_go 1 a_Pl_readPipe_61 rfl
theorem a_Pl_readPipe_63 : dk_at b_Pl_readPipe 63 t_Pl_readPipe_63 := dk_go 1 a_Pl_readPipe_62 rfl
theorem a_Pl_readPipe_64 : dk_at b_Pl_readPipe 64 t_Pl_readPipe_64 := dk_go 1 a_Pl_readPipe_63 rfl
theorem a_Pl_readPipe_67 : dk_at b_Pl_readPipe 67 t_Pl_readPipe_67 := dk_go 3 a_Pl_readPipe_64 rfl
theorem a_Pl_readPipe_70 : dk_at b_Pl_readPipe 70 t_Pl_readPipe_70 := dk_go 3 a_Pl_readPipe_67 rfl
theorem a_Pl_readPipe_73 : dk_at b_Pl_readPipe 73 t_Pl_readPipe_73 := dk_go 3 a_Pl_readPipe_70 rfl
theorem a_Pl_readPipe_74 : dk_at b_Pl_readPipe 74 t_Pl_readPipe_74 := dk_go 1 a_Pl_readPipe_73 rfl
theorem a_Pl_readPipe_77 : dk_at b_Pl_readPipe 77 t_Pl_readPipe_77 := dk_go 3 a_Pl_readPipe_74 rfl
theorem a_Pl_readPipe_78 : dk_at b_Pl_readPipe 78 t_Pl_readPipe_78 := dk_go 1 a_Pl_readPipe_77 rfl
theorem d_Pl_readPipe_0 : decode b_Pl_readPipe 0 = .ok (.aload_n 0, 1) := dk_0 a_Pl_readPipe_0 (dko_42 _)
theorem d_Pl_readPipe_1 : decode b_Pl_readPipe 1 = .ok (.invokevirtual 88, 3) := dk_U2 a_Pl_readPipe_1 (dko_182 _) rfl
theorem d_Pl_readPipe_4 : decode b_Pl_readPipe 4 = .ok (.ifCond .ne 5, 3) := dk_S2 a_Pl_readPipe_4 (dko_154 _) (by decide +kernel)
theorem d_Pl_readPipe_7 : decode b_Pl_readPipe 7 = .ok (.iconst 0, 1) := dk_0 a_Pl_readPipe_7 (dko_3 _)
theorem d_Pl_readPipe_8 : decode b_Pl_readPipe 8 = .ok (.ireturn, 1) := dk_0 a_Pl_readPipe_8 (dko_172 _)
theorem d_Pl_readPipe_9 : decode b_Pl_readPipe 9 = .ok (.aload_n 0, 1) := dk_0 a_Pl_readPipe_9 (dko_42 _)
theorem d_Pl_readPipe_10 : decode b_Pl_readPipe 10 = .ok (.getfield 71, 3) := dk_U2 a_Pl_readPipe_10 (dko_180 _) rfl
theorem d_Pl_readPipe_13 : decode b_Pl_readPipe 13 = .ok (.istore_n 1, 1) := dk_0 a_Pl_readPipe_13 (dko_60 _)
theorem d_Pl_readPipe_14 : decode b_Pl_readPipe 14 = .ok (.aload_n 0, 1) := dk_0 a_Pl_readPipe_14 (dko_42 _)
theorem d_Pl_readPipe_15 : decode b_Pl_readPipe 15 = .ok (.ldc 91, 2) := dk_U1 a_Pl_readPipe_15 (dko_18 _) rfl
theorem d_Pl_readPipe_17 : decode b_Pl_readPipe 17 = .ok (.invokevirtual 61, 3) := dk_U2 a_Pl_readPipe_17 (dko_182 _) rfl
theorem d_Pl_readPipe_20 : decode b_Pl_readPipe 20 = .ok (.ifCond .eq 10, 3) := dk_S2 a_Pl_readPipe_20 (dko_153 _) (by decide +kernel)
theorem d_Pl_readPipe_23 : decode b_Pl_readPipe 23 = .ok (.aload_n 0, 1) := dk_0 a_Pl_readPipe_23 (dko_42 _)
theorem d_Pl_readPipe_24 : decode b_Pl_readPipe 24 = .ok (.invokevirtual 88, 3) := dk_U2 a_Pl_readPipe_24 (dko_182 _) rfl
theorem d_Pl_readPipe_27 : decode b_Pl_readPipe 27 = .ok (.ifCond .ne 5, 3) := dk_S2 a_Pl_readPipe_27 (dko_154 _) (by decide +kernel)
theorem d_Pl_readPipe_30 : decode b_Pl_readPipe 30 = .ok (.iconst 0, 1) := dk_0 a_Pl_readPipe_30 (dko_3 _)
theorem d_Pl_readPipe_31 : decode b_Pl_readPipe 31 = .ok (.ireturn, 1) := dk_0 a_Pl_readPipe_31 (dko_172 _)
theorem d_Pl_readPipe_32 : decode b_Pl_readPipe 32 = .ok (.aload_n 0, 1) := dk_0 a_Pl_readPipe_32 (dko_42 _)
theorem d_Pl_readPipe_33 : decode b_Pl_readPipe 33 = .ok (.getfield 71, 3) := dk_U2 a_Pl_readPipe_33 (dko_180 _) rfl
theorem d_Pl_readPipe_36 : decode b_Pl_readPipe 36 = .ok (.istore_n 2, 1) := dk_0 a_Pl_readPipe_36 (dko_61 _)
theorem d_Pl_readPipe_37 : decode b_Pl_readPipe 37 = .ok (.aload_n 0, 1) := dk_0 a_Pl_readPipe_37 (dko_42 _)
theorem d_Pl_readPipe_38 : decode b_Pl_readPipe 38 = .ok (.ldc 91, 2) := dk_U1 a_Pl_readPipe_38 (dko_18 _) rfl
theorem d_Pl_readPipe_40 : decode b_Pl_readPipe 40 = .ok (.invokevirtual 61, 3) := dk_U2 a_Pl_readPipe_40 (dko_182 _) rfl
theorem d_Pl_readPipe_43 : decode b_Pl_readPipe 43 = .ok (.ifCond .eq 34, 3) := dk_S2 a_Pl_readPipe_43 (dko_153 _) (by decide +kernel)
theorem d_Pl_readPipe_46 : decode b_Pl_readPipe 46 = .ok (.aload_n 0, 1) := dk_0 a_Pl_readPipe_46 (dko_42 _)
theorem d_Pl_readPipe_47 : decode b_Pl_readPipe 47 = .ok (.invokevirtual 65, 3) := dk_U2 a_Pl_readPipe_47 (dko_182 _) rfl
theorem d_Pl_readPipe_50 : decode b_Pl_readPipe 50 = .ok (.ifCond .eq 27, 3) := dk_S2 a_Pl_readPipe_50 (dko_153 _) (by decide +kernel)
theorem d_Pl_readPipe_53 : decode b_Pl_readPipe 53 = .ok (.aload_n 0, 1) := dk_0 a_Pl_readPipe_53 (dko_42 _)
theorem d_Pl_readPipe_54 : decode b_Pl_readPipe 54 = .ok (.invokevirtual 68, 3) := dk_U2 a_Pl_readPipe_54 (dko_182 _) rfl
theorem d_Pl_readPipe_57 : decode b_Pl_readPipe 57 = .ok (.ifCond .eq 20, 3) := dk_S2 a_Pl_readPipe_57 (dko_153 _) (by decide +kernel)
theorem d_Pl_readPipe_60 : decode b_Pl_readPipe 60 = .ok (.aload_n 0, 1) := dk_0 a_Pl_readPipe_60 (dko_42 _)
theorem d_Pl_readPipe_61 : decode b_Pl_readPipe 61 = .ok (.iload_n 1, 1) := dk_0 a_Pl_readPipe_61 (dko_27 _)
theorem d_Pl_readPipe_62 : decode b_Pl_readPipe 62 = .ok (.iload_n 2, 1) := dk_0 a_Pl_readPipe_62 (dko_28 _)
theorem d_Pl_readPipe_63 : decode b_Pl_readPipe 63 = .ok (.aload_n 0, 1) := dk_0 a_Pl_readPipe_63 (dko_42 _)
theorem d_Pl_readPipe_64 : decode b_Pl_readPipe 64 = .ok (.getfield 71, 3) := dk_U2 a_Pl_readPipe_64 (dko_180 _) rfl
theorem d_Pl_readPipe_67 : decode b_Pl_readPipe 67 = .ok (.invokevirtual 93, 3) := dk_U2 a_Pl_readPipe_67 (dko_182 _) rfl
theorem d_Pl_readPipe_70 : decode b_Pl_readPipe 70 = .ok (.ifCond .eq 7, 3) := dk_S2 a_Pl_readPipe_70 (dko_153 _) (by decide +kernel)
theorem d_Pl_readPipe_73 : decode b_Pl_readPipe 73 = .ok (.iconst 1, 1) := dk_0 a_Pl_readPipe_73 (dko_4 _)
theorem d_Pl_readPipe_74 : decode b_Pl_readPipe 74 = .ok (.goto 4, 3) := dk_S2 a_Pl_readPipe_74 (dko_167 _) (by decide +kernel)
theorem d_Pl_readPipe_77 : decode b_Pl_readPipe 77 = .ok (.iconst 0, 1) := dk_0 a_Pl_readPipe_77 (dko_3 _)
theorem d_Pl_readPipe_78 : decode b_Pl_readPipe 78 = .ok (.ireturn, 1) := dk_0 a_Pl_readPipe_78 (dko_172 _)
set_option maxHeartbeats 4000000 in
set_option maxRecDepth 100000 in
theorem ok_Pl_readPipe (pc : Nat) : OpS mt mi_Pl_readPipe pc (cs_Pl_readPipe pc) := (os_n (os_n (os_n (os_n (os_n (os_l (so_aload_n d_Pl_readPipe_0 rfl)) (os_l (so_callV (iv := mi_Pl_takesPipeEnd) rfl rfl rfl mw_796 mw_798 sl_6 mw_5 mw_799 ⟨by decide +kernel, by decide +kernel, by decide +kernel⟩ (by decide) d_Pl_readPipe_1))) (os_n (os_l (so_ifne d_Pl_readPipe_4 (by decide))) (os_n (os_l (so_iconst d_Pl_readPipe_7 (by decide))) (os_l (so_zreturn rfl d_Pl_readPipe_8))))) (os_n (os_n (os_l (so_aload_n d_Pl_readPipe_9 rfl)) (os_l (so_get (C := R_Pl) (T := F_Pl) (N := 12) (j := 11) in_Pl rfl (by decide) mw_119 d_Pl_readPipe_10))) (os_n (os_l (so_istore_n d_Pl_readPipe_13 rfl (by decide))) (os_n (os_l (so_aload_n d_Pl_readPipe_14 rfl)) (os_l (so_ldcS (k := 5) (idx := 0) (q := ("BreweryHouse$Plant", 91, " ")) (by decide +kernel) rfl d_Pl_readPipe_15)))))) (os_n (os_n (os_n (os_l (so_callV (iv := mi_Pl_takes) rfl rfl rfl mw_767 mw_769 sl_1 mw_5 mw_770 ⟨by decide +kernel, by decide +kernel, by decide +kernel⟩ (by decide) d_Pl_readPipe_17)) (os_l (so_ifeq d_Pl_readPipe_20 (by decide)))) (os_n (os_l (so_aload_n d_Pl_readPipe_23 rfl)) (os_n (os_l (so_callV (iv := mi_Pl_takesPipeEnd) rfl rfl rfl mw_796 mw_798 sl_6 mw_5 mw_799 ⟨by decide +kernel, by decide +kernel, by decide +kernel⟩ (by decide) d_Pl_readPipe_24)) (os_l (so_ifne d_Pl_readPipe_27 (by decide)))))) (os_n (os_n (os_l (so_iconst d_Pl_readPipe_30 (by decide))) (os_l (so_zreturn rfl d_Pl_readPipe_31))) (os_n (os_l (so_aload_n d_Pl_readPipe_32 rfl)) (os_n (os_l (so_get (C := R_Pl) (T := F_Pl) (N := 12) (j := 11) in_Pl rfl (by decide) mw_119 d_Pl_readPipe_33)) (os_l (so_istore_n d_Pl_readPipe_36 rfl (by decide)))))))) (os_n (os_n (os_n (os_n (os_l (so_aload_n d_Pl_readPipe_37 rfl)) (os_l (so_ldcS (k := 5) (idx := 0) (q := ("BreweryHouse$Plant", 91, " ")) (by decide +kernel) rfl d_Pl_readPipe_38))) (os_n (os_l (so_callV (iv := mi_Pl_takes) rfl rfl rfl mw_767 mw_769 sl_1 mw_5 mw_770 ⟨by decide +kernel, by decide +kernel, by decide +kernel⟩ (by decide) d_Pl_readPipe_40)) (os_n (os_l (so_ifeq d_Pl_readPipe_43 (by decide))) (os_l (so_aload_n d_Pl_readPipe_46 rfl))))) (os_n (os_n (os_l (so_callV (iv := mi_Pl_takesNumber) rfl rfl rfl mw_773 mw_775 sl_2 mw_5 mw_776 ⟨by decide +kernel, by decide +kernel, by decide +kernel⟩ (by decide) d_Pl_readPipe_47)) (os_l (so_ifeq d_Pl_readPipe_50 (by decide)))) (os_n (os_l (so_aload_n d_Pl_readPipe_53 rfl)) (os_n (os_l (so_callV (iv := mi_Pl_endsLine) rfl rfl rfl mw_780 mw_782 sl_3 mw_5 mw_783 ⟨by decide +kernel, by decide +kernel, by decide +kernel⟩ (by decide) d_Pl_readPipe_54)) (os_l (so_ifeq d_Pl_readPipe_57 (by decide))))))) (os_n (os_n (os_n (os_l (so_aload_n d_Pl_readPipe_60 rfl)) (os_l (so_iload_n d_Pl_readPipe_61 rfl))) (os_n (os_l (so_iload_n d_Pl_readPipe_62 rfl)) (os_n (os_l (so_aload_n d_Pl_readPipe_63 rfl)) (os_l (so_get (C := R_Pl) (T := F_Pl) (N := 12) (j := 11) in_Pl rfl (by decide) mw_119 d_Pl_readPipe_64))))) (os_n (os_n (os_l (so_callV (iv := mi_Pl_addPipe) rfl rfl rfl mw_801 mw_803 sl_7 mw_5 mw_804 ⟨by decide +kernel, by decide +kernel, by decide +kernel⟩ (by decide) d_Pl_readPipe_67)) (os_n (os_l (so_ifeq d_Pl_readPipe_70 (by decide))) (os_l (so_iconst d_Pl_readPipe_73 (by decide))))) (os_n (os_l (so_goto d_Pl_readPipe_74 (by decide))) (os_n (os_l (so_iconst d_Pl_readPipe_77 (by decide))) (os_l (so_zreturn rfl d_Pl_readPipe_78))))))))
abbrev t_Pl_takes_48 : List UInt8 := 172 :: []
abbrev t_Pl_takes_47 : List UInt8 := 4 :: t_Pl_takes_48
abbrev t_Pl_takes_44 : List UInt8 := 167 :: 255 :: 214 :: t_Pl_takes_47
abbrev t_Pl_takes_41 : List UInt8 := 132 :: 2 :: 1 :: t_Pl_takes_44
abbrev t_Pl_takes_38 : List UInt8 := 181 :: 0 :: 44 :: t_Pl_takes_41
abbrev t_Pl_takes_37 : List UInt8 := 96 :: t_Pl_takes_38
abbrev t_Pl_takes_36 : List UInt8 := 4 :: t_Pl_takes_37
abbrev t_Pl_takes_33 : List UInt8 := 180 :: 0 :: 44 :: t_Pl_takes_36
abbrev t_Pl_takes_32 : List UInt8 := 89 :: t_Pl_takes_33
abbrev t_Pl_takes_31 : List UInt8 := 42 :: t_Pl_takes_32
abbrev t_Pl_takes_30 : List UInt8 := 172 :: t_Pl_takes_31
abbrev t_Pl_takes_29 : List UInt8 := 3 :: t_Pl_takes_30
abbrev t_Pl_takes_26 : List UInt8 := 159 :: 0 :: 5 :: t_Pl_takes_29
abbrev t_Pl_takes_23 : List UInt8 := 182 :: 0 :: 103 :: t_Pl_takes_26
abbrev t_Pl_takes_22 : List UInt8 := 28 :: t_Pl_takes_23
abbrev t_Pl_takes_21 : List UInt8 := 43 :: t_Pl_takes_22
abbrev t_Pl_takes_18 : List UInt8 := 182 :: 0 :: 56 :: t_Pl_takes_21
abbrev t_Pl_takes_15 : List UInt8 := 180 :: 0 :: 44 :: t_Pl_takes_18
abbrev t_Pl_takes_14 : List UInt8 := 42 :: t_Pl_takes_15
abbrev t_Pl_takes_11 : List UInt8 := 180 :: 0 :: 33 :: t_Pl_takes_14
abbrev t_Pl_takes_10 : List UInt8 := 42 :: t_Pl_takes_11
abbrev t_Pl_takes_7 : List UInt8 := 162 :: 0 :: 40 :: t_Pl_takes_10
abbrev t_Pl_takes_4 : List UInt8 := 182 :: 0 :: 97 :: t_Pl_takes_7
abbrev t_Pl_takes_3 : List UInt8 := 43 :: t_Pl_takes_4
abbrev t_Pl_takes_2 : List UInt8 := 28 :: t_Pl_takes_3
abbrev t_Pl_takes_1 : List UInt8 := 61 :: t_Pl_takes_2
abbrev t_Pl_takes_0 : List UInt8 := 3 :: t_Pl_takes_1
theorem a_Pl_takes_0 : dk_at b_Pl_takes 0 t_Pl_takes_0 := dk_start (by decide +kernel)
theorem a_Pl_takes_1 : dk_at b_Pl_takes 1 t_Pl_takes_1 := dk_go 1 a_Pl_takes_0 rfl
theorem a_Pl_takes_2 : dk_at b_Pl_takes 2 t_Pl_takes_2 := dk_go 1 a_Pl_takes_1 rfl
theorem a_Pl_takes_3 : dk_at b_Pl_takes 3 t_Pl_takes_3 := dk_go 1 a_Pl_takes_2 rfl
theorem a_Pl_takes_4 : dk_at b_Pl_takes 4 t_Pl_takes_4 := dk_go 1 a_Pl_takes_3 rfl
theorem a_Pl_takes_7 : dk_at b_Pl_takes 7 t_Pl_takes_7 := dk_go 3 a_Pl_takes_4 rfl
theorem a_Pl_takes_10 : dk_at b_Pl_takes 10 t_Pl_takes_10 := dk_go 3 a_Pl_takes_7 rfl
theorem a_Pl_takes_11 : dk_at b_Pl_takes 11 t_Pl_takes_11 := dk_go 1 a_Pl_takes_10 rfl
theorem a_Pl_takes_14 : dk_at b_Pl_takes 14 t_Pl_takes_14 := dk_go 3 a_Pl_takes_11 rfl
theorem a_Pl_takes_15 : dk_at b_Pl_takes 15 t_Pl_takes_15 := dk_go 1 a_Pl_takes_14 rfl
theorem a_Pl_takes_18 : dk_at b_Pl_takes 18 t_Pl_takes_18 := dk_go 3 a_Pl_takes_15 rfl
theorem a_Pl_takes_21 : dk_at b_Pl_takes 21 t_Pl_takes_21 := dk_go 3 a_Pl_takes_18 rfl
theorem a_Pl_takes_22 : dk_at b_Pl_takes 22 t_Pl_takes_22 := dk_go 1 a_Pl_takes_21 rfl
theorem a_Pl_takes_23 : dk_at b_Pl_takes 23 t_Pl_takes_23 := dk_go 1 a_Pl_takes_22 rfl
theorem a_Pl_takes_26 : dk_at b_Pl_takes 26 t_Pl_takes_26 := dk_go 3 a_Pl_takes_23 rfl
theorem a_Pl_takes_29 : dk_at b_Pl_takes 29 t_Pl_takes_29 := dk_go 3 a_Pl_takes_26 rfl
theorem a_Pl_takes_30 : dk_at b_Pl_takes 30 t_Pl_takes_30 := dk_go 1 a_Pl_takes_29 rfl
theorem a_Pl_takes_31 : dk_at b_Pl_takes 31 t_Pl_takes_31 := dk_go 1 a_Pl_takes_30 rfl
theorem a_Pl_takes_32 : dk_at b_Pl_takes 32 t_Pl_takes_32 := dk_go 1 a_Pl_takes_31 rfl
theorem a_Pl_takes_33 : dk_at b_Pl_takes 33 t_Pl_takes_33 := dk_go 1 a_Pl_takes_32 rfl
theorem a_Pl_takes_36 : dk_at b_Pl_takes 36 t_Pl_takes_36 := dk_go 3 a_Pl_takes_33 rfl
theorem a_Pl_takes_37 : dk_at b_Pl_takes 37 t_Pl_takes_37 := dk_go 1 a_Pl_takes_36 rfl
theorem a_Pl_takes_38 : dk_at b_Pl_takes 38 t_Pl_takes_38 := dk_go 1 a_Pl_takes_37 rfl
theorem a_Pl_takes_41 : dk_at b_Pl_takes 41 t_Pl_takes_41 := dk_go 3 a_Pl_takes_38 rfl
theorem a_Pl_takes_44 : dk_at b_Pl_takes 44 t_Pl_takes_44 := dk_go 3 a_Pl_takes_41 rfl
theorem a_Pl_takes_47 : dk_at b_Pl_takes 47 t_Pl_takes_47 := dk_go 3 a_Pl_takes_44 rfl
theorem a_Pl_takes_48 : dk_at b_Pl_takes 48 t_Pl_takes_48 := dk_go 1 a_Pl_takes_47 rfl
theorem d_Pl_takes_0 : decode b_Pl_takes 0 = .ok (.iconst 0, 1) := dk_0 a_Pl_takes_0 (dko_3 _)
theorem d_Pl_takes_1 : decode b_Pl_takes 1 = .ok (.istore_n 2, 1) := dk_0 a_Pl_takes_1 (dko_61 _)
theorem d_Pl_takes_2 : decode b_Pl_takes 2 = .ok (.iload_n 2, 1) := dk_0 a_Pl_takes_2 (dko_28 _)
theorem d_Pl_takes_3 : decode b_Pl_takes 3 = .ok (.aload_n 1, 1) := dk_0 a_Pl_takes_3 (dko_43 _)
theorem d_Pl_takes_4 : decode b_Pl_takes 4 = .ok (.invokevirtual 97, 3) := dk_U2 a_Pl_takes_4 (dko_182 _) rfl
theorem d_Pl_takes_7 : decode b_Pl_takes 7 = .ok (.if_icmp .ge 40, 3) := dk_S2 a_Pl_takes_7 (dko_162 _) (by decide +kernel)
theorem d_Pl_takes_10 : decode b_Pl_takes 10 = .ok (.aload_n 0, 1) := dk_0 a_Pl_takes_10 (dko_42 _)
theorem d_Pl_takes_11 : decode b_Pl_takes 11 = .ok (.getfield 33, 3) := dk_U2 a_Pl_takes_11 (dko_180 _) rfl
theorem d_Pl_takes_14 : decode b_Pl_takes 14 = .ok (.aload_n 0, 1) := dk_0 a_Pl_takes_14 (dko_42 _)
theorem d_Pl_takes_15 : decode b_Pl_takes 15 = .ok (.getfield 44, 3) := dk_U2 a_Pl_takes_15 (dko_180 _) rfl
theorem d_Pl_takes_18 : decode b_Pl_takes 18 = .ok (.invokevirtual 56, 3) := dk_U2 a_Pl_takes_18 (dko_182 _) rfl
theorem d_Pl_takes_21 : decode b_Pl_takes 21 = .ok (.aload_n 1, 1) := dk_0 a_Pl_takes_21 (dko_43 _)
theorem d_Pl_takes_22 : decode b_Pl_takes 22 = .ok (.iload_n 2, 1) := dk_0 a_Pl_takes_22 (dko_28 _)
theorem d_Pl_takes_23 : decode b_Pl_takes 23 = .ok (.invokevirtual 103, 3) := dk_U2 a_Pl_takes_23 (dko_182 _) rfl
theorem d_Pl_takes_26 : decode b_Pl_takes 26 = .ok (.if_icmp .eq 5, 3) := dk_S2 a_Pl_takes_26 (dko_159 _) (by decide +kernel)
theorem d_Pl_takes_29 : decode b_Pl_takes 29 = .ok (.iconst 0, 1) := dk_0 a_Pl_takes_29 (dko_3 _)
theorem d_Pl_takes_30 : decode b_Pl_takes 30 = .ok (.ireturn, 1) := dk_0 a_Pl_takes_30 (dko_172 _)
theorem d_Pl_takes_31 : decode b_Pl_takes 31 = .ok (.aload_n 0, 1) := dk_0 a_Pl_takes_31 (dko_42 _)
theorem d_Pl_takes_32 : decode b_Pl_takes 32 = .ok (.dup, 1) := dk_0 a_Pl_takes_32 (dko_89 _)
theorem d_Pl_takes_33 : decode b_Pl_takes 33 = .ok (.getfield 44, 3) := dk_U2 a_Pl_takes_33 (dko_180 _) rfl
theorem d_Pl_takes_36 : decode b_Pl_takes 36 = .ok (.iconst 1, 1) := dk_0 a_Pl_takes_36 (dko_4 _)
theorem d_Pl_takes_37 : decode b_Pl_takes 37 = .ok (.iadd, 1) := dk_0 a_Pl_takes_37 (dko_96 _)
theorem d_Pl_takes_38 : decode b_Pl_takes 38 = .ok (.putfield 44, 3) := dk_U2 a_Pl_takes_38 (dko_181 _) rfl
theorem d_Pl_takes_41 : decode b_Pl_takes 41 = .ok (.iinc 2 1, 3) := dk_US a_Pl_takes_41 (dko_132 _) (by decide +kernel)
theorem d_Pl_takes_44 : decode b_Pl_takes 44 = .ok (.goto (-42), 3) := dk_S2 a_Pl_takes_44 (dko_167 _) (by decide +kernel)
theorem d_Pl_takes_47 : decode b_Pl_takes 47 = .ok (.iconst 1, 1) := dk_0 a_Pl_takes_47 (dko_4 _)
theorem d_Pl_takes_48 : decode b_Pl_takes 48 = .ok (.ireturn, 1) := dk_0 a_Pl_takes_48 (dko_172 _)
set_option maxHeartbeats 4000000 in
set_option maxRecDepth 100000 in
theorem ok_Pl_takes (pc : Nat) : OpS mt mi_Pl_takes pc (cs_Pl_takes pc) := (os_n (os_n (os_n (os_n (os_l (so_iconst d_Pl_takes_0 (by decide))) (os_n (os_l (so_istore_n d_Pl_takes_1 rfl (by decide))) (os_l (so_iload_n d_Pl_takes_2 rfl)))) (os_n (os_l (so_aload_n d_Pl_takes_3 rfl)) (os_n (os_l (so_slen mw_771 mw_585 mw_586 mw_14 mw_587 d_Pl_takes_4)) (os_l (so_icge d_Pl_takes_7 (by decide)))))) (os_n (os_n (os_l (so_aload_n d_Pl_takes_10 rfl)) (os_n (os_l (so_get (C := R_Pl) (T := F_Pl) (N := 12) (j := 9) in_Pl rfl (by decide) mw_117 d_Pl_takes_11)) (os_l (so_aload_n d_Pl_takes_14 rfl)))) (os_n (os_n (os_l (so_get (C := R_Pl) (T := F_Pl) (N := 12) (j := 10) in_Pl rfl (by decide) mw_118 d_Pl_takes_15)) (os_l (so_callV (iv := mi_Tp_at) rfl rfl rfl mw_765 mw_754 mw_755 mw_2 mw_756 ⟨by decide +kernel, by decide +kernel, by decide +kernel⟩ (by decide) d_Pl_takes_18))) (os_n (os_l (so_aload_n d_Pl_takes_21 rfl)) (os_l (so_iload_n d_Pl_takes_22 rfl)))))) (os_n (os_n (os_n (os_l (so_schr mw_772 mw_595 mw_596 mw_14 mw_597 d_Pl_takes_23)) (os_n (os_l (so_iceq d_Pl_takes_26 (by decide))) (os_l (so_iconst d_Pl_takes_29 (by decide))))) (os_n (os_n (os_l (so_zreturn rfl d_Pl_takes_30)) (os_l (so_aload_n d_Pl_takes_31 rfl))) (os_n (os_l (so_dup d_Pl_takes_32)) (os_l (so_get (C := R_Pl) (T := F_Pl) (N := 12) (j := 10) in_Pl rfl (by decide) mw_118 d_Pl_takes_33))))) (os_n (os_n (os_l (so_iconst d_Pl_takes_36 (by decide))) (os_n (os_l (so_iadd d_Pl_takes_37)) (os_l (so_putI (C := R_Pl) (T := F_Pl) (N := 12) (j := 10) in_Pl t_Pl_ok n_Pl rfl (by decide) mw_118 rfl (by decide +kernel) d_Pl_takes_38)))) (os_n (os_n (os_l (so_iinc d_Pl_takes_41 (by decide) (by decide))) (os_l (so_goto d_Pl_takes_44 (by decide)))) (os_n (os_l (so_iconst d_Pl_takes_47 (by decide))) (os_l (so_zreturn rfl d_Pl_takes_48)))))))
abbrev t_Pl_endsLine_21 : List UInt8 := 172 :: []
abbrev t_Pl_endsLine_20 : List UInt8 := 3 :: t_Pl_endsLine_21
abbrev t_Pl_endsLine_17 : List UInt8 := 167 :: 0 :: 4 :: t_Pl_endsLine_20
abbrev t_Pl_endsLine_16 : List UInt8 := 4 :: t_Pl_endsLine_17
abbrev t_Pl_endsLine_13 : List UInt8 := 160 :: 0 :: 7 :: t_Pl_endsLine_16
abbrev t_Pl_endsLine_11 : List UInt8 := 16 :: 10 :: t_Pl_endsLine_13
abbrev t_Pl_endsLine_8 : List UInt8 := 182 :: 0 :: 56 :: t_Pl_endsLine_11
abbrev t_Pl_endsLine_5 : List UInt8 := 180 :: 0 :: 44 :: t_Pl_endsLine_8
abbrev t_Pl_endsLine_4 : List UInt8 := 42 :: t_Pl_endsLine_5
abbrev t_Pl_endsLine_1 : List UInt8 := 180 :: 0 :: 33 :: t_Pl_endsLine_4
abbrev t_Pl_endsLine_0 : List UInt8 := 42 :: t_Pl_endsLine_1
theorem a_Pl_endsLine_0 : dk_at b_Pl_endsLine 0 t_Pl_endsLine_0 := dk_start (by decide +kernel)
theorem a_Pl_endsLine_1 : dk_at b_Pl_endsLine 1 t_Pl_endsLine_1 := dk_go 1 a_Pl_endsLine_0 rfl
theorem a_Pl_endsLine_4 : dk_at b_Pl_endsLine 4 t_Pl_endsLine_4 := dk_go 3 a_Pl_endsLine_1 rfl
theorem a_Pl_endsLine_5 : dk_at b_Pl_endsLine 5 t_Pl_endsLine_5 := dk_go 1 a_Pl_endsLine_4 rfl
theorem a_Pl_endsLine_8 : dk_at b_Pl_endsLine 8 t_Pl_endsLine_8 := dk_go 3 a_Pl_endsLine_5 rfl
theorem a_Pl_endsLine_11 : dk_at b_Pl_endsLine 11 t_Pl_endsLine_11 := dk_go 3 a_Pl_endsLine_8 rfl
theorem a_Pl_endsLine_13 : dk_at b_Pl_endsLine 13 t_Pl_endsLine_13 := dk_go 2 a_Pl_endsLine_11 rfl
theorem a_Pl_endsLine_16 : dk_at b_Pl_endsLine 16 t_Pl_endsLine_16 := dk_go 3 a_Pl_endsLine_13 rfl
theorem a_Pl_endsLine_17 : dk_at b_Pl_endsLine 17 t_Pl_endsLine_17 := dk_go 1 a_Pl_endsLine_16 rfl
theorem a_Pl_endsLine_20 : dk_at b_Pl_endsLine 20 t_Pl_endsLine_20 := dk_go 3 a_Pl_endsLine_17 rfl
theorem a_Pl_endsLine_21 : dk_at b_Pl_endsLine 21 t_Pl_endsLine_21 := dk_go 1 a_Pl_endsLine_20 rfl
theorem d_Pl_endsLine_0 : decode b_Pl_endsLine 0 = .ok (.aload_n 0, 1) := dk_0 a_Pl_endsLine_0 (dko_42 _)
theorem d_Pl_endsLine_1 : decode b_Pl_endsLine 1 = .ok (.getfield 33, 3) := dk_U2 a_Pl_endsLine_1 (dko_180 _) rfl
theorem d_Pl_endsLine_4 : decode b_Pl_endsLine 4 = .ok (.aload_n 0, 1) := dk_0 a_Pl_endsLine_4 (dko_42 _)
theorem d_Pl_endsLine_5 : decode b_Pl_endsLine 5 = .ok (.getfield 44, 3) := dk_U2 a_Pl_endsLine_5 (dko_180 _) rfl
theorem d_Pl_endsLine_8 : decode b_Pl_endsLine 8 = .ok (.invokevirtual 56, 3) := dk_U2 a_Pl_endsLine_8 (dko_182 _) rfl
theorem d_Pl_endsLine_11 : decode b_Pl_endsLine 11 = .ok (.bipush 10, 2) := dk_S1 a_Pl_endsLine_11 (dko_16 _) (by decide +kernel)
theorem d_Pl_endsLine_13 : decode b_Pl_endsLine 13 = .ok (.if_icmp .ne 7, 3) := dk_S2 a_Pl_endsLine_13 (dko_160 _) (by decide +kernel)
theorem d_Pl_endsLine_16 : decode b_Pl_endsLine 16 = .ok (.iconst 1, 1) := dk_0 a_Pl_endsLine_16 (dko_4 _)
theorem d_Pl_endsLine_17 : decode b_Pl_endsLine 17 = .ok (.goto 4, 3) := dk_S2 a_Pl_endsLine_17 (dko_167 _) (by decide +kernel)
theorem d_Pl_endsLine_20 : decode b_Pl_endsLine 20 = .ok (.iconst 0, 1) := dk_0 a_Pl_endsLine_20 (dko_3 _)
theorem d_Pl_endsLine_21 : decode b_Pl_endsLine 21 = .ok (.ireturn, 1) := dk_0 a_Pl_endsLine_21 (dko_172 _)
set_option maxHeartbeats 4000000 in
set_option maxRecDepth 100000 in
theorem ok_Pl_endsLine (pc : Nat) : OpS mt mi_Pl_endsLine pc (cs_Pl_endsLine pc) := (os_n (os_n (os_n (os_l (so_aload_n d_Pl_endsLine_0 rfl)) (os_l (so_get (C := R_Pl) (T := F_Pl) (N := 12) (j := 9) in_Pl rfl (by decide) mw_117 d_Pl_endsLine_1))) (os_n (os_l (so_aload_n d_Pl_endsLine_4 rfl)) (os_n (os_l (so_get (C := R_Pl) (T := F_Pl) (N := 12) (j := 10) in_Pl rfl (by decide) mw_118 d_Pl_endsLine_5)) (os_l (so_callV (iv := mi_Tp_at) rfl rfl rfl mw_765 mw_754 mw_755 mw_2 mw_756 ⟨by decide +kernel, by decide +kernel, by decide +kernel⟩ (by decide) d_Pl_endsLine_8))))) (os_n (os_n (os_l (so_bipush d_Pl_endsLine_11 (by decide))) (os_n (os_l (so_icne d_Pl_endsLine_13 (by decide))) (os_l (so_iconst d_Pl_endsLine_16 (by decide))))) (os_n (os_l (so_goto d_Pl_endsLine_17 (by decide))) (os_n (os_l (so_iconst d_Pl_endsLine_20 (by decide))) (os_l (so_zreturn rfl d_Pl_endsLine_21))))))
abbrev t_Pl_takesPipeEnd_37 : List UInt8 := 172 :: []
abbrev t_Pl_takesPipeEnd_34 : List UInt8 := 182 :: 0 :: 65 :: t_Pl_takesPipeEnd_37
abbrev t_Pl_takesPipeEnd_33 : List UInt8 := 42 :: t_Pl_takesPipeEnd_34
abbrev t_Pl_takesPipeEnd_32 : List UInt8 := 172 :: t_Pl_takesPipeEnd_33
abbrev t_Pl_takesPipeEnd_31 : List UInt8 := 4 :: t_Pl_takesPipeEnd_32
abbrev t_Pl_takesPipeEnd_28 : List UInt8 := 181 :: 0 :: 71 :: t_Pl_takesPipeEnd_31
abbrev t_Pl_takesPipeEnd_27 : List UInt8 := 2 :: t_Pl_takesPipeEnd_28
abbrev t_Pl_takesPipeEnd_26 : List UInt8 := 42 :: t_Pl_takesPipeEnd_27
abbrev t_Pl_takesPipeEnd_23 : List UInt8 := 181 :: 0 :: 44 :: t_Pl_takesPipeEnd_26
abbrev t_Pl_takesPipeEnd_22 : List UInt8 := 96 :: t_Pl_takesPipeEnd_23
abbrev t_Pl_takesPipeEnd_21 : List UInt8 := 4 :: t_Pl_takesPipeEnd_22
abbrev t_Pl_takesPipeEnd_18 : List UInt8 := 180 :: 0 :: 44 :: t_Pl_takesPipeEnd_21
abbrev t_Pl_takesPipeEnd_17 : List UInt8 := 89 :: t_Pl_takesPipeEnd_18
abbrev t_Pl_takesPipeEnd_16 : List UInt8 := 42 :: t_Pl_takesPipeEnd_17
abbrev t_Pl_takesPipeEnd_13 : List UInt8 := 160 :: 0 :: 20 :: t_Pl_takesPipeEnd_16
abbrev t_Pl_takesPipeEnd_11 : List UInt8 := 16 :: 45 :: t_Pl_takesPipeEnd_13
abbrev t_Pl_takesPipeEnd_8 : List UInt8 := 182 :: 0 :: 56 :: t_Pl_takesPipeEnd_11
abbrev t_Pl_takesPipeEnd_5 : List UInt8 := 180 :: 0 :: 44 :: t_Pl_takesPipeEnd_8
abbrev t_Pl_takesPipeEnd_4 : List UInt8 := 42 :: t_Pl_takesPipeEnd_5
abbrev t_Pl_takesPipeEnd_1 : List UInt8 := 180 :: 0 :: 33 :: t_Pl_takesPipeEnd_4
abbrev t_Pl_takesPipeEnd_0 : List UInt8 := 42 :: t_Pl_takesPipeEnd_1
theorem a_Pl_takesPipeEnd_0 : dk_at b_Pl_takesPipeEnd 0 t_Pl_takesPipeEnd_0 := dk_start (by decide +kernel)
theorem a_Pl_takesPipeEnd_1 : dk_at b_Pl_takesPipeEnd 1 t_Pl_takesPipeEnd_1 := dk_go 1 a_Pl_takesPipeEnd_0 rfl
theorem a_Pl_takesPipeEnd_4 : dk_at b_Pl_takesPipeEnd 4 t_Pl_takesPipeEnd_4 := dk_go 3 a_Pl_takesPipeEnd_1 rfl
theorem a_Pl_takesPipeEnd_5 : dk_at b_Pl_takesPipeEnd 5 t_Pl_takesPipeEnd_5 := dk_go 1 a_Pl_takesPipeEnd_4 rfl
theorem a_Pl_takesPipeEnd_8 : dk_at b_Pl_takesPipeEnd 8 t_Pl_takesPipeEnd_8 := dk_go 3 a_Pl_takesPipeEnd_5 rfl
theorem a_Pl_takesPipeEnd_11 : dk_at b_Pl_takesPipeEnd 11 t_Pl_takesPipeEnd_11 := dk_go 3 a_Pl_takesPipeEnd_8 rfl
theorem a_Pl_takesPipeEnd_13 : dk_at b_Pl_takesPipeEnd 13 t_Pl_takesPipeEnd_13 := dk_go 2 a_Pl_takesPipeEnd_11 rfl
theorem a_Pl_takesPipeEnd_16 : dk_at b_Pl_takesPipeEnd 16 t_Pl_takesPipeEnd_16 := dk_go 3 a_Pl_takesPipeEnd_13 rfl
theorem a_Pl_takesPipeEnd_17 : dk_at b_Pl_takesPipeEnd 17 t_Pl_takesPipeEnd_17 := dk_go 1 a_Pl_takesPipeEnd_16 rfl
theorem a_Pl_takesPipeEnd_18 : dk_at b_Pl_takesPipeEnd 18 t_Pl_takesPipeEnd_18 := dk_go 1 a_Pl_takesPipeEnd_17 rfl
theorem a_Pl_takesPipeEnd_21 : dk_at b_Pl_takesPipeEnd 21 t_Pl_takesPipeEnd_21 := dk_go 3 a_Pl_takesPipeEnd_18 rfl
theorem a_Pl_takesPipeEnd_22 : dk_at b_Pl_takesPipeEnd 22 t_Pl_takesPipeEnd_22 := dk_go 1 a_Pl_takesPipeEnd_21 rfl
theorem a_Pl_takesPipeEnd_23 : dk_at b_Pl_takesPipeEnd 23 t_Pl_takesPipeEnd_23 := dk_go 1 a_Pl_takesPipeEnd_22 rfl
theorem a_Pl_takesPipeEnd_26 : dk_at b_Pl_takesPipeEnd 26 t_Pl_takesPipeEnd_26 := dk_go 3 a_Pl_takesPipeEnd_23 rfl
theorem a_Pl_takesPipeEnd_27 : dk_at b_Pl_takesPipeEnd 27 t_Pl_takesPipeEnd_27 := dk_go 1 a_Pl_takesPipeEnd_26 rfl
theorem a_Pl_takesPipeEnd_28 : dk_at b_Pl_takesPipeEnd 28 t_Pl_takesPipeEnd_28 := dk_go 1 a_Pl_takesPipeEnd_27 rfl
theorem a_Pl_takesPipeEnd_31 : dk_at b_Pl_takesPipeEnd 31 t_Pl_takesPipeEnd_31 := dk_go 3 a_Pl_takesPipeEnd_28 rfl
theorem a_Pl_takesPipeEnd_32 : dk_at b_Pl_takesPipeEnd 32 t_Pl_takesPipeEnd_32 := dk_go 1 a_Pl_takesPipeEnd_31 rfl
theorem a_Pl_takesPipeEnd_33 : dk_at b_Pl_takesPipeEnd 33 t_Pl_takesPipeEnd_33 := dk_go 1 a_Pl_takesPipeEnd_32 rfl
theorem a_Pl_takesPipeEnd_34 : dk_at b_Pl_takesPipeEnd 34 t_Pl_takesPipeEnd_34 := dk_go 1 a_Pl_takesPipeEnd_33 rfl
theorem a_Pl_takesPipeEnd_37 : dk_at b_Pl_takesPipeEnd 37 t_Pl_takesPipeEnd_37 := dk_go 3 a_Pl_takesPipeEnd_34 rfl
theorem d_Pl_takesPipeEnd_0 : decode b_Pl_takesPipeEnd 0 = .ok (.aload_n 0, 1) := dk_0 a_Pl_takesPipeEnd_0 (dko_42 _)
theorem d_Pl_takesPipeEnd_1 : decode b_Pl_takesPipeEnd 1 = .ok (.getfield 33, 3) := dk_U2 a_Pl_takesPipeEnd_1 (dko_180 _) rfl
theorem d_Pl_takesPipeEnd_4 : decode b_Pl_takesPipeEnd 4 = .ok (.aload_n 0, 1) := dk_0 a_Pl_takesPipeEnd_4 (dko_42 _)
theorem d_Pl_takesPipeEnd_5 : decode b_Pl_takesPipeEnd 5 = .ok (.getfield 44, 3) := dk_U2 a_Pl_takesPipeEnd_5 (dko_180 _) rfl
theorem d_Pl_takesPipeEnd_8 : decode b_Pl_takesPipeEnd 8 = .ok (.invokevirtual 56, 3) := dk_U2 a_Pl_takesPipeEnd_8 (dko_182 _) rfl
theorem d_Pl_takesPipeEnd_11 : decode b_Pl_takesPipeEnd 11 = .ok (.bipush 45, 2) := dk_S1 a_Pl_takesPipeEnd_11 (dko_16 _) (by decide +kernel)
theorem d_Pl_takesPipeEnd_13 : decode b_Pl_takesPipeEnd 13 = .ok (.if_icmp .ne 20, 3) := dk_S2 a_Pl_takesPipeEnd_13 (dko_160 _) (by decide +kernel)
theorem d_Pl_takesPipeEnd_16 : decode b_Pl_takesPipeEnd 16 = .ok (.aload_n 0, 1) := dk_0 a_Pl_takesPipeEnd_16 (dko_42 _)
theorem d_Pl_takesPipeEnd_17 : decode b_Pl_takesPipeEnd 17 = .ok (.dup, 1) := dk_0 a_Pl_takesPipeEnd_17 (dko_89 _)
theorem d_Pl_takesPipeEnd_18 : decode b_Pl_takesPipeEnd 18 = .ok (.getfield 44, 3) := dk_U2 a_Pl_takesPipeEnd_18 (dko_180 _) rfl
theorem d_Pl_takesPipeEnd_21 : decode b_Pl_takesPipeEnd 21 = .ok (.iconst 1, 1) := dk_0 a_Pl_takesPipeEnd_21 (dko_4 _)
theorem d_Pl_takesPipeEnd_22 : decode b_Pl_takesPipeEnd 22 = .ok (.iadd, 1) := dk_0 a_Pl_takesPipeEnd_22 (dko_96 _)
theorem d_Pl_takesPipeEnd_23 : decode b_Pl_takesPipeEnd 23 = .ok (.putfield 44, 3) := dk_U2 a_Pl_takesPipeEnd_23 (dko_181 _) rfl
theorem d_Pl_takesPipeEnd_26 : decode b_Pl_takesPipeEnd 26 = .ok (.aload_n 0, 1) := dk_0 a_Pl_takesPipeEnd_26 (dko_42 _)
theorem d_Pl_takesPipeEnd_27 : decode b_Pl_takesPipeEnd 27 = .ok (.iconst (-1), 1) := dk_0 a_Pl_takesPipeEnd_27 (dko_2 _)
theorem d_Pl_takesPipeEnd_28 : decode b_Pl_takesPipeEnd 28 = .ok (.putfield 71, 3) := dk_U2 a_Pl_takesPipeEnd_28 (dko_181 _) rfl
theorem d_Pl_takesPipeEnd_31 : decode b_Pl_takesPipeEnd 31 = .ok (.iconst 1, 1) := dk_0 a_Pl_takesPipeEnd_31 (dko_4 _)
theorem d_Pl_takesPipeEnd_32 : decode b_Pl_takesPipeEnd 32 = .ok (.ireturn, 1) := dk_0 a_Pl_takesPipeEnd_32 (dko_172 _)
theorem d_Pl_takesPipeEnd_33 : decode b_Pl_takesPipeEnd 33 = .ok (.aload_n 0, 1) := dk_0 a_Pl_takesPipeEnd_33 (dko_42 _)
theorem d_Pl_takesPipeEnd_34 : decode b_Pl_takesPipeEnd 34 = .ok (.invokevirtual 65, 3) := dk_U2 a_Pl_takesPipeEnd_34 (dko_182 _) rfl
theorem d_Pl_takesPipeEnd_37 : decode b_Pl_takesPipeEnd 37 = .ok (.ireturn, 1) := dk_0 a_Pl_takesPipeEnd_37 (dko_172 _)
set_option maxHeartbeats 4000000 in
set_option maxRecDepth 100000 in
theorem ok_Pl_takesPipeEnd (pc : Nat) : OpS mt mi_Pl_takesPipeEnd pc (cs_Pl_takesPipeEnd pc) := (os_n (os_n (os_n (os_n (os_l (so_aload_n d_Pl_takesPipeEnd_0 rfl)) (os_l (so_get (C := R_Pl) (T := F_Pl) (N := 12) (j := 9) in_Pl rfl (by decide) mw_117 d_Pl_takesPipeEnd_1))) (os_n (os_l (so_aload_n d_Pl_takesPipeEnd_4 rfl)) (os_n (os_l (so_get (C := R_Pl) (T := F_Pl) (N := 12) (j := 10) in_Pl rfl (by decide) mw_118 d_Pl_takesPipeEnd_5)) (os_l (so_callV (iv := mi_Tp_at) rfl rfl rfl mw_765 mw_754 mw_755 mw_2 mw_756 ⟨by decide +kernel, by decide +kernel, by decide +kernel⟩ (by decide) d_Pl_takesPipeEnd_8))))) (os_n (os_n (os_l (so_bipush d_Pl_takesPipeEnd_11 (by decide))) (os_l (so_icne d_Pl_takesPipeEnd_13 (by decide)))) (os_n (os_l (so_aload_n d_Pl_takesPipeEnd_16 rfl)) (os_n (os_l (so_dup d_Pl_takesPipeEnd_17)) (os_l (so_get (C := R_Pl) (T := F_Pl) (N := 12) (j := 10) in_Pl rfl (by decide) mw_118 d_Pl_takesPipeEnd_18)))))) (os_n (os_n (os_n (os_l (so_iconst d_Pl_takesPipeEnd_21 (by decide))) (os_l (so_iadd d_Pl_takesPipeEnd_22))) (os_n (os_l (so_putI (C := R_Pl) (T := F_Pl) (N := 12) (j := 10) in_Pl t_Pl_ok n_Pl rfl (by decide) mw_118 rfl (by decide +kernel) d_Pl_takesPipeEnd_23)) (os_n (os_l (so_aload_n d_Pl_takesPipeEnd_26 rfl)) (os_l (so_iconst d_Pl_takesPipeEnd_27 (by decide)))))) (os_n (os_n (os_l (so_putI (C := R_Pl) (T := F_Pl) (N := 12) (j := 11) in_Pl t_Pl_ok n_Pl rfl (by decide) mw_119 rfl (by decide +kernel) d_Pl_takesPipeEnd_28)) (os_n (os_l (so_iconst d_Pl_takesPipeEnd_31 (by decide))) (os_l (so_zreturn rfl d_Pl_takesPipeEnd_32)))) (os_n (os_l (so_aload_n d_Pl_takesPipeEnd_33 rfl)) (os_n (os_l (so_callV (iv := mi_Pl_takesNumber) rfl rfl rfl mw_773 mw_775 sl_2 mw_5 mw_776 ⟨by decide +kernel, by decide +kernel, by decide +kernel⟩ (by decide) d_Pl_takesPipeEnd_34)) (os_l (so_zreturn rfl d_Pl_takesPipeEnd_37)))))))
abbrev t_Pl_takesNumber_92 : List UInt8 := 172 :: []
abbrev t_Pl_takesNumber_91 : List UInt8 := 3 :: t_Pl_takesNumber_92
abbrev t_Pl_takesNumber_88 : List UInt8 := 167 :: 0 :: 4 :: t_Pl_takesNumber_91
abbrev t_Pl_takesNumber_87 : List UInt8 := 4 :: t_Pl_takesNumber_88
abbrev t_Pl_takesNumber_84 : List UInt8 := 158 :: 0 :: 7 :: t_Pl_takesNumber_87
abbrev t_Pl_takesNumber_83 : List UInt8 := 27 :: t_Pl_takesNumber_84
abbrev t_Pl_takesNumber_80 : List UInt8 := 167 :: 255 :: 183 :: t_Pl_takesNumber_83
abbrev t_Pl_takesNumber_77 : List UInt8 := 132 :: 1 :: 1 :: t_Pl_takesNumber_80
abbrev t_Pl_takesNumber_74 : List UInt8 := 181 :: 0 :: 44 :: t_Pl_takesNumber_77
abbrev t_Pl_takesNumber_73 : List UInt8 := 96 :: t_Pl_takesNumber_74
abbrev t_Pl_takesNumber_72 : List UInt8 := 4 :: t_Pl_takesNumber_73
abbrev t_Pl_takesNumber_69 : List UInt8 := 180 :: 0 :: 44 :: t_Pl_takesNumber_72
abbrev t_Pl_takesNumber_68 : List UInt8 := 89 :: t_Pl_takesNumber_69
abbrev t_Pl_takesNumber_67 : List UInt8 := 42 :: t_Pl_takesNumber_68
abbrev t_Pl_takesNumber_64 : List UInt8 := 181 :: 0 :: 71 :: t_Pl_takesNumber_67
abbrev t_Pl_takesNumber_63 : List UInt8 := 100 :: t_Pl_takesNumber_64
abbrev t_Pl_takesNumber_61 : List UInt8 := 16 :: 48 :: t_Pl_takesNumber_63
abbrev t_Pl_takesNumber_60 : List UInt8 := 96 :: t_Pl_takesNumber_61
abbrev t_Pl_takesNumber_57 : List UInt8 := 182 :: 0 :: 56 :: t_Pl_takesNumber_60
abbrev t_Pl_takesNumber_54 : List UInt8 := 180 :: 0 :: 44 :: t_Pl_takesNumber_57
abbrev t_Pl_takesNumber_53 : List UInt8 := 42 :: t_Pl_takesNumber_54
abbrev t_Pl_takesNumber_50 : List UInt8 := 180 :: 0 :: 33 :: t_Pl_takesNumber_53
abbrev t_Pl_takesNumber_49 : List UInt8 := 42 :: t_Pl_takesNumber_50
abbrev t_Pl_takesNumber_48 : List UInt8 := 104 :: t_Pl_takesNumber_49
abbrev t_Pl_takesNumber_46 : List UInt8 := 16 :: 10 :: t_Pl_takesNumber_48
abbrev t_Pl_takesNumber_43 : List UInt8 := 180 :: 0 :: 71 :: t_Pl_takesNumber_46
abbrev t_Pl_takesNumber_42 : List UInt8 := 42 :: t_Pl_takesNumber_43
abbrev t_Pl_takesNumber_41 : List UInt8 := 42 :: t_Pl_takesNumber_42
abbrev t_Pl_takesNumber_38 : List UInt8 := 158 :: 0 :: 45 :: t_Pl_takesNumber_41
abbrev t_Pl_takesNumber_35 : List UInt8 := 180 :: 0 :: 71 :: t_Pl_takesNumber_38
abbrev t_Pl_takesNumber_34 : List UInt8 := 42 :: t_Pl_takesNumber_35
abbrev t_Pl_takesNumber_31 : List UInt8 := 153 :: 0 :: 10 :: t_Pl_takesNumber_34
abbrev t_Pl_takesNumber_30 : List UInt8 := 27 :: t_Pl_takesNumber_31
abbrev t_Pl_takesNumber_27 : List UInt8 := 153 :: 0 :: 56 :: t_Pl_takesNumber_30
abbrev t_Pl_takesNumber_24 : List UInt8 := 184 :: 0 :: 107 :: t_Pl_takesNumber_27
abbrev t_Pl_takesNumber_21 : List UInt8 := 182 :: 0 :: 56 :: t_Pl_takesNumber_24
abbrev t_Pl_takesNumber_18 : List UInt8 := 180 :: 0 :: 44 :: t_Pl_takesNumber_21
abbrev t_Pl_takesNumber_17 : List UInt8 := 42 :: t_Pl_takesNumber_18
abbrev t_Pl_takesNumber_14 : List UInt8 := 180 :: 0 :: 33 :: t_Pl_takesNumber_17
abbrev t_Pl_takesNumber_13 : List UInt8 := 42 :: t_Pl_takesNumber_14
abbrev t_Pl_takesNumber_10 : List UInt8 := 162 :: 0 :: 73 :: t_Pl_takesNumber_13
abbrev t_Pl_takesNumber_8 : List UInt8 := 16 :: 7 :: t_Pl_takesNumber_10
abbrev t_Pl_takesNumber_7 : List UInt8 := 27 :: t_Pl_takesNumber_8
abbrev t_Pl_takesNumber_6 : List UInt8 := 60 :: t_Pl_takesNumber_7
abbrev t_Pl_takesNumber_5 : List UInt8 := 3 :: t_Pl_takesNumber_6
abbrev t_Pl_takesNumber_2 : List UInt8 := 181 :: 0 :: 71 :: t_Pl_takesNumber_5
abbrev t_Pl_takesNumber_1 : List UInt8 := 3 :: t_Pl_takesNumber_2
abbrev t_Pl_takesNumber_0 : List UInt8 := 42 :: t_Pl_takesNumber_1
theorem a_Pl_takesNumber_0 : dk_at b_Pl_takesNumber 0 t_Pl_takesNumber_0 := dk_start (by decide +kernel)
theorem a_Pl_takesNumber_1 : dk_at b_Pl_takesNumber 1 t_Pl_takesNumber_1 := dk_go 1 a_Pl_takesNumber_0 rfl
theorem a_Pl_takesNumber_2 : dk_at b_Pl_takesNumber 2 t_Pl_takesNumber_2 := dk_go 1 a_Pl_takesNumber_1 rfl
theorem a_Pl_takesNumber_5 : dk_at b_Pl_takesNumber 5 t_Pl_takesNumber_5 := dk_go 3 a_Pl_takesNumber_2 rfl
theorem a_Pl_takesNumber_6 : dk_at b_Pl_takesNumber 6 t_Pl_takesNumber_6 := dk_go 1 a_Pl_takesNumber_5 rfl
theorem a_Pl_takesNumber_7 : dk_at b_Pl_takesNumber 7 t_Pl_takesNumber_7 := dk_go 1 a_Pl_takesNumber_6 rfl
theorem a_Pl_takesNumber_8 : dk_at b_Pl_takesNumber 8 t_Pl_takesNumber_8 := dk_go 1 a_Pl_takesNumber_7 rfl
theorem a_Pl_takesNumber_10 : dk_at b_Pl_takesNumber 10 t_Pl_takesNumber_10 := dk_go 2 a_Pl_takesNumber_8 rfl
theorem a_Pl_takesNumber_13 : dk_at b_Pl_takesNumber 13 t_Pl_takesNumber_13 := dk_go 3 a_Pl_takesNumber_10 rfl
theorem a_Pl_takesNumber_14 : dk_at b_Pl_takesNumber 14 t_Pl_takesNumber_14 := dk_go 1 a_Pl_takesNumber_13 rfl
theorem a_Pl_takesNumber_17 : dk_at b_Pl_takesNumber 17 t_Pl_takesNumber_17 := dk_go 3 a_Pl_takesNumber_14 rfl
theorem a_Pl_takesNumber_18 : dk_at b_Pl_takesNumber 18 t_Pl_takesNumber_18 := dk_go 1 a_Pl_takesNumber_17 rfl
theorem a_Pl_takesNumber_21 : dk_at b_Pl_takesNumber 21 t_Pl_takesNumber_21 := dk_go 3 a_Pl_takesNumber_18 rfl
theorem a_Pl_takesNumber_24 : dk_at b_Pl_takesNumber 24 t_Pl_takesNumber_24 := dk_go 3 a_Pl_takesNumber_21 rfl
theorem a_Pl_takesNumber_27 : dk_at b_Pl_takesNumber 27 t_Pl_takesNumber_27 := dk_go 3 a_Pl_takesNumber_24 rfl
theorem a_Pl_takesNumber_30 : dk_at b_Pl_takesNumber 30 t_Pl_takesNumber_30 := dk_go 3 a_Pl_takesNumber_27 rfl
theorem a_Pl_takesNumber_31 : dk_at b_Pl_takesNumber 31 t_Pl_takesNumber_31 := dk_go 1 a_Pl_takesNumber_30 rfl
theorem a_Pl_takesNumber_34 : dk_at b_Pl_takesNumber 34 t_Pl_takesNumber_34 := dk_go 3 a_Pl_takesNumber_31 rfl
theorem a_Pl_takesNumber_35 : dk_at b_Pl_takesNumber 35 t_Pl_takesNumber_35 := dk_go 1 a_Pl_takesNumber_34 rfl
theorem a_Pl_takesNumber_38 : dk_at b_Pl_takesNumber 38 t_Pl_takesNumber_38 := dk_go 3 a_Pl_takesNumber_35 rfl
theorem a_Pl_takesNumber_41 : dk_at b_Pl_takesNumber 41 t_Pl_takesNumber_41 := dk_go 3 a_Pl_takesNumber_38 rfl
theorem a_Pl_takesNumber_42 : dk_at b_Pl_takesNumber 42 t_Pl_takesNumber_42 := dk_go 1 a_Pl_takesNumber_41 rfl
theorem a_Pl_takesNumber_43 : dk_at b_Pl_takesNumber 43 t_Pl_takesNumber_43 := dk_go 1 a_Pl_takesNumber_42 rfl
theorem a_Pl_takesNumber_46 : dk_at b_Pl_takesNumber 46 t_Pl_takesNumber_46 := dk_go 3 a_Pl_takesNumber_43 rfl
theorem a_Pl_takesNumber_48 : dk_at b_Pl_takesNumber 48 t_Pl_takesNumber_48 := dk_go 2 a_Pl_takesNumber_46 rfl
theorem a_Pl_takesNumber_49 : dk_at b_Pl_takesNumber 49 t_Pl_takesNumber_49 := dk_go 1 a_Pl_takesNumber_48 rfl
theorem a_Pl_takesNumber_50 : dk_at b_Pl_takesNumber 50 t_Pl_takesNumber_50 := dk_go 1 a_Pl_takesNumber_49 rfl
theorem a_Pl_takesNumber_53 : dk_at b_Pl_takesNumber 53 t_Pl_takesNumber_53 := dk_go 3 a_Pl_takesNumber_50 rfl
theorem a_Pl_takesNumber_54 : dk_at b_Pl_takesNumber 54 t_Pl_takesNumber_54 := dk_go 1 a_Pl_takesNumber_53 rfl
theorem a_Pl_takesNumber_57 : dk_at b_Pl_takesNumber 57 t_Pl_takesNumber_57 := dk_go 3 a_Pl_takesNumber_54 rfl
theorem a_Pl_takesNumber_60 : dk_at b_Pl_takesNumber 60 t_Pl_takesNumber_60 := dk_go 3 a_Pl_takesNumber_57 rfl
theorem a_Pl_takesNumber_61 : dk_at b_Pl_takesNumber 61 t_Pl_takesNumber_61 := dk_go 1 a_Pl_takesNumber_60 rfl
theorem a_Pl_takesNumber_63 : dk_at b_Pl_takesNumber 63 t_Pl_takesNumber_63 := dk_go 2 a_Pl_takesNumber_61 rfl
theorem a_Pl_takesNumber_64 : dk_at b_Pl_takesNumber 64 t_Pl_takesNumber_64 := dk_go 1 a_Pl_takesNumber_63 rfl
theorem a_Pl_takesNumber_67 : dk_at b_Pl_takesNumber 67 t_Pl_takesNumber_67 := dk_go 3 a_Pl_takesNumber_64 rfl
theorem a_Pl_takesNumber_68 : dk_at b_Pl_takesNumber 68 t_Pl_takesNumber_68 := dk_go 1 a_Pl_takesNumber_67 rfl
theorem a_Pl_takesNumber_69 : dk_at b_Pl_takesNumber 69 t_Pl_takesNumber_69 := dk_go 1 a_Pl_takesNumber_68 rfl
theorem a_Pl_takesNumber_72 : dk_at b_Pl_takesNumber 72 t_Pl_takesNumber_72 := dk_go 3 a_Pl_takesNumber_69 rfl
theorem a_Pl_takesNumber_73 : dk_at b_Pl_takesNumber 73 t_Pl_takesNumber_73 := dk_go 1 a_Pl_takesNumber_72 rfl
theorem a_Pl_takesNumber_74 : dk_at b_Pl_takesNumber 74 t_Pl_takesNumber_74 := dk_go 1 a_Pl_takesNumber_73 rfl
theorem a_Pl_takesNumber_77 : dk_at b_Pl_takesNumber 77 t_Pl_takesNumber_77 := dk_go 3 a_Pl_takesNumber_74 rfl
theorem a_Pl_takesNumber_80 : dk_at b_Pl_takesNumber 80 t_Pl_takesNumber_80 := dk_go 3 a_Pl_takesNumber_77 rfl
theorem a_Pl_takesNumber_83 : dk_at b_Pl_takesNumber 83 t_Pl_takesNumber_83 := dk_go 3 a_Pl_takesNumber_80 rfl
theorem a_Pl_takesNumber_84 : dk_at b_Pl_takesNumber 84 t_Pl_takesNumber_84 := dk_go 1 a_Pl_takesNumber_83 rfl
theorem a_Pl_takesNumber_87 : dk_at b_Pl_takesNumber 87 t_Pl_takesNumber_87 := dk_go 3 a_Pl_takesNumber_84 rfl
theorem a_Pl_takesNumber_88 : dk_at b_Pl_takesNumber 88 t_Pl_takesNumber_88 := dk_go 1 a_Pl_takesNumber_87 rfl
theorem a_Pl_takesNumber_91 : dk_at b_Pl_takesNumber 91 t_Pl_takesNumber_91 := dk_go 3 a_Pl_takesNumber_88 rfl
theorem a_Pl_takesNumber_92 : dk_at b_Pl_takesNumber 92 t_Pl_takesNumber_92 := dk_go 1 a_Pl_takesNumber_91 rfl
theorem d_Pl_takesNumber_0 : decode b_Pl_takesNumber 0 = .ok (.aload_n 0, 1) := dk_0 a_Pl_takesNumber_0 (dko_42 _)
theorem d_Pl_takesNumber_1 : decode b_Pl_takesNumber 1 = .ok (.iconst 0, 1) := dk_0 a_Pl_takesNumber_1 (dko_3 _)
theorem d_Pl_takesNumber_2 : decode b_Pl_takesNumber 2 = .ok (.putfield 71, 3) := dk_U2 a_Pl_takesNumber_2 (dko_181 _) rfl
theorem d_Pl_takesNumber_5 : decode b_Pl_takesNumber 5 = .ok (.iconst 0, 1) := dk_0 a_Pl_takesNumber_5 (dko_3 _)
theorem d_Pl_takesNumber_6 : decode b_Pl_takesNumber 6 = .ok (.istore_n 1, 1) := dk_0 a_Pl_takesNumber_6 (dko_60 _)
theorem d_Pl_takesNumber_7 : decode b_Pl_takesNumber 7 = .ok (.iload_n 1, 1) := dk_0 a_Pl_takesNumber_7 (dko_27 _)
theorem d_Pl_takesNumber_8 : decode b_Pl_takesNumber 8 = .ok (.bipush 7, 2) := dk_S1 a_Pl_takesNumber_8 (dko_16 _) (by decide +kernel)
theorem d_Pl_takesNumber_10 : decode b_Pl_takesNumber 10 = .ok (.if_icmp .ge 73, 3) := dk_S2 a_Pl_takesNumber_10 (dko_162 _) (by decide +kernel)
theorem d_Pl_takesNumber_13 : decode b_Pl_takesNumber 13 = .ok (.aload_n 0, 1) := dk_0 a_Pl_takesNumber_13 (dko_42 _)
theorem d_Pl_takesNumber_14 : decode b_Pl_takesNumber 14 = .ok (.getfield 33, 3) := dk_U2 a_Pl_takesNumber_14 (dko_180 _) rfl
theorem d_Pl_takesNumber_17 : decode b_Pl_takesNumber 17 = .ok (.aload_n 0, 1) := dk_0 a_Pl_takesNumber_17 (dko_42 _)
theorem d_Pl_takesNumber_18 : decode b_Pl_takesNumber 18 = .ok (.getfield 44, 3) := dk_U2 a_Pl_takesNumber_18 (dko_180 _) rfl
theorem d_Pl_takesNumber_21 : decode b_Pl_takesNumber 21 = .ok (.invokevirtual 56, 3) := dk_U2 a_Pl_takesNumber_21 (dko_182 _) rfl
theorem d_Pl_takesNumber_24 : decode b_Pl_takesNumber 24 = .ok (.invokestatic 107, 3) := dk_U2 a_Pl_takesNumber_24 (dko_184 _) rfl
theorem d_Pl_takesNumber_27 : decode b_Pl_takesNumber 27 = .ok (.ifCond .eq 56, 3) := dk_S2 a_Pl_takesNumber_27 (dko_153 _) (by decide +kernel)
theorem d_Pl_takesNumber_30 : decode b_Pl_takesNumber 30 = .ok (.iload_n 1, 1) := dk_0 a_Pl_takesNumber_30 (dko_27 _)
theorem d_Pl_takesNumber_31 : decode b_Pl_takesNumber 31 = .ok (.ifCond .eq 10, 3) := dk_S2 a_Pl_takesNumber_31 (dko_153 _) (by decide +kernel)
theorem d_Pl_takesNumber_34 : decode b_Pl_takesNumber 34 = .ok (.aload_n 0, 1) := dk_0 a_Pl_takesNumber_34 (dko_42 _)
theorem d_Pl_takesNumber_35 : decode b_Pl_takesNumber 35 = .ok (.getfield 71, 3) := dk_U2 a_Pl_takesNumber_35 (dko_180 _) rfl
theorem d_Pl_takesNumber_38 : decode b_Pl_takesNumber 38 = .ok (.ifCond .le 45, 3) := dk_S2 a_Pl_takesNumber_38 (dko_158 _) (by decide +kernel)
theorem d_Pl_takesNumber_41 : decode b_Pl_takesNumber 41 = .ok (.aload_n 0, 1) := dk_0 a_Pl_takesNumber_41 (dko_42 _)
theorem d_Pl_takesNumber_42 : decode b_Pl_takesNumber 42 = .ok (.aload_n 0, 1) := dk_0 a_Pl_takesNumber_42 (dko_42 _)
theorem d_Pl_takesNumber_43 : decode b_Pl_takesNumber 43 = .ok (.getfield 71, 3) := dk_U2 a_Pl_takesNumber_43 (dko_180 _) rfl
theorem d_Pl_takesNumber_46 : decode b_Pl_takesNumber 46 = .ok (.bipush 10, 2) := dk_S1 a_Pl_takesNumber_46 (dko_16 _) (by decide +kernel)
theorem d_Pl_takesNumber_48 : decode b_Pl_takesNumber 48 = .ok (.imul, 1) := dk_0 a_Pl_takesNumber_48 (dko_104 _)
theorem d_Pl_takesNumber_49 : decode b_Pl_takesNumber 49 = .ok (.aload_n 0, 1) := dk_0 a_Pl_takesNumber_49 (dko_42 _)
theorem d_Pl_takesNumber_50 : decode b_Pl_takesNumber 50 = .ok (.getfield 33, 3) := dk_U2 a_Pl_takesNumber_50 (dko_180 _) rfl
theorem d_Pl_takesNumber_53 : decode b_Pl_takesNumber 53 = .ok (.aload_n 0, 1) := dk_0 a_Pl_takesNumber_53 (dko_42 _)
theorem d_Pl_takesNumber_54 : decode b_Pl_takesNumber 54 = .ok (.getfield 44, 3) := dk_U2 a_Pl_takesNumber_54 (dko_180 _) rfl
theorem d_Pl_takesNumber_57 : decode b_Pl_takesNumber 57 = .ok (.invokevirtual 56, 3) := dk_U2 a_Pl_takesNumber_57 (dko_182 _) rfl
theorem d_Pl_takesNumber_60 : decode b_Pl_takesNumber 60 = .ok (.iadd, 1) := dk_0 a_Pl_takesNumber_60 (dko_96 _)
theorem d_Pl_takesNumber_61 : decode b_Pl_takesNumber 61 = .ok (.bipush 48, 2) := dk_S1 a_Pl_takesNumber_61 (dko_16 _) (by decide +kernel)
theorem d_Pl_takesNumber_63 : decode b_Pl_takesNumber 63 = .ok (.isub, 1) := dk_0 a_Pl_takesNumber_63 (dko_100 _)
theorem d_Pl_takesNumber_64 : decode b_Pl_takesNumber 64 = .ok (.putfield 71, 3) := dk_U2 a_Pl_takesNumber_64 (dko_181 _) rfl
theorem d_Pl_takesNumber_67 : decode b_Pl_takesNumber 67 = .ok (.aload_n 0, 1) := dk_0 a_Pl_takesNumber_67 (dko_42 _)
theorem d_Pl_takesNumber_68 : decode b_Pl_takesNumber 68 = .ok (.dup, 1) := dk_0 a_Pl_takesNumber_68 (dko_89 _)
theorem d_Pl_takesNumber_69 : decode b_Pl_takesNumber 69 = .ok (.getfield 44, 3) := dk_U2 a_Pl_takesNumber_69 (dko_180 _) rfl
theorem d_Pl_takesNumber_72 : decode b_Pl_takesNumber 72 = .ok (.iconst 1, 1) := dk_0 a_Pl_takesNumber_72 (dko_4 _)
theorem d_Pl_takesNumber_73 : decode b_Pl_takesNumber 73 = .ok (.iadd, 1) := dk_0 a_Pl_takesNumber_73 (dko_96 _)
theorem d_Pl_takesNumber_74 : decode b_Pl_takesNumber 74 = .ok (.putfield 44, 3) := dk_U2 a_Pl_takesNumber_74 (dko_181 _) rfl
theorem d_Pl_takesNumber_77 : decode b_Pl_takesNumber 77 = .ok (.iinc 1 1, 3) := dk_US a_Pl_takesNumber_77 (dko_132 _) (by decide +kernel)
theorem d_Pl_takesNumber_80 : decode b_Pl_takesNumber 80 = .ok (.goto (-73), 3) := dk_S2 a_Pl_takesNumber_80 (dko_167 _) (by decide +kernel)
theorem d_Pl_takesNumber_83 : decode b_Pl_takesNumber 83 = .ok (.iload_n 1, 1) := dk_0 a_Pl_takesNumber_83 (dko_27 _)
theorem d_Pl_takesNumber_84 : decode b_Pl_takesNumber 84 = .ok (.ifCond .le 7, 3) := dk_S2 a_Pl_takesNumber_84 (dko_158 _) (by decide +kernel)
theorem d_Pl_takesNumber_87 : decode b_Pl_takesNumber 87 = .ok (.iconst 1, 1) := dk_0 a_Pl_takesNumber_87 (dko_4 _)
theorem d_Pl_takesNumber_88 : decode b_Pl_takesNumber 88 = .ok (.goto 4, 3) := dk_S2 a_Pl_takesNumber_88 (dko_167 _) (by decide +kernel)
theorem d_Pl_takesNumber_91 : decode b_Pl_takesNumber 91 = .ok (.iconst 0, 1) := dk_0 a_Pl_takesNumber_91 (dko_3 _)
theorem d_Pl_takesNumber_92 : decode b_Pl_takesNumber 92 = .ok (.ireturn, 1) := dk_0 a_Pl_takesNumber_92 (dko_172 _)
set_option maxHeartbeats 4000000 in
set_option maxRecDepth 100000 in
theorem ok_Pl_takesNumber (pc : Nat) : OpS mt mi_Pl_takesNumber pc (cs_Pl_takesNumber pc) := (os_n (os_n (os_n (os_n (os_n (os_l (so_aload_n d_Pl_takesNumber_0 rfl)) (os_n (os_l (so_iconst d_Pl_takesNumber_1 (by decide))) (os_l (so_putI (C := R_Pl) (T := F_Pl) (N := 12) (j := 11) in_Pl t_Pl_ok n_Pl rfl (by decide) mw_119 rfl (by decide +kernel) d_Pl_takesNumber_2)))) (os_n (os_l (so_iconst d_Pl_takesNumber_5 (by decide))) (os_n (os_l (so_istore_n d_Pl_takesNumber_6 rfl (by decide))) (os_l (so_iload_n d_Pl_takesNumber_7 rfl))))) (os_n (os_n (os_l (so_bipush d_Pl_takesNumber_8 (by decide))) (os_n (os_l (so_icge d_Pl_takesNumber_10 (by decide))) (os_l (so_aload_n d_Pl_takesNumber_13 rfl)))) (os_n (os_l (so_get (C := R_Pl) (T := F_Pl) (N := 12) (j := 9) in_Pl rfl (by decide) mw_117 d_Pl_takesNumber_14)) (os_n (os_l (so_aload_n d_Pl_takesNumber_17 rfl)) (os_l (so_get (C := R_Pl) (T := F_Pl) (N := 12) (j := 10) in_Pl rfl (by decide) mw_118 d_Pl_takesNumber_18)))))) (os_n (os_n (os_n (os_l (so_callV (iv := mi_Tp_at) rfl rfl rfl mw_765 mw_754 mw_755 mw_2 mw_756 ⟨by decide +kernel, by decide +kernel, by decide +kernel⟩ (by decide) d_Pl_takesNumber_21)) (os_n (os_l (so_callS (iv := mi_Tp_isDigit) rfl mw_777 mw_778 mw_2 mw_779 ⟨by decide +kernel, by decide +kernel, by decide +kernel⟩ (by decide) d_Pl_takesNumber_24)) (os_l (so_ifeq d_Pl_takesNumber_27 (by decide))))) (os_n (os_l (so_iload_n d_Pl_takesNumber_30 rfl)) (os_n (os_l (so_ifeq d_Pl_takesNumber_31 (by decide))) (os_l (so_aload_n d_Pl_takesNumber_34 rfl))))) (os_n (os_n (os_l (so_get (C := R_Pl) (T := F_Pl) (N := 12) (j := 11) in_Pl rfl (by decide) mw_119 d_Pl_takesNumber_35)) (os_n (os_l (so_ifle d_Pl_takesNumber_38 (by decide))) (os_l (so_aload_n d_Pl_takesNumber_41 rfl)))) (os_n (os_l (so_aload_n d_Pl_takesNumber_42 rfl)) (os_n (os_l (so_get (C := R_Pl) (T := F_Pl) (N := 12) (j := 11) in_Pl rfl (by decide) mw_119 d_Pl_takesNumber_43)) (os_l (so_bipush d_Pl_takesNumber_46 (by decide)))))))) (os_n (os_n (os_n (os_n (os_l (so_imul d_Pl_takesNumber_48)) (os_n (os_l (so_aload_n d_Pl_takesNumber_49 rfl)) (os_l (so_get (C := R_Pl) (T := F_Pl) (N := 12) (j := 9) in_Pl rfl (by decide) mw_117 d_Pl_takesNumber_50)))) (os_n (os_l (so_aload_n d_Pl_takesNumber_53 rfl)) (os_n (os_l (so_get (C := R_Pl) (T := F_Pl) (N := 12) (j := 10) in_Pl rfl (by decide) mw_118 d_Pl_takesNumber_54)) (os_l (so_callV (iv := mi_Tp_at) rfl rfl rfl mw_765 mw_754 mw_755 mw_2 mw_756 ⟨by decide +kernel, by decide +kernel, by decide +kernel⟩ (by decide) d_Pl_takesNumber_57))))) (os_n (os_n (os_l (so_iadd d_Pl_takesNumber_60)) (os_n (os_l (so_bipush d_Pl_takesNumber_61 (by decide))) (os_l (so_isub d_Pl_takesNumber_63)))) (os_n (os_l (so_putI (C := R_Pl) (T := F_Pl) (N := 12) (j := 11) in_Pl t_Pl_ok n_Pl rfl (by decide) mw_119 rfl (by decide +kernel) d_Pl_takesNumber_64)) (os_n (os_l (so_aload_n d_Pl_takesNumber_67 rfl)) (os_l (so_dup d_Pl_takesNumber_68)))))) (os_n (os_n (os_n (os_l (so_get (C := R_Pl) (T := F_Pl) (N := 12) (j := 10) in_Pl rfl (by decide) mw_118 d_Pl_takesNumber_69)) (os_n (os_l (so_iconst d_Pl_takesNumber_72 (by decide))) (os_l (so_iadd d_Pl_takesNumber_73)))) (os_n (os_l (so_putI (C := R_Pl) (T := F_Pl) (N := 12) (j := 10) in_Pl t_Pl_ok n_Pl rfl (by decide) mw_118 rfl (by decide +kernel) d_Pl_takesNumber_74)) (os_n (os_l (so_iinc d_Pl_takesNumber_77 (by decide) (by decide))) (os_l (so_goto d_Pl_takesNumber_80 (by decide)))))) (os_n (os_n (os_l (so_iload_n d_Pl_takesNumber_83 rfl)) (os_n (os_l (so_ifle d_Pl_takesNumber_84 (by decide))) (os_l (so_iconst d_Pl_takesNumber_87 (by decide))))) (os_n (os_l (so_goto d_Pl_takesNumber_88 (by decide))) (os_n (os_l (so_iconst d_Pl_takesNumber_91 (by decide))) (os_l (so_zreturn rfl d_Pl_takesNumber_92))))))))
abbrev t_Pl_addThing_79 : List UInt8 := 172 :: []
abbrev t_Pl_addThing_78 : List UInt8 := 4 :: t_Pl_addThing_79
abbrev t_Pl_addThing_75 : List UInt8 := 181 :: 0 :: 37 :: t_Pl_addThing_78
abbrev t_Pl_addThing_74 : List UInt8 := 96 :: t_Pl_addThing_75
abbrev t_Pl_addThing_73 : List UInt8 := 4 :: t_Pl_addThing_74
abbrev t_Pl_addThing_70 : List UInt8 := 180 :: 0 :: 37 :: t_Pl_addThing_73
abbrev t_Pl_addThing_69 : List UInt8 := 89 :: t_Pl_addThing_70
abbrev t_Pl_addThing_68 : List UInt8 := 42 :: t_Pl_addThing_69
abbrev t_Pl_addThing_65 : List UInt8 := 167 :: 255 :: 234 :: t_Pl_addThing_68
abbrev t_Pl_addThing_62 : List UInt8 := 132 :: 3 :: 1 :: t_Pl_addThing_65
abbrev t_Pl_addThing_61 : List UInt8 := 79 :: t_Pl_addThing_62
abbrev t_Pl_addThing_60 : List UInt8 := 2 :: t_Pl_addThing_61
abbrev t_Pl_addThing_59 : List UInt8 := 96 :: t_Pl_addThing_60
abbrev t_Pl_addThing_58 : List UInt8 := 29 :: t_Pl_addThing_59
abbrev t_Pl_addThing_57 : List UInt8 := 104 :: t_Pl_addThing_58
abbrev t_Pl_addThing_56 : List UInt8 := 7 :: t_Pl_addThing_57
abbrev t_Pl_addThing_53 : List UInt8 := 180 :: 0 :: 37 :: t_Pl_addThing_56
abbrev t_Pl_addThing_52 : List UInt8 := 42 :: t_Pl_addThing_53
abbrev t_Pl_addThing_49 : List UInt8 := 180 :: 0 :: 30 :: t_Pl_addThing_52
abbrev t_Pl_addThing_48 : List UInt8 := 42 :: t_Pl_addThing_49
abbrev t_Pl_addThing_45 : List UInt8 := 162 :: 0 :: 23 :: t_Pl_addThing_48
abbrev t_Pl_addThing_44 : List UInt8 := 7 :: t_Pl_addThing_45
abbrev t_Pl_addThing_43 : List UInt8 := 29 :: t_Pl_addThing_44
abbrev t_Pl_addThing_42 : List UInt8 := 62 :: t_Pl_addThing_43
abbrev t_Pl_addThing_41 : List UInt8 := 3 :: t_Pl_addThing_42
abbrev t_Pl_addThing_40 : List UInt8 := 79 :: t_Pl_addThing_41
abbrev t_Pl_addThing_39 : List UInt8 := 3 :: t_Pl_addThing_40
abbrev t_Pl_addThing_36 : List UInt8 := 180 :: 0 :: 37 :: t_Pl_addThing_39
abbrev t_Pl_addThing_35 : List UInt8 := 42 :: t_Pl_addThing_36
abbrev t_Pl_addThing_32 : List UInt8 := 180 :: 0 :: 18 :: t_Pl_addThing_35
abbrev t_Pl_addThing_31 : List UInt8 := 42 :: t_Pl_addThing_32
abbrev t_Pl_addThing_30 : List UInt8 := 79 :: t_Pl_addThing_31
abbrev t_Pl_addThing_29 : List UInt8 := 28 :: t_Pl_addThing_30
abbrev t_Pl_addThing_26 : List UInt8 := 180 :: 0 :: 37 :: t_Pl_addThing_29
abbrev t_Pl_addThing_25 : List UInt8 := 42 :: t_Pl_addThing_26
abbrev t_Pl_addThing_22 : List UInt8 := 180 :: 0 :: 15 :: t_Pl_addThing_25
abbrev t_Pl_addThing_21 : List UInt8 := 42 :: t_Pl_addThing_22
abbrev t_Pl_addThing_20 : List UInt8 := 79 :: t_Pl_addThing_21
abbrev t_Pl_addThing_19 : List UInt8 := 27 :: t_Pl_addThing_20
abbrev t_Pl_addThing_16 : List UInt8 := 180 :: 0 :: 37 :: t_Pl_addThing_19
abbrev t_Pl_addThing_15 : List UInt8 := 42 :: t_Pl_addThing_16
abbrev t_Pl_addThing_12 : List UInt8 := 180 :: 0 :: 9 :: t_Pl_addThing_15
abbrev t_Pl_addThing_11 : List UInt8 := 42 :: t_Pl_addThing_12
abbrev t_Pl_addThing_10 : List UInt8 := 172 :: t_Pl_addThing_11
abbrev t_Pl_addThing_9 : List UInt8 := 3 :: t_Pl_addThing_10
abbrev t_Pl_addThing_6 : List UInt8 := 161 :: 0 :: 5 :: t_Pl_addThing_9
abbrev t_Pl_addThing_4 : List UInt8 := 16 :: 20 :: t_Pl_addThing_6
abbrev t_Pl_addThing_1 : List UInt8 := 180 :: 0 :: 37 :: t_Pl_addThing_4
abbrev t_Pl_addThing_0 : List UInt8 := 42 :: t_Pl_addThing_1
theorem a_Pl_addThing_0 : dk_at b_Pl_addThing 0 t_Pl_addThing_0 := dk_start (by decide +kernel)
theorem a_Pl_addThing_1 : dk_at b_Pl_addThing 1 t_Pl_addThing_1 := dk_go 1 a_Pl_addThing_0 rfl
theorem a_Pl_addThing_4 : dk_at b_Pl_addThing 4 t_Pl_addThing_4 := dk_go 3 a_Pl_addThing_1 rfl
theorem a_Pl_addThing_6 : dk_at b_Pl_addThing 6 t_Pl_addThing_6 := dk_go 2 a_Pl_addThing_4 rfl
theorem a_Pl_addThing_9 : dk_at b_Pl_addThing 9 t_Pl_addThing_9 := dk_go 3 a_Pl_addThing_6 rfl
theorem a_Pl_addThing_10 : dk_at b_Pl_addThing 10 t_Pl_addThing_10 := dk_go 1 a_Pl_addThing_9 rfl
theorem a_Pl_addThing_11 : dk_at b_Pl_addThing 11 t_Pl_addThing_11 := dk_go 1 a_Pl_addThing_10 rfl
theorem a_Pl_addThing_12 : dk_at b_Pl_addThing 12 t_Pl_addThing_12 := dk_go 1 a_Pl_addThing_11 rfl
theorem a_Pl_addThing_15 : dk_at b_Pl_addThing 15 t_Pl_addThing_15 := dk_go 3 a_Pl_addThing_12 rfl
theorem a_Pl_addThing_16 : dk_at b_Pl_addThing 16 t_Pl_addThing_16 := dk_go 1 a_Pl_addThing_15 rfl
theorem a_Pl_addThing_19 : dk_at b_Pl_addThing 19 t_Pl_addThing_19 := dk_go 3 a_Pl_addThing_16 rfl
theorem a_Pl_addThing_20 : dk_at b_Pl_addThing 20 t_Pl_addThing_20 := dk_go 1 a_Pl_addThing_19 rfl
theorem a_Pl_addThing_21 : dk_at b_Pl_addThing 21 t_Pl_addThing_21 := dk_go 1 a_Pl_addThing_20 rfl
theorem a_Pl_addThing_22 : dk_at b_Pl_addThing 22 t_Pl_addThing_22 := dk_go 1 a_Pl_addThing_21 rfl
theorem a_Pl_addThing_25 : dk_at b_Pl_addThing 25 t_Pl_addThing_25 := dk_go 3 a_Pl_addThing_22 rfl
theorem a_Pl_addThing_26 : dk_at b_Pl_addThing 26 t_Pl_addThing_26 := dk_go 1 a_Pl_addThing_25 rfl
theorem a_Pl_addThing_29 : dk_at b_Pl_addThing 29 t_Pl_addThing_29 := dk_go 3 a_Pl_addThing_26 rfl
theorem a_Pl_addThing_30 : dk_at b_Pl_addThing 30 t_Pl_addThing_30 := dk_go 1 a_Pl_addThing_29 rfl
theorem a_Pl_addThing_31 : dk_at b_Pl_addThing 31 t_Pl_addThing_31 := dk_go 1 a_Pl_addThing_30 rfl
theorem a_Pl_addThing_32 : dk_at b_Pl_addThing 32 t_Pl_addThing_32 := dk_go 1 a_Pl_addThing_31 rfl
theorem a_Pl_addThing_35 : dk_at b_Pl_addThing 35 t_Pl_addThing_35 := dk_go 3 a_Pl_addThing_32 rfl
theorem a_Pl_addThing_36 : dk_at b_Pl_addThing 36 t_Pl_addThing_36 := dk_go 1 a_Pl_addThing_35 rfl
theorem a_Pl_addThing_39 : dk_at b_Pl_addThing 39 t_Pl_addThing_39 := dk_go 3 a_Pl_addThing_36 rfl
theorem a_Pl_addThing_40 : dk_at b_Pl_addThing 40 t_Pl_addThing_40 := dk_go 1 a_Pl_addThing_39 rfl
theorem a_Pl_addThing_41 : dk_at b_Pl_addThing 41 t_Pl_addThing_41 := dk_go 1 a_Pl_addThing_40 rfl
theorem a_Pl_addThing_42 : dk_at b_Pl_addThing 42 t_Pl_addThing_42 := dk_go 1 a_Pl_addThing_41 rfl
theorem a_Pl_addThing_43 : dk_at b_Pl_addThing 43 t_Pl_addThing_43 := dk_go 1 a_Pl_addThing_42 rfl
theorem a_Pl_addThing_44 : dk_at b_Pl_addThing 44 t_Pl_addThing_44 := dk_go 1 a_Pl_addThing_43 rfl
theorem a_Pl_addThing_45 : dk_at b_Pl_addThing 45 t_Pl_addThing_45 := dk_go 1 a_Pl_addThing_44 rfl
theorem a_Pl_addThing_48 : dk_at b_Pl_addThing 48 t_Pl_addThing_48 := dk_go 3 a_Pl_addThing_45 rfl
theorem a_Pl_addThing_49 : dk_at b_Pl_addThing 49 t_Pl_addThing_49 := dk_go 1 a_Pl_addThing_48 rfl
theorem a_Pl_addThing_52 : dk_at b_Pl_addThing 52 t_Pl_addThing_52 := dk_go 3 a_Pl_addThing_49 rfl
theorem a_Pl_addThing_53 : dk_at b_Pl_addThing 53 t_Pl_addThing_53 := dk_go 1 a_Pl_addThing_52 rfl
theorem a_Pl_addThing_56 : dk_at b_Pl_addThing 56 t_Pl_addThing_56 := dk_go 3 a_Pl_addThing_53 rfl
theorem a_Pl_addThing_57 : dk_at b_Pl_addThing 57 t_Pl_addThing_57 := dk_go 1 a_Pl_addThing_56 rfl
theorem a_Pl_addThing_58 : dk_at b_Pl_addThing 58 t_Pl_addThing_58 := dk_go 1 a_Pl_addThing_57 rfl
theorem a_Pl_addThing_59 : dk_at b_Pl_addThing 59 t_Pl_addThing_59 := dk_go 1 a_Pl_addThing_58 rfl
theorem a_Pl_addThing_60 : dk_at b_Pl_addThing 60 t_Pl_addThing_60 := dk_go 1 a_Pl_addThing_59 rfl
theorem a_Pl_addThing_61 : dk_at b_Pl_addThing 61 t_Pl_addThing_61 := dk_go 1 a_Pl_addThing_60 rfl
theorem a_Pl_addThing_62 : dk_at b_Pl_addThing 62 t_Pl_addThing_62 := dk_go 1 a_Pl_addThing_61 rfl
theorem a_Pl_addThing_65 : dk_at b_Pl_addThing 65 t_Pl_addThing_65 := dk_go 3 a_Pl_addThing_62 rfl
theorem a_Pl_addThing_68 : dk_at b_Pl_addThing 68 t_Pl_addThing_68 := dk_go 3 a_Pl_addThing_65 rfl
theorem a_Pl_addThing_69 : dk_at b_Pl_addThing 69 t_Pl_addThing_69 := dk_go 1 a_Pl_addThing_68 rfl
theorem a_Pl_addThing_70 : dk_at b_Pl_addThing 70 t_Pl_addThing_70 := dk_go 1 a_Pl_addThing_69 rfl
theorem a_Pl_addThing_73 : dk_at b_Pl_addThing 73 t_Pl_addThing_73 := dk_go 3 a_Pl_addThing_70 rfl
theorem a_Pl_addThing_74 : dk_at b_Pl_addThing 74 t_Pl_addThing_74 := dk_go 1 a_Pl_addThing_73 rfl
theorem a_Pl_addThing_75 : dk_at b_Pl_addThing 75 t_Pl_addThing_75 := dk_go 1 a_Pl_addThing_74 rfl
theorem a_Pl_addThing_78 : dk_at b_Pl_addThing 78 t_Pl_addThing_78 := dk_go 3 a_Pl_addThing_75 rfl
theorem a_Pl_addThing_79 : dk_at b_Pl_addThing 79 t_Pl_addThing_79 := dk_go 1 a_Pl_addThing_78 rfl
theorem d_Pl_addThing_0 : decode b_Pl_addThing 0 = .ok (.aload_n 0, 1) := dk_0 a_Pl_addThing_0 (dko_42 _)
theorem d_Pl_addThing_1 : decode b_Pl_addThing 1 = .ok (.getfield 37, 3) := dk_U2 a_Pl_addThing_1 (dko_180 _) rfl
theorem d_Pl_addThing_4 : decode b_Pl_addThing 4 = .ok (.bipush 20, 2) := dk_S1 a_Pl_addThing_4 (dko_16 _) (by decide +kernel)
theorem d_Pl_addThing_6 : decode b_Pl_addThing 6 = .ok (.if_icmp .lt 5, 3) := dk_S2 a_Pl_addThing_6 (dko_161 _) (by decide +kernel)
theorem d_Pl_addThing_9 : decode b_Pl_addThing 9 = .ok (.iconst 0, 1) := dk_0 a_Pl_addThing_9 (dko_3 _)
theorem d_Pl_addThing_10 : decode b_Pl_addThing 10 = .ok (.ireturn, 1) := dk_0 a_Pl_addThing_10 (dko_172 _)
theorem d_Pl_addThing_11 : decode b_Pl_addThing 11 = .ok (.aload_n 0, 1) := dk_0 a_Pl_addThing_11 (dko_42 _)
theorem d_Pl_addThing_12 : decode b_Pl_addThing 12 = .ok (.getfield 9, 3) := dk_U2 a_Pl_addThing_12 (dko_180 _) rfl
theorem d_Pl_addThing_15 : decode b_Pl_addThing 15 = .ok (.aload_n 0, 1) := dk_0 a_Pl_addThing_15 (dko_42 _)
theorem d_Pl_addThing_16 : decode b_Pl_addThing 16 = .ok (.getfield 37, 3) := dk_U2 a_Pl_addThing_16 (dko_180 _) rfl
theorem d_Pl_addThing_19 : decode b_Pl_addThing 19 = .ok (.iload_n 1, 1) := dk_0 a_Pl_addThing_19 (dko_27 _)
theorem d_Pl_addThing_20 : decode b_Pl_addThing 20 = .ok (.iastore, 1) := dk_0 a_Pl_addThing_20 (dko_79 _)
theorem d_Pl_addThing_21 : decode b_Pl_addThing 21 = .ok (.aload_n 0, 1) := dk_0 a_Pl_addThing_21 (dko_42 _)
theorem d_Pl_addThing_22 : decode b_Pl_addThing 22 = .ok (.getfield 15, 3) := dk_U2 a_Pl_addThing_22 (dko_180 _) rfl
theorem d_Pl_addThing_25 : decode b_Pl_addThing 25 = .ok (.aload_n 0, 1) := dk_0 a_Pl_addThing_25 (dko_42 _)
theorem d_Pl_addThing_26 : decode b_Pl_addThing 26 = .ok (.getfield 37, 3) := dk_U2 a_Pl_addThing_26 (dko_180 _) rfl
theorem d_Pl_addThing_29 : decode b_Pl_addThing 29 = .ok (.iload_n 2, 1) := dk_0 a_Pl_addThing_29 (dko_28 _)
theorem d_Pl_addThing_30 : decode b_Pl_addThing 30 = .ok (.iastore, 1) := dk_0 a_Pl_addThing_30 (dko_79 _)
theorem d_Pl_addThing_31 : decode b_Pl_addThing 31 = .ok (.aload_n 0, 1) := dk_0 a_Pl_addThing_31 (dko_42 _)
theorem d_Pl_addThing_32 : decode b_Pl_addThing 32 = .ok (.getfield 18, 3) := dk_U2 a_Pl_addThing_32 (dko_180 _) rfl
theorem d_Pl_addThing_35 : decode b_Pl_addThing 35 = .ok (.aload_n 0, 1) := dk_0 a_Pl_addThing_35 (dko_42 _)
theorem d_Pl_addThing_36 : decode b_Pl_addThing 36 = .ok (.getfield 37, 3) := dk_U2 a_Pl_addThing_36 (dko_180 _) rfl
theorem d_Pl_addThing_39 : decode b_Pl_addThing 39 = .ok (.iconst 0, 1) := dk_0 a_Pl_addThing_39 (dko_3 _)
theorem d_Pl_addThing_40 : decode b_Pl_addThing 40 = .ok (.iastore, 1) := dk_0 a_Pl_addThing_40 (dko_79 _)
theorem d_Pl_addThing_41 : decode b_Pl_addThing 41 = .ok (.iconst 0, 1) := dk_0 a_Pl_addThing_41 (dko_3 _)
theorem d_Pl_addThing_42 : decode b_Pl_addThing 42 = .ok (.istore_n 3, 1) := dk_0 a_Pl_addThing_42 (dko_62 _)
theorem d_Pl_addThing_43 : decode b_Pl_addThing 43 = .ok (.iload_n 3, 1) := dk_0 a_Pl_addThing_43 (dko_29 _)
theorem d_Pl_addThing_44 : decode b_Pl_addThing 44 = .ok (.iconst 4, 1) := dk_0 a_Pl_addThing_44 (dko_7 _)
theorem d_Pl_addThing_45 : decode b_Pl_addThing 45 = .ok (.if_icmp .ge 23, 3) := dk_S2 a_Pl_addThing_45 (dko_162 _) (by decide +kernel)
theorem d_Pl_addThing_48 : decode b_Pl_addThing 48 = .ok (.aload_n 0, 1) := dk_0 a_Pl_addThing_48 (dko_42 _)
theorem d_Pl_addThing_49 : decode b_Pl_addThing 49 = .ok (.getfield 30, 3) := dk_U2 a_Pl_addThing_49 (dko_180 _) rfl
theorem d_Pl_addThing_52 : decode b_Pl_addThing 52 = .ok (.aload_n 0, 1) := dk_0 a_Pl_addThing_52 (dko_42 _)
theorem d_Pl_addThing_53 : decode b_Pl_addThing 53 = .ok (.getfield 37, 3) := dk_U2 a_Pl_addThing_53 (dko_180 _) rfl
theorem d_Pl_addThing_56 : decode b_Pl_addThing 56 = .ok (.iconst 4, 1) := dk_0 a_Pl_addThing_56 (dko_7 _)
theorem d_Pl_addThing_57 : decode b_Pl_addThing 57 = .ok (.imul, 1) := dk_0 a_Pl_addThing_57 (dko_104 _)
theorem d_Pl_addThing_58 : decode b_Pl_addThing 58 = .ok (.iload_n 3, 1) := dk_0 a_Pl_addThing_58 (dko_29 _)
theorem d_Pl_addThing_59 : decode b_Pl_addThing 59 = .ok (.iadd, 1) := dk_0 a_Pl_addThing_59 (dko_96 _)
theorem d_Pl_addThing_60 : decode b_Pl_addThing 60 = .ok (.iconst (-1), 1) := dk_0 a_Pl_addThing_60 (dko_2 _)
theorem d_Pl_addThing_61 : decode b_Pl_addThing 61 = .ok (.iastore, 1) := dk_0 a_Pl_addThing_61 (dko_79 _)
theorem d_Pl_addThing_62 : decode b_Pl_addThing 62 = .ok (.iinc 3 1, 3) := dk_US a_Pl_addThing_62 (dko_132 _) (by decide +kernel)
theorem d_Pl_addThing_65 : decode b_Pl_addThing 65 = .ok (.goto (-22), 3) := dk_S2 a_Pl_addThing_65 (dko_167 _) (by decide +kernel)
theorem d_Pl_addThing_68 : decode b_Pl_addThing 68 = .ok (.aload_n 0, 1) := dk_0 a_Pl_addThing_68 (dko_42 _)
theorem d_Pl_addThing_69 : decode b_Pl_addThing 69 = .ok (.dup, 1) := dk_0 a_Pl_addThing_69 (dko_89 _)
theorem d_Pl_addThing_70 : decode b_Pl_addThing 70 = .ok (.getfield 37, 3) := dk_U2 a_Pl_addThing_70 (dko_180 _) rfl
theorem d_Pl_addThing_73 : decode b_Pl_addThing 73 = .ok (.iconst 1, 1) := dk_0 a_Pl_addThing_73 (dko_4 _)
theorem d_Pl_addThing_74 : decode b_Pl_addThing 74 = .ok (.iadd, 1) := dk_0 a_Pl_addThing_74 (dko_96 _)
theorem d_Pl_addThing_75 : decode b_Pl_addThing 75 = .ok (.putfield 37, 3) := dk_U2 a_Pl_addThing_75 (dko_181 _) rfl
theorem d_Pl_addThing_78 : decode b_Pl_addThing 78 = .ok (.iconst 1, 1) := dk_0 a_Pl_addThing_78 (dko_4 _)
theorem d_Pl_addThing_79 : decode b_Pl_addThing 79 = .ok (.ireturn, 1) := dk_0 a_Pl_addThing_79 (dko_172 _)
set_option maxHeartbeats 4000000 in
set_option maxRecDepth 100000 in
theorem ok_Pl_addThing (pc : Nat) : OpS mt mi_Pl_addThing pc (cs_Pl_addThing pc) := (os_n (os_n (os_n (os_n (os_n (os_l (so_aload_n d_Pl_addThing_0 rfl)) (os_n (os_l (so_get (C := R_Pl) (T := F_Pl) (N := 12) (j := 0) in_Pl rfl (by decide) mw_86 d_Pl_addThing_1)) (os_l (so_bipush d_Pl_addThing_4 (by decide))))) (os_n (os_l (so_iclt d_Pl_addThing_6 (by decide))) (os_n (os_l (so_iconst d_Pl_addThing_9 (by decide))) (os_l (so_zreturn rfl d_Pl_addThing_10))))) (os_n (os_n (os_l (so_aload_n d_Pl_addThing_11 rfl)) (os_n (os_l (so_get (C := R_Pl) (T := F_Pl) (N := 12) (j := 2) in_Pl rfl (by decide) mw_96 d_Pl_addThing_12)) (os_l (so_aload_n d_Pl_addThing_15 rfl)))) (os_n (os_l (so_get (C := R_Pl) (T := F_Pl) (N := 12) (j := 0) in_Pl rfl (by decide) mw_86 d_Pl_addThing_16)) (os_n (os_l (so_iload_n d_Pl_addThing_19 rfl)) (os_l (so_iastore d_Pl_addThing_20)))))) (os_n (os_n (os_n (os_l (so_aload_n d_Pl_addThing_21 rfl)) (os_n (os_l (so_get (C := R_Pl) (T := F_Pl) (N := 12) (j := 3) in_Pl rfl (by decide) mw_100 d_Pl_addThing_22)) (os_l (so_aload_n d_Pl_addThing_25 rfl)))) (os_n (os_l (so_get (C := R_Pl) (T := F_Pl) (N := 12) (j := 0) in_Pl rfl (by decide) mw_86 d_Pl_addThing_26)) (os_n (os_l (so_iload_n d_Pl_addThing_29 rfl)) (os_l (so_iastore d_Pl_addThing_30))))) (os_n (os_n (os_l (so_aload_n d_Pl_addThing_31 rfl)) (os_n (os_l (so_get (C := R_Pl) (T := F_Pl) (N := 12) (j := 4) in_Pl rfl (by decide) mw_103 d_Pl_addThing_32)) (os_l (so_aload_n d_Pl_addThing_35 rfl)))) (os_n (os_l (so_get (C := R_Pl) (T := F_Pl) (N := 12) (j := 0) in_Pl rfl (by decide) mw_86 d_Pl_addThing_36)) (os_n (os_l (so_iconst d_Pl_addThing_39 (by decide))) (os_l (so_iastore d_Pl_addThing_40))))))) (os_n (os_n (os_n (os_n (os_l (so_iconst d_Pl_addThing_41 (by decide))) (os_n (os_l (so_istore_n d_Pl_addThing_42 rfl (by decide))) (os_l (so_iload_n d_Pl_addThing_43 rfl)))) (os_n (os_l (so_iconst d_Pl_addThing_44 (by decide))) (os_n (os_l (so_icge d_Pl_addThing_45 (by decide))) (os_l (so_aload_n d_Pl_addThing_48 rfl))))) (os_n (os_n (os_l (so_get (C := R_Pl) (T := F_Pl) (N := 12) (j := 8) in_Pl rfl (by decide) mw_114 d_Pl_addThing_49)) (os_n (os_l (so_aload_n d_Pl_addThing_52 rfl)) (os_l (so_get (C := R_Pl) (T := F_Pl) (N := 12) (j := 0) in_Pl rfl (by decide) mw_86 d_Pl_addThing_53)))) (os_n (os_l (so_iconst d_Pl_addThing_56 (by decide))) (os_n (os_l (so_imul d_Pl_addThing_57)) (os_l (so_iload_n d_Pl_addThing_58 rfl)))))) (os_n (os_n (os_n (os_l (so_iadd d_Pl_addThing_59)) (os_n (os_l (so_iconst d_Pl_addThing_60 (by decide))) (os_l (so_iastore d_Pl_addThing_61)))) (os_n (os_l (so_iinc d_Pl_addThing_62 (by decide) (by decide))) (os_n (os_l (so_goto d_Pl_addThing_65 (by decide))) (os_l (so_aload_n d_Pl_addThing_68 rfl))))) (os_n (os_n (os_l (so_dup d_Pl_addThing_69)) (os_n (os_l (so_get (C := R_Pl) (T := F_Pl) (N := 12) (j := 0) in_Pl rfl (by decide) mw_86 d_Pl_addThing_70)) (os_l (so_iconst d_Pl_addThing_73 (by decide))))) (os_n (os_n (os_l (so_iadd d_Pl_addThing_74)) (os_l (so_putI (C := R_Pl) (T := F_Pl) (N := 12) (j := 0) in_Pl t_Pl_ok n_Pl rfl (by decide) mw_86 rfl (by decide +kernel) d_Pl_addThing_75))) (os_n (os_l (so_iconst d_Pl_addThing_78 (by decide))) (os_l (so_zreturn rfl d_Pl_addThing_79))))))))
abbrev t_Pl_addPipe_76 : List UInt8 := 172 :: []
abbrev t_Pl_addPipe_75 : List UInt8 := 4 :: t_Pl_addPipe_76
abbrev t_Pl_addPipe_72 : List UInt8 := 181 :: 0 :: 41 :: t_Pl_addPipe_75
abbrev t_Pl_addPipe_71 : List UInt8 := 96 :: t_Pl_addPipe_72
abbrev t_Pl_addPipe_70 : List UInt8 := 4 :: t_Pl_addPipe_71
abbrev t_Pl_addPipe_67 : List UInt8 := 180 :: 0 :: 41 :: t_Pl_addPipe_70
abbrev t_Pl_addPipe_66 : List UInt8 := 89 :: t_Pl_addPipe_67
abbrev t_Pl_addPipe_65 : List UInt8 := 42 :: t_Pl_addPipe_66
abbrev t_Pl_addPipe_64 : List UInt8 := 172 :: t_Pl_addPipe_65
abbrev t_Pl_addPipe_63 : List UInt8 := 3 :: t_Pl_addPipe_64
abbrev t_Pl_addPipe_60 : List UInt8 := 154 :: 0 :: 5 :: t_Pl_addPipe_63
abbrev t_Pl_addPipe_57 : List UInt8 := 182 :: 0 :: 111 :: t_Pl_addPipe_60
abbrev t_Pl_addPipe_56 : List UInt8 := 28 :: t_Pl_addPipe_57
abbrev t_Pl_addPipe_55 : List UInt8 := 96 :: t_Pl_addPipe_56
abbrev t_Pl_addPipe_54 : List UInt8 := 4 :: t_Pl_addPipe_55
abbrev t_Pl_addPipe_53 : List UInt8 := 104 :: t_Pl_addPipe_54
abbrev t_Pl_addPipe_50 : List UInt8 := 180 :: 0 :: 41 :: t_Pl_addPipe_53
abbrev t_Pl_addPipe_49 : List UInt8 := 42 :: t_Pl_addPipe_50
abbrev t_Pl_addPipe_48 : List UInt8 := 5 :: t_Pl_addPipe_49
abbrev t_Pl_addPipe_47 : List UInt8 := 42 :: t_Pl_addPipe_48
abbrev t_Pl_addPipe_44 : List UInt8 := 153 :: 0 :: 19 :: t_Pl_addPipe_47
abbrev t_Pl_addPipe_41 : List UInt8 := 182 :: 0 :: 111 :: t_Pl_addPipe_44
abbrev t_Pl_addPipe_40 : List UInt8 := 27 :: t_Pl_addPipe_41
abbrev t_Pl_addPipe_39 : List UInt8 := 104 :: t_Pl_addPipe_40
abbrev t_Pl_addPipe_36 : List UInt8 := 180 :: 0 :: 41 :: t_Pl_addPipe_39
abbrev t_Pl_addPipe_35 : List UInt8 := 42 :: t_Pl_addPipe_36
abbrev t_Pl_addPipe_34 : List UInt8 := 5 :: t_Pl_addPipe_35
abbrev t_Pl_addPipe_33 : List UInt8 := 42 :: t_Pl_addPipe_34
abbrev t_Pl_addPipe_32 : List UInt8 := 79 :: t_Pl_addPipe_33
abbrev t_Pl_addPipe_31 : List UInt8 := 29 :: t_Pl_addPipe_32
abbrev t_Pl_addPipe_28 : List UInt8 := 180 :: 0 :: 41 :: t_Pl_addPipe_31
abbrev t_Pl_addPipe_27 : List UInt8 := 42 :: t_Pl_addPipe_28
abbrev t_Pl_addPipe_24 : List UInt8 := 180 :: 0 :: 21 :: t_Pl_addPipe_27
abbrev t_Pl_addPipe_23 : List UInt8 := 42 :: t_Pl_addPipe_24
abbrev t_Pl_addPipe_22 : List UInt8 := 172 :: t_Pl_addPipe_23
abbrev t_Pl_addPipe_21 : List UInt8 := 3 :: t_Pl_addPipe_22
abbrev t_Pl_addPipe_18 : List UInt8 := 164 :: 0 :: 5 :: t_Pl_addPipe_21
abbrev t_Pl_addPipe_15 : List UInt8 := 17 :: 0 :: 200 :: t_Pl_addPipe_18
abbrev t_Pl_addPipe_14 : List UInt8 := 29 :: t_Pl_addPipe_15
abbrev t_Pl_addPipe_11 : List UInt8 := 161 :: 0 :: 10 :: t_Pl_addPipe_14
abbrev t_Pl_addPipe_10 : List UInt8 := 4 :: t_Pl_addPipe_11
abbrev t_Pl_addPipe_9 : List UInt8 := 29 :: t_Pl_addPipe_10
abbrev t_Pl_addPipe_6 : List UInt8 := 162 :: 0 :: 15 :: t_Pl_addPipe_9
abbrev t_Pl_addPipe_4 : List UInt8 := 16 :: 24 :: t_Pl_addPipe_6
abbrev t_Pl_addPipe_1 : List UInt8 := 180 :: 0 :: 41 :: t_Pl_addPipe_4
abbrev t_Pl_addPipe_0 : List UInt8 := 42 :: t_Pl_addPipe_1
theorem a_Pl_addPipe_0 : dk_at b_Pl_addPipe 0 t_Pl_addPipe_0 := dk_start (by decide +kernel)
theorem a_Pl_addPipe_1 : dk_at b_Pl_addPipe 1 t_Pl_addPipe_1 := dk_go 1 a_Pl_addPipe_0 rfl
theorem a_Pl_addPipe_4 : dk_at b_Pl_addPipe 4 t_Pl_addPipe_4 := dk_go 3 a_Pl_addPipe_1 rfl
theorem a_Pl_addPipe_6 : dk_at b_Pl_addPipe 6 t_Pl_addPipe_6 := dk_go 2 a_Pl_addPipe_4 rfl
theorem a_Pl_addPipe_9 : dk_at b_Pl_addPipe 9 t_Pl_addPipe_9 := dk_go 3 a_Pl_addPipe_6 rfl
theorem a_Pl_addPipe_10 : dk_at b_Pl_addPipe 10 t_Pl_addPipe_10 := dk_go 1 a_Pl_addPipe_9 rfl
theorem a_Pl_addPipe_11 : dk_at b_Pl_addPipe 11 t_Pl_addPipe_11 := dk_go 1 a_Pl_addPipe_10 rfl
theorem a_Pl_addPipe_14 : dk_at b_Pl_addPipe 14 t_Pl_addPipe_14 := dk_go 3 a_Pl_addPipe_11 rfl
theorem a_Pl_addPipe_15 : dk_at b_Pl_addPipe 15 t_Pl_addPipe_15 := dk_go 1 a_Pl_addPipe_14 rfl
theorem a_Pl_addPipe_18 : dk_at b_Pl_addPipe 18 t_Pl_addPipe_18 := dk_go 3 a_Pl_addPipe_15 rfl
theorem a_Pl_addPipe_21 : dk_at b_Pl_addPipe 21 t_Pl_addPipe_21 := dk_go 3 a_Pl_addPipe_18 rfl
theorem a_Pl_addPipe_22 : dk_at b_Pl_addPipe 22 t_Pl_addPipe_22 := dk_go 1 a_Pl_addPipe_21 rfl
theorem a_Pl_addPipe_23 : dk_at b_Pl_addPipe 23 t_Pl_addPipe_23 := dk_go 1 a_Pl_addPipe_22 rfl
theorem a_Pl_addPipe_24 : dk_at b_Pl_addPipe 24 t_Pl_addPipe_24 := dk_go 1 a_Pl_addPipe_23 rfl
theorem a_Pl_addPipe_27 : dk_at b_Pl_addPipe 27 t_Pl_addPipe_27 := dk_go 3 a_Pl_addPipe_24 rfl
theorem a_Pl_addPipe_28 : dk_at b_Pl_addPipe 28 t_Pl_addPipe_28 := dk_go 1 a_Pl_addPipe_27 rfl
theorem a_Pl_addPipe_31 : dk_at b_Pl_addPipe 31 t_Pl_addPipe_31 := dk_go 3 a_Pl_addPipe_28 rfl
theorem a_Pl_addPipe_32 : dk_at b_Pl_addPipe 32 t_Pl_addPipe_32 := dk_go 1 a_Pl_addPipe_31 rfl
theorem a_Pl_addPipe_33 : dk_at b_Pl_addPipe 33 t_Pl_addPipe_33 := dk_go 1 a_Pl_addPipe_32 rfl
theorem a_Pl_addPipe_34 : dk_at b_Pl_addPipe 34 t_Pl_addPipe_34 := dk_go 1 a_Pl_addPipe_33 rfl
theorem a_Pl_addPipe_35 : dk_at b_Pl_addPipe 35 t_Pl_addPipe_35 := dk_go 1 a_Pl_addPipe_34 rfl
theorem a_Pl_addPipe_36 : dk_at b_Pl_addPipe 36 t_Pl_addPipe_36 := dk_go 1 a_Pl_addPipe_35 rfl
theorem a_Pl_addPipe_39 : dk_at b_Pl_addPipe 39 t_Pl_addPipe_39 := dk_go 3 a_Pl_addPipe_36 rfl
theorem a_Pl_addPipe_40 : dk_at b_Pl_addPipe 40 t_Pl_addPipe_40 := dk_go 1 a_Pl_addPipe_39 rfl
theorem a_Pl_addPipe_41 : dk_at b_Pl_addPipe 41 t_Pl_addPipe_41 := dk_go 1 a_Pl_addPipe_40 rfl
theorem a_Pl_addPipe_44 : dk_at b_Pl_addPipe 44 t_Pl_addPipe_44 := dk_go 3 a_Pl_addPipe_41 rfl
theorem a_Pl_addPipe_47 : dk_at b_Pl_addPipe 47 t_Pl_addPipe_47 := dk_go 3 a_Pl_addPipe_44 rfl
theorem a_Pl_addPipe_48 : dk_at b_Pl_addPipe 48 t_Pl_addPipe_48 := dk_go 1 a_Pl_addPipe_47 rfl
theorem a_Pl_addPipe_49 : dk_at b_Pl_addPipe 49 t_Pl_addPipe_49 := dk_go 1 a_Pl_addPipe_48 rfl
theorem a_Pl_addPipe_50 : dk_at b_Pl_addPipe 50 t_Pl_addPipe_50 := dk_go 1 a_Pl_addPipe_49 rfl
theorem a_Pl_addPipe_53 : dk_at b_Pl_addPipe 53 t_Pl_addPipe_53 := dk_go 3 a_Pl_addPipe_50 rfl
theorem a_Pl_addPipe_54 : dk_at b_Pl_addPipe 54 t_Pl_addPipe_54 := dk_go 1 a_Pl_addPipe_53 rfl
theorem a_Pl_addPipe_55 : dk_at b_Pl_addPipe 55 t_Pl_addPipe_55 := dk_go 1 a_Pl_addPipe_54 rfl
theorem a_Pl_addPipe_56 : dk_at b_Pl_addPipe 56 t_Pl_addPipe_56 := dk_go 1 a_Pl_addPipe_55 rfl
theorem a_Pl_addPipe_57 : dk_at b_Pl_addPipe 57 t_Pl_addPipe_57 := dk_go 1 a_Pl_addPipe_56 rfl
theorem a_Pl_addPipe_60 : dk_at b_Pl_addPipe 60 t_Pl_addPipe_60 := dk_go 3 a_Pl_addPipe_57 rfl
theorem a_Pl_addPipe_63 : dk_at b_Pl_addPipe 63 t_Pl_addPipe_63 := dk_go 3 a_Pl_addPipe_60 rfl
theorem a_Pl_addPipe_64 : dk_at b_Pl_addPipe 64 t_Pl_addPipe_64 := dk_go 1 a_Pl_addPipe_63 rfl
theorem a_Pl_addPipe_65 : dk_at b_Pl_addPipe 65 t_Pl_addPipe_65 := dk_go 1 a_Pl_addPipe_64 rfl
theorem a_Pl_addPipe_66 : dk_at b_Pl_addPipe 66 t_Pl_addPipe_66 := dk_go 1 a_Pl_addPipe_65 rfl
theorem a_Pl_addPipe_67 : dk_at b_Pl_addPipe 67 t_Pl_addPipe_67 := dk_go 1 a_Pl_addPipe_66 rfl
theorem a_Pl_addPipe_70 : dk_at b_Pl_addPipe 70 t_Pl_addPipe_70 := dk_go 3 a_Pl_addPipe_67 rfl
theorem a_Pl_addPipe_71 : dk_at b_Pl_addPipe 71 t_Pl_addPipe_71 := dk_go 1 a_Pl_addPipe_70 rfl
theorem a_Pl_addPipe_72 : dk_at b_Pl_addPipe 72 t_Pl_addPipe_72 := dk_go 1 a_Pl_addPipe_71 rfl
theorem a_Pl_addPipe_75 : dk_at b_Pl_addPipe 75 t_Pl_addPipe_75 := dk_go 3 a_Pl_addPipe_72 rfl
theorem a_Pl_addPipe_76 : dk_at b_Pl_addPipe 76 t_Pl_addPipe_76 := dk_go 1 a_Pl_addPipe_75 rfl
theorem d_Pl_addPipe_0 : decode b_Pl_addPipe 0 = .ok (.aload_n 0, 1) := dk_0 a_Pl_addPipe_0 (dko_42 _)
theorem d_Pl_addPipe_1 : decode b_Pl_addPipe 1 = .ok (.getfield 41, 3) := dk_U2 a_Pl_addPipe_1 (dko_180 _) rfl
theorem d_Pl_addPipe_4 : decode b_Pl_addPipe 4 = .ok (.bipush 24, 2) := dk_S1 a_Pl_addPipe_4 (dko_16 _) (by decide +kernel)
theorem d_Pl_addPipe_6 : decode b_Pl_addPipe 6 = .ok (.if_icmp .ge 15, 3) := dk_S2 a_Pl_addPipe_6 (dko_162 _) (by decide +kernel)
theorem d_Pl_addPipe_9 : decode b_Pl_addPipe 9 = .ok (.iload_n 3, 1) := dk_0 a_Pl_addPipe_9 (dko_29 _)
theorem d_Pl_addPipe_10 : decode b_Pl_addPipe 10 = .ok (.iconst 1, 1) := dk_0 a_Pl_addPipe_10 (dko_4 _)
theorem d_Pl_addPipe_11 : decode b_Pl_addPipe 11 = .ok (.if_icmp .lt 10, 3) := dk_S2 a_Pl_addPipe_11 (dko_161 _) (by decide +kernel)
theorem d_Pl_addPipe_14 : decode b_Pl_addPipe 14 = .ok (.iload_n 3, 1) := dk_0 a_Pl_addPipe_14 (dko_29 _)
theorem d_Pl_addPipe_15 : decode b_Pl_addPipe 15 = .ok (.sipush 200, 3) := dk_S2 a_Pl_addPipe_15 (dko_17 _) (by decide +kernel)
theorem d_Pl_addPipe_18 : decode b_Pl_addPipe 18 = .ok (.if_icmp .le 5, 3) := dk_S2 a_Pl_addPipe_18 (dko_164 _) (by decide +kernel)
theorem d_Pl_addPipe_21 : decode b_Pl_addPipe 21 = .ok (.iconst 0, 1) := dk_0 a_Pl_addPipe_21 (dko_3 _)
theorem d_Pl_addPipe_22 : decode b_Pl_addPipe 22 = .ok (.ireturn, 1) := dk_0 a_Pl_addPipe_22 (dko_172 _)
theorem d_Pl_addPipe_23 : decode b_Pl_addPipe 23 = .ok (.aload_n 0, 1) := dk_0 a_Pl_addPipe_23 (dko_42 _)
theorem d_Pl_addPipe_24 : decode b_Pl_addPipe 24 = .ok (.getfield 21, 3) := dk_U2 a_Pl_addPipe_24 (dko_180 _) rfl
theorem d_Pl_addPipe_27 : decode b_Pl_addPipe 27 = .ok (.aload_n 0, 1) := dk_0 a_Pl_addPipe_27 (dko_42 _)
theorem d_Pl_addPipe_28 : decode b_Pl_addPipe 28 = .ok (.getfield 41, 3) := dk_U2 a_Pl_addPipe_28 (dko_180 _) rfl
theorem d_Pl_addPipe_31 : decode b_Pl_addPipe 31 = .ok (.iload_n 3, 1) := dk_0 a_Pl_addPipe_31 (dko_29 _)
theorem d_Pl_addPipe_32 : decode b_Pl_addPipe 32 = .ok (.iastore, 1) := dk_0 a_Pl_addPipe_32 (dko_79 _)
theorem d_Pl_addPipe_33 : decode b_Pl_addPipe 33 = .ok (.aload_n 0, 1) := dk_0 a_Pl_addPipe_33 (dko_42 _)
theorem d_Pl_addPipe_34 : decode b_Pl_addPipe 34 = .ok (.iconst 2, 1) := dk_0 a_Pl_addPipe_34 (dko_5 _)
theorem d_Pl_addPipe_35 : decode b_Pl_addPipe 35 = .ok (.aload_n 0, 1) := dk_0 a_Pl_addPipe_35 (dko_42 _)
theorem d_Pl_addPipe_36 : decode b_Pl_addPipe 36 = .ok (.getfield 41, 3) := dk_U2 a_Pl_addPipe_36 (dko_180 _) rfl
theorem d_Pl_addPipe_39 : decode b_Pl_addPipe 39 = .ok (.imul, 1) := dk_0 a_Pl_addPipe_39 (dko_104 _)
theorem d_Pl_addPipe_40 : decode b_Pl_addPipe 40 = .ok (.iload_n 1, 1) := dk_0 a_Pl_addPipe_40 (dko_27 _)
theorem d_Pl_addPipe_41 : decode b_Pl_addPipe 41 = .ok (.invokevirtual 111, 3) := dk_U2 a_Pl_addPipe_41 (dko_182 _) rfl
theorem d_Pl_addPipe_44 : decode b_Pl_addPipe 44 = .ok (.ifCond .eq 19, 3) := dk_S2 a_Pl_addPipe_44 (dko_153 _) (by decide +kernel)
theorem d_Pl_addPipe_47 : decode b_Pl_addPipe 47 = .ok (.aload_n 0, 1) := dk_0 a_Pl_addPipe_47 (dko_42 _)
theorem d_Pl_addPipe_48 : decode b_Pl_addPipe 48 = .ok (.iconst 2, 1) := dk_0 a_Pl_addPipe_48 (dko_5 _)
theorem d_Pl_addPipe_49 : decode b_Pl_addPipe 49 = .ok (.aload_n 0, 1) := dk_0 a_Pl_addPipe_49 (dko_42 _)
theorem d_Pl_addPipe_50 : decode b_Pl_addPipe 50 = .ok (.getfield 41, 3) := dk_U2 a_Pl_addPipe_50 (dko_180 _) rfl
theorem d_Pl_addPipe_53 : decode b_Pl_addPipe 53 = .ok (.imul, 1) := dk_0 a_Pl_addPipe_53 (dko_104 _)
theorem d_Pl_addPipe_54 : decode b_Pl_addPipe 54 = .ok (.iconst 1, 1) := dk_0 a_Pl_addPipe_54 (dko_4 _)
theorem d_Pl_addPipe_55 : decode b_Pl_addPipe 55 = .ok (.iadd, 1) := dk_0 a_Pl_addPipe_55 (dko_96 _)
theorem d_Pl_addPipe_56 : decode b_Pl_addPipe 56 = .ok (.iload_n 2, 1) := dk_0 a_Pl_addPipe_56 (dko_28 _)
theorem d_Pl_addPipe_57 : decode b_Pl_addPipe 57 = .ok (.invokevirtual 111, 3) := dk_U2 a_Pl_addPipe_57 (dko_182 _) rfl
theorem d_Pl_addPipe_60 : decode b_Pl_addPipe 60 = .ok (.ifCond .ne 5, 3) := dk_S2 a_Pl_addPipe_60 (dko_154 _) (by decide +kernel)
theorem d_Pl_addPipe_63 : decode b_Pl_addPipe 63 = .ok (.iconst 0, 1) := dk_0 a_Pl_addPipe_63 (dko_3 _)
theorem d_Pl_addPipe_64 : decode b_Pl_addPipe 64 = .ok (.ireturn, 1) := dk_0 a_Pl_addPipe_64 (dko_172 _)
theorem d_Pl_addPipe_65 : decode b_Pl_addPipe 65 = .ok (.aload_n 0, 1) := dk_0 a_Pl_addPipe_65 (dko_42 _)
theorem d_Pl_addPipe_66 : decode b_Pl_addPipe 66 = .ok (.dup, 1) := dk_0 a_Pl_addPipe_66 (dko_89 _)
theorem d_Pl_addPipe_67 : decode b_Pl_addPipe 67 = .ok (.getfield 41, 3) := dk_U2 a_Pl_addPipe_67 (dko_180 _) rfl
theorem d_Pl_addPipe_70 : decode b_Pl_addPipe 70 = .ok (.iconst 1, 1) := dk_0 a_Pl_addPipe_70 (dko_4 _)
theorem d_Pl_addPipe_71 : decode b_Pl_addPipe 71 = .ok (.iadd, 1) := dk_0 a_Pl_addPipe_71 (dko_96 _)
theorem d_Pl_addPipe_72 : decode b_Pl_addPipe 72 = .ok (.putfield 41, 3) := dk_U2 a_Pl_addPipe_72 (dko_181 _) rfl
theorem d_Pl_addPipe_75 : decode b_Pl_addPipe 75 = .ok (.iconst 1, 1) := dk_0 a_Pl_addPipe_75 (dko_4 _)
theorem d_Pl_addPipe_76 : decode b_Pl_addPipe 76 = .ok (.ireturn, 1) := dk_0 a_Pl_addPipe_76 (dko_172 _)
set_option maxHeartbeats 4000000 in
set_option maxRecDepth 100000 in
theorem ok_Pl_addPipe (pc : Nat) : OpS mt mi_Pl_addPipe pc (cs_Pl_addPipe pc) := (os_n (os_n (os_n (os_n (os_n (os_l (so_aload_n d_Pl_addPipe_0 rfl)) (os_l (so_get (C := R_Pl) (T := F_Pl) (N := 12) (j := 1) in_Pl rfl (by decide) mw_92 d_Pl_addPipe_1))) (os_n (os_l (so_bipush d_Pl_addPipe_4 (by decide))) (os_n (os_l (so_icge d_Pl_addPipe_6 (by decide))) (os_l (so_iload_n d_Pl_addPipe_9 rfl))))) (os_n (os_n (os_l (so_iconst d_Pl_addPipe_10 (by decide))) (os_n (os_l (so_iclt d_Pl_addPipe_11 (by decide))) (os_l (so_iload_n d_Pl_addPipe_14 rfl)))) (os_n (os_l (so_sipush d_Pl_addPipe_15 (by decide))) (os_n (os_l (so_icle d_Pl_addPipe_18 (by decide))) (os_l (so_iconst d_Pl_addPipe_21 (by decide))))))) (os_n (os_n (os_n (os_l (so_zreturn rfl d_Pl_addPipe_22)) (os_n (os_l (so_aload_n d_Pl_addPipe_23 rfl)) (os_l (so_get (C := R_Pl) (T := F_Pl) (N := 12) (j := 5) in_Pl rfl (by decide) mw_105 d_Pl_addPipe_24)))) (os_n (os_l (so_aload_n d_Pl_addPipe_27 rfl)) (os_n (os_l (so_get (C := R_Pl) (T := F_Pl) (N := 12) (j := 1) in_Pl rfl (by decide) mw_92 d_Pl_addPipe_28)) (os_l (so_iload_n d_Pl_addPipe_31 rfl))))) (os_n (os_n (os_l (so_iastore d_Pl_addPipe_32)) (os_n (os_l (so_aload_n d_Pl_addPipe_33 rfl)) (os_l (so_iconst d_Pl_addPipe_34 (by decide))))) (os_n (os_l (so_aload_n d_Pl_addPipe_35 rfl)) (os_n (os_l (so_get (C := R_Pl) (T := F_Pl) (N := 12) (j := 1) in_Pl rfl (by decide) mw_92 d_Pl_addPipe_36)) (os_l (so_imul d_Pl_addPipe_39))))))) (os_n (os_n (os_n (os_n (os_l (so_iload_n d_Pl_addPipe_40 rfl)) (os_l (so_callV (iv := mi_Pl_joins) rfl rfl rfl mw_805 mw_807 sl_8 mw_5 mw_808 ⟨by decide +kernel, by decide +kernel, by decide +kernel⟩ (by decide) d_Pl_addPipe_41))) (os_n (os_l (so_ifeq d_Pl_addPipe_44 (by decide))) (os_n (os_l (so_aload_n d_Pl_addPipe_47 rfl)) (os_l (so_iconst d_Pl_addPipe_48 (by decide)))))) (os_n (os_n (os_l (so_aload_n d_Pl_addPipe_49 rfl)) (os_n (os_l (so_get (C := R_Pl) (T := F_Pl) (N := 12) (j := 1) in_Pl rfl (by decide) mw_92 d_Pl_addPipe_50)) (os_l (so_imul d_Pl_addPipe_53)))) (os_n (os_l (so_iconst d_Pl_addPipe_54 (by decide))) (os_n (os_l (so_iadd d_Pl_addPipe_55)) (os_l (so_iload_n d_Pl_addPipe_56 rfl)))))) (os_n (os_n (os_n (os_l (so_callV (iv := mi_Pl_joins) rfl rfl rfl mw_805 mw_807 sl_8 mw_5 mw_808 ⟨by decide +kernel, by decide +kernel, by decide +kernel⟩ (by decide) d_Pl_addPipe_57)) (os_n (os_l (so_ifne d_Pl_addPipe_60 (by decide))) (os_l (so_iconst d_Pl_addPipe_63 (by decide))))) (os_n (os_l (so_zreturn rfl d_Pl_addPipe_64)) (os_n (os_l (so_aload_n d_Pl_addPipe_65 rfl)) (os_l (so_dup d_Pl_addPipe_66))))) (os_n (os_n (os_l (so_get (C := R_Pl) (T := F_Pl) (N := 12) (j := 1) in_Pl rfl (by decide) mw_92 d_Pl_addPipe_67)) (os_n (os_l (so_iconst d_Pl_addPipe_70 (by decide))) (os_l (so_iadd d_Pl_addPipe_71)))) (os_n (os_l (so_putI (C := R_Pl) (T := F_Pl) (N := 12) (j := 1) in_Pl t_Pl_ok n_Pl rfl (by decide) mw_92 rfl (by decide +kernel) d_Pl_addPipe_72)) (os_n (os_l (so_iconst d_Pl_addPipe_75 (by decide))) (os_l (so_zreturn rfl d_Pl_addPipe_76))))))))
abbrev t_Pl_joins_100 : List UInt8 := 172 :: []
abbrev t_Pl_joins_99 : List UInt8 := 4 :: t_Pl_joins_100
abbrev t_Pl_joins_98 : List UInt8 := 79 :: t_Pl_joins_99
abbrev t_Pl_joins_97 : List UInt8 := 96 :: t_Pl_joins_98
abbrev t_Pl_joins_96 : List UInt8 := 4 :: t_Pl_joins_97
abbrev t_Pl_joins_95 : List UInt8 := 46 :: t_Pl_joins_96
abbrev t_Pl_joins_94 : List UInt8 := 92 :: t_Pl_joins_95
abbrev t_Pl_joins_93 : List UInt8 := 28 :: t_Pl_joins_94
abbrev t_Pl_joins_90 : List UInt8 := 180 :: 0 :: 18 :: t_Pl_joins_93
abbrev t_Pl_joins_89 : List UInt8 := 42 :: t_Pl_joins_90
abbrev t_Pl_joins_88 : List UInt8 := 79 :: t_Pl_joins_89
abbrev t_Pl_joins_87 : List UInt8 := 27 :: t_Pl_joins_88
abbrev t_Pl_joins_86 : List UInt8 := 96 :: t_Pl_joins_87
abbrev t_Pl_joins_85 : List UInt8 := 46 :: t_Pl_joins_86
abbrev t_Pl_joins_84 : List UInt8 := 28 :: t_Pl_joins_85
abbrev t_Pl_joins_81 : List UInt8 := 180 :: 0 :: 18 :: t_Pl_joins_84
abbrev t_Pl_joins_80 : List UInt8 := 42 :: t_Pl_joins_81
abbrev t_Pl_joins_79 : List UInt8 := 104 :: t_Pl_joins_80
abbrev t_Pl_joins_78 : List UInt8 := 7 :: t_Pl_joins_79
abbrev t_Pl_joins_77 : List UInt8 := 28 :: t_Pl_joins_78
abbrev t_Pl_joins_74 : List UInt8 := 180 :: 0 :: 30 :: t_Pl_joins_77
abbrev t_Pl_joins_73 : List UInt8 := 42 :: t_Pl_joins_74
abbrev t_Pl_joins_72 : List UInt8 := 79 :: t_Pl_joins_73
abbrev t_Pl_joins_71 : List UInt8 := 46 :: t_Pl_joins_72
abbrev t_Pl_joins_70 : List UInt8 := 28 :: t_Pl_joins_71
abbrev t_Pl_joins_67 : List UInt8 := 180 :: 0 :: 18 :: t_Pl_joins_70
abbrev t_Pl_joins_66 : List UInt8 := 42 :: t_Pl_joins_67
abbrev t_Pl_joins_65 : List UInt8 := 27 :: t_Pl_joins_66
abbrev t_Pl_joins_62 : List UInt8 := 180 :: 0 :: 27 :: t_Pl_joins_65
abbrev t_Pl_joins_61 : List UInt8 := 42 :: t_Pl_joins_62
abbrev t_Pl_joins_58 : List UInt8 := 159 :: 0 :: 31 :: t_Pl_joins_61
abbrev t_Pl_joins_56 : List UInt8 := 16 :: 9 :: t_Pl_joins_58
abbrev t_Pl_joins_55 : List UInt8 := 46 :: t_Pl_joins_56
abbrev t_Pl_joins_54 : List UInt8 := 28 :: t_Pl_joins_55
abbrev t_Pl_joins_51 : List UInt8 := 180 :: 0 :: 9 :: t_Pl_joins_54
abbrev t_Pl_joins_50 : List UInt8 := 42 :: t_Pl_joins_51
abbrev t_Pl_joins_49 : List UInt8 := 172 :: t_Pl_joins_50
abbrev t_Pl_joins_48 : List UInt8 := 3 :: t_Pl_joins_49
abbrev t_Pl_joins_45 : List UInt8 := 161 :: 0 :: 5 :: t_Pl_joins_48
abbrev t_Pl_joins_44 : List UInt8 := 46 :: t_Pl_joins_45
abbrev t_Pl_joins_43 : List UInt8 := 46 :: t_Pl_joins_44
abbrev t_Pl_joins_42 : List UInt8 := 28 :: t_Pl_joins_43
abbrev t_Pl_joins_39 : List UInt8 := 180 :: 0 :: 9 :: t_Pl_joins_42
abbrev t_Pl_joins_38 : List UInt8 := 42 :: t_Pl_joins_39
abbrev t_Pl_joins_35 : List UInt8 := 178 :: 0 :: 114 :: t_Pl_joins_38
abbrev t_Pl_joins_34 : List UInt8 := 46 :: t_Pl_joins_35
abbrev t_Pl_joins_33 : List UInt8 := 28 :: t_Pl_joins_34
abbrev t_Pl_joins_30 : List UInt8 := 180 :: 0 :: 18 :: t_Pl_joins_33
abbrev t_Pl_joins_29 : List UInt8 := 42 :: t_Pl_joins_30
abbrev t_Pl_joins_26 : List UInt8 := 162 :: 0 :: 22 :: t_Pl_joins_29
abbrev t_Pl_joins_23 : List UInt8 := 180 :: 0 :: 37 :: t_Pl_joins_26
abbrev t_Pl_joins_22 : List UInt8 := 42 :: t_Pl_joins_23
abbrev t_Pl_joins_21 : List UInt8 := 28 :: t_Pl_joins_22
abbrev t_Pl_joins_20 : List UInt8 := 172 :: t_Pl_joins_21
abbrev t_Pl_joins_19 : List UInt8 := 4 :: t_Pl_joins_20
abbrev t_Pl_joins_16 : List UInt8 := 160 :: 0 :: 5 :: t_Pl_joins_19
abbrev t_Pl_joins_15 : List UInt8 := 2 :: t_Pl_joins_16
abbrev t_Pl_joins_14 : List UInt8 := 28 :: t_Pl_joins_15
abbrev t_Pl_joins_13 : List UInt8 := 79 :: t_Pl_joins_14
abbrev t_Pl_joins_12 : List UInt8 := 3 :: t_Pl_joins_13
abbrev t_Pl_joins_11 : List UInt8 := 27 :: t_Pl_joins_12
abbrev t_Pl_joins_8 : List UInt8 := 180 :: 0 :: 27 :: t_Pl_joins_11
abbrev t_Pl_joins_7 : List UInt8 := 42 :: t_Pl_joins_8
abbrev t_Pl_joins_6 : List UInt8 := 79 :: t_Pl_joins_7
abbrev t_Pl_joins_5 : List UInt8 := 28 :: t_Pl_joins_6
abbrev t_Pl_joins_4 : List UInt8 := 27 :: t_Pl_joins_5
abbrev t_Pl_joins_1 : List UInt8 := 180 :: 0 :: 24 :: t_Pl_joins_4
abbrev t_Pl_joins_0 : List UInt8 := 42 :: t_Pl_joins_1
theorem a_Pl_joins_0 : dk_at b_Pl_joins 0 t_Pl_joins_0 := dk_start (by decide +kernel)
theorem a_Pl_joins_1 : dk_at b_Pl_joins 1 t_Pl_joins_1 := dk_go 1 a_Pl_joins_0 rfl
theorem a_Pl_joins_4 : dk_at b_Pl_joins 4 t_Pl_joins_4 := dk_go 3 a_Pl_joins_1 rfl
theorem a_Pl_joins_5 : dk_at b_Pl_joins 5 t_Pl_joins_5 := dk_go 1 a_Pl_joins_4 rfl
theorem a_Pl_joins_6 : dk_at b_Pl_joins 6 t_Pl_joins_6 := dk_go 1 a_Pl_joins_5 rfl
theorem a_Pl_joins_7 : dk_at b_Pl_joins 7 t_Pl_joins_7 := dk_go 1 a_Pl_joins_6 rfl
theorem a_Pl_joins_8 : dk_at b_Pl_joins 8 t_Pl_joins_8 := dk_go 1 a_Pl_joins_7 rfl
theorem a_Pl_joins_11 : dk_at b_Pl_joins 11 t_Pl_joins_11 := dk_go 3 a_Pl_joins_8 rfl
theorem a_Pl_joins_12 : dk_at b_Pl_joins 12 t_Pl_joins_12 := dk_go 1 a_Pl_joins_11 rfl
theorem a_Pl_joins_13 : dk_at b_Pl_joins 13 t_Pl_joins_13 := dk_go 1 a_Pl_joins_12 rfl
theorem a_Pl_joins_14 : dk_at b_Pl_joins 14 t_Pl_joins_14 := dk_go 1 a_Pl_joins_13 rfl
theorem a_Pl_joins_15 : dk_at b_Pl_joins 15 t_Pl_joins_15 := dk_go 1 a_Pl_joins_14 rfl
theorem a_Pl_joins_16 : dk_at b_Pl_joins 16 t_Pl_joins_16 := dk_go 1 a_Pl_joins_15 rfl
theorem a_Pl_joins_19 : dk_at b_Pl_joins 19 t_Pl_joins_19 := dk_go 3 a_Pl_joins_16 rfl
theorem a_Pl_joins_20 : dk_at b_Pl_joins 20 t_Pl_joins_20 := dk_go 1 a_Pl_joins_19 rfl
theorem a_Pl_joins_21 : dk_at b_Pl_joins 21 t_Pl_joins_21 := dk_go 1 a_Pl_joins_20 rfl
theorem a_Pl_joins_22 : dk_at b_Pl_joins 22 t_Pl_joins_22 := dk_go 1 a_Pl_joins_21 rfl
theorem a_Pl_joins_23 : dk_at b_Pl_joins 23 t_Pl_joins_23 := dk_go 1 a_Pl_joins_22 rfl
theorem a_Pl_joins_26 : dk_at b_Pl_joins 26 t_Pl_joins_26 := dk_go 3 a_Pl_joins_23 rfl
theorem a_Pl_joins_29 : dk_at b_Pl_joins 29 t_Pl_joins_29 := dk_go 3 a_Pl_joins_26 rfl
theorem a_Pl_joins_30 : dk_at b_Pl_joins 30 t_Pl_joins_30 := dk_go 1 a_Pl_joins_29 rfl
theorem a_Pl_joins_33 : dk_at b_Pl_joins 33 t_Pl_joins_33 := dk_go 3 a_Pl_joins_30 rfl
theorem a_Pl_joins_34 : dk_at b_Pl_joins 34 t_Pl_joins_34 := dk_go 1 a_Pl_joins_33 rfl
theorem a_Pl_joins_35 : dk_at b_Pl_joins 35 t_Pl_joins_35 := dk_go 1 a_Pl_joins_34 rfl
theorem a_Pl_joins_38 : dk_at b_Pl_joins 38 t_Pl_joins_38 := dk_go 3 a_Pl_joins_35 rfl
theorem a_Pl_joins_39 : dk_at b_Pl_joins 39 t_Pl_joins_39 := dk_go 1 a_Pl_joins_38 rfl
theorem a_Pl_joins_42 : dk_at b_Pl_joins 42 t_Pl_joins_42 := dk_go 3 a_Pl_joins_39 rfl
theorem a_Pl_joins_43 : dk_at b_Pl_joins 43 t_Pl_joins_43 := dk_go 1 a_Pl_joins_42 rfl
theorem a_Pl_joins_44 : dk_at b_Pl_joins 44 t_Pl_joins_44 := dk_go 1 a_Pl_joins_43 rfl
theorem a_Pl_joins_45 : dk_at b_Pl_joins 45 t_Pl_joins_45 := dk_go 1 a_Pl_joins_44 rfl
theorem a_Pl_joins_48 : dk_at b_Pl_joins 48 t_Pl_joins_48 := dk_go 3 a_Pl_joins_45 rfl
theorem a_Pl_joins_49 : dk_at b_Pl_joins 49 t_Pl_joins_49 := dk_go 1 a_Pl_joins_48 rfl
theorem a_Pl_joins_50 : dk_at b_Pl_joins 50 t_Pl_joins_50 := dk_go 1 a_Pl_joins_49 rfl
theorem a_Pl_joins_51 : dk_at b_Pl_joins 51 t_Pl_joins_51 := dk_go 1 a_Pl_joins_50 rfl
theorem a_Pl_joins_54 : dk_at b_Pl_joins 54 t_Pl_joins_54 := dk_go 3 a_Pl_joins_51 rfl
theorem a_Pl_joins_55 : dk_at b_Pl_joins 55 t_Pl_joins_55 := dk_go 1 a_Pl_joins_54 rfl
theorem a_Pl_joins_56 : dk_at b_Pl_joins 56 t_Pl_joins_56 := dk_go 1 a_Pl_joins_55 rfl
theorem a_Pl_joins_58 : dk_at b_Pl_joins 58 t_Pl_joins_58 := dk_go 2 a_Pl_joins_56 rfl
theorem a_Pl_joins_61 : dk_at b_Pl_joins 61 t_Pl_joins_61 := dk_go 3 a_Pl_joins_58 rfl
theorem a_Pl_joins_62 : dk_at b_Pl_joins 62 t_Pl_joins_62 := dk_go 1 a_Pl_joins_61 rfl
theorem a_Pl_joins_65 : dk_at b_Pl_joins 65 t_Pl_joins_65 := dk_go 3 a_Pl_joins_62 rfl
theorem a_Pl_joins_66 : dk_at b_Pl_joins 66 t_Pl_joins_66 := dk_go 1 a_Pl_joins_65 rfl
theorem a_Pl_joins_67 : dk_at b_Pl_joins 67 t_Pl_joins_67 := dk_go 1 a_Pl_joins_66 rfl
theorem a_Pl_joins_70 : dk_at b_Pl_joins 70 t_Pl_joins_70 := dk_go 3 a_Pl_joins_67 rfl
theorem a_Pl_joins_71 : dk_at b_Pl_joins 71 t_Pl_joins_71 := dk_go 1 a_Pl_joins_70 rfl
theorem a_Pl_joins_72 : dk_at b_Pl_joins 72 t_Pl_joins_72 := dk_go 1 a_Pl_joins_71 rfl
theorem a_Pl_joins_73 : dk_at b_Pl_joins 73 t_Pl_joins_73 := dk_go 1 a_Pl_joins_72 rfl
theorem a_Pl_joins_74 : dk_at b_Pl_joins 74 t_Pl_joins_74 := dk_go 1 a_Pl_joins_73 rfl
theorem a_Pl_joins_77 : dk_at b_Pl_joins 77 t_Pl_joins_77 := dk_go 3 a_Pl_joins_74 rfl
theorem a_Pl_joins_78 : dk_at b_Pl_joins 78 t_Pl_joins_78 := dk_go 1 a_Pl_joins_77 rfl
theorem a_Pl_joins_79 : dk_at b_Pl_joins 79 t_Pl_joins_79 := dk_go 1 a_Pl_joins_78 rfl
theorem a_Pl_joins_80 : dk_at b_Pl_joins 80 t_Pl_joins_80 := dk_go 1 a_Pl_joins_79 rfl
theorem a_Pl_joins_81 : dk_at b_Pl_joins 81 t_Pl_joins_81 := dk_go 1 a_Pl_joins_80 rfl
theorem a_Pl_joins_84 : dk_at b_Pl_joins 84 t_Pl_joins_84 := dk_go 3 a_Pl_joins_81 rfl
theorem a_Pl_joins_85 : dk_at b_Pl_joins 85 t_Pl_joins_85 := dk_go 1 a_Pl_joins_84 rfl
theorem a_Pl_joins_86 : dk_at b_Pl_joins 86 t_Pl_joins_86 := dk_go 1 a_Pl_joins_85 rfl
theorem a_Pl_joins_87 : dk_at b_Pl_joins 87 t_Pl_joins_87 := dk_go 1 a_Pl_joins_86 rfl
theorem a_Pl_joins_88 : dk_at b_Pl_joins 88 t_Pl_joins_88 := dk_go 1 a_Pl_joins_87 rfl
theorem a_Pl_joins_89 : dk_at b_Pl_joins 89 t_Pl_joins_89 := dk_go 1 a_Pl_joins_88 rfl
theorem a_Pl_joins_90 : dk_at b_Pl_joins 90 t_Pl_joins_90 := dk_go 1 a_Pl_joins_89 rfl
theorem a_Pl_joins_93 : dk_at b_Pl_joins 93 t_Pl_joins_93 := dk_go 3 a_Pl_joins_90 rfl
theorem a_Pl_joins_94 : dk_at b_Pl_joins 94 t_Pl_joins_94 := dk_go 1 a_Pl_joins_93 rfl
theorem a_Pl_joins_95 : dk_at b_Pl_joins 95 t_Pl_joins_95 := dk_go 1 a_Pl_joins_94 rfl
theorem a_Pl_joins_96 : dk_at b_Pl_joins 96 t_Pl_joins_96 := dk_go 1 a_Pl_joins_95 rfl
theorem a_Pl_joins_97 : dk_at b_Pl_joins 97 t_Pl_joins_97 := dk_go 1 a_Pl_joins_96 rfl
theorem a_Pl_joins_98 : dk_at b_Pl_joins 98 t_Pl_joins_98 := dk_go 1 a_Pl_joins_97 rfl
theorem a_Pl_joins_99 : dk_at b_Pl_joins 99 t_Pl_joins_99 := dk_go 1 a_Pl_joins_98 rfl
theorem a_Pl_joins_100 : dk_at b_Pl_joins 100 t_Pl_joins_100 := dk_go 1 a_Pl_joins_99 rfl
theorem d_Pl_joins_0 : decode b_Pl_joins 0 = .ok (.aload_n 0, 1) := dk_0 a_Pl_joins_0 (dko_42 _)
theorem d_Pl_joins_1 : decode b_Pl_joins 1 = .ok (.getfield 24, 3) := dk_U2 a_Pl_joins_1 (dko_180 _) rfl
theorem d_Pl_joins_4 : decode b_Pl_joins 4 = .ok (.iload_n 1, 1) := dk_0 a_Pl_joins_4 (dko_27 _)
theorem d_Pl_joins_5 : decode b_Pl_joins 5 = .ok (.iload_n 2, 1) := dk_0 a_Pl_joins_5 (dko_28 _)
theorem d_Pl_joins_6 : decode b_Pl_joins 6 = .ok (.iastore, 1) := dk_0 a_Pl_joins_6 (dko_79 _)
theorem d_Pl_joins_7 : decode b_Pl_joins 7 = .ok (.aload_n 0, 1) := dk_0 a_Pl_joins_7 (dko_42 _)
theorem d_Pl_joins_8 : decode b_Pl_joins 8 = .ok (.getfield 27, 3) := dk_U2 a_Pl_joins_8 (dko_180 _) rfl
theorem d_Pl_joins_11 : decode b_Pl_joins 11 = .ok (.iload_n 1, 1) := dk_0 a_Pl_joins_11 (dko_27 _)
theorem d_Pl_joins_12 : decode b_Pl_joins 12 = .ok (.iconst 0, 1) := dk_0 a_Pl_joins_12 (dko_3 _)
theorem d_Pl_joins_13 : decode b_Pl_joins 13 = .ok (.iastore, 1) := dk_0 a_Pl_joins_13 (dko_79 _)
theorem d_Pl_joins_14 : decode b_Pl_joins 14 = .ok (.iload_n 2, 1) := dk_0 a_Pl_joins_14 (dko_28 _)
theorem d_Pl_joins_15 : decode b_Pl_joins 15 = .ok (.iconst (-1), 1) := dk_0 a_Pl_joins_15 (dko_2 _)
theorem d_Pl_joins_16 : decode b_Pl_joins 16 = .ok (.if_icmp .ne 5, 3) := dk_S2 a_Pl_joins_16 (dko_160 _) (by decide +kernel)
theorem d_Pl_joins_19 : decode b_Pl_joins 19 = .ok (.iconst 1, 1) := dk_0 a_Pl_joins_19 (dko_4 _)
theorem d_Pl_joins_20 : decode b_Pl_joins 20 = .ok (.ireturn, 1) := dk_0 a_Pl_joins_20 (dko_172 _)
theorem d_Pl_joins_21 : decode b_Pl_joins 21 = .ok (.iload_n 2, 1) := dk_0 a_Pl_joins_21 (dko_28 _)
theorem d_Pl_joins_22 : decode b_Pl_joins 22 = .ok (.aload_n 0, 1) := dk_0 a_Pl_joins_22 (dko_42 _)
theorem d_Pl_joins_23 : decode b_Pl_joins 23 = .ok (.getfield 37, 3) := dk_U2 a_Pl_joins_23 (dko_180 _) rfl
theorem d_Pl_joins_26 : decode b_Pl_joins 26 = .ok (.if_icmp .ge 22, 3) := dk_S2 a_Pl_joins_26 (dko_162 _) (by decide +kernel)
theorem d_Pl_joins_29 : decode b_Pl_joins 29 = .ok (.aload_n 0, 1) := dk_0 a_Pl_joins_29 (dko_42 _)
theorem d_Pl_joins_30 : decode b_Pl_joins 30 = .ok (.getfield 18, 3) := dk_U2 a_Pl_joins_30 (dko_180 _) rfl
theorem d_Pl_joins_33 : decode b_Pl_joins 33 = .ok (.iload_n 2, 1) := dk_0 a_Pl_joins_33 (dko_28 _)
theorem d_Pl_joins_34 : decode b_Pl_joins 34 = .ok (.iaload, 1) := dk_0 a_Pl_joins_34 (dko_46 _)
theorem d_Pl_joins_35 : decode b_Pl_joins 35 = .ok (.getstatic 114, 3) := dk_U2 a_Pl_joins_35 (dko_178 _) rfl
theorem d_Pl_joins_38 : decode b_Pl_joins 38 = .ok (.aload_n 0, 1) := dk_0 a_Pl_joins_38 (dko_42 _)
theorem d_Pl_joins_39 : decode b_Pl_joins 39 = .ok (.getfield 9, 3) := dk_U2 a_Pl_joins_39 (dko_180 _) rfl
theorem d_Pl_joins_42 : decode b_Pl_joins 42 = .ok (.iload_n 2, 1) := dk_0 a_Pl_joins_42 (dko_28 _)
theorem d_Pl_joins_43 : decode b_Pl_joins 43 = .ok (.iaload, 1) := dk_0 a_Pl_joins_43 (dko_46 _)
theorem d_Pl_joins_44 : decode b_Pl_joins 44 = .ok (.iaload, 1) := dk_0 a_Pl_joins_44 (dko_46 _)
theorem d_Pl_joins_45 : decode b_Pl_joins 45 = .ok (.if_icmp .lt 5, 3) := dk_S2 a_Pl_joins_45 (dko_161 _) (by decide +kernel)
theorem d_Pl_joins_48 : decode b_Pl_joins 48 = .ok (.iconst 0, 1) := dk_0 a_Pl_joins_48 (dko_3 _)
theorem d_Pl_joins_49 : decode b_Pl_joins 49 = .ok (.ireturn, 1) := dk_0 a_Pl_joins_49 (dko_172 _)
theorem d_Pl_joins_50 : decode b_Pl_joins 50 = .ok (.aload_n 0, 1) := dk_0 a_Pl_joins_50 (dko_42 _)
theorem d_Pl_joins_51 : decode b_Pl_joins 51 = .ok (.getfield 9, 3) := dk_U2 a_Pl_joins_51 (dko_180 _) rfl
theorem d_Pl_joins_54 : decode b_Pl_joins 54 = .ok (.iload_n 2, 1) := dk_0 a_Pl_joins_54 (dko_28 _)
theorem d_Pl_joins_55 : decode b_Pl_joins 55 = .ok (.iaload, 1) := dk_0 a_Pl_joins_55 (dko_46 _)
theorem d_Pl_joins_56 : decode b_Pl_joins 56 = .ok (.bipush 9, 2) := dk_S1 a_Pl_joins_56 (dko_16 _) (by decide +kernel)
theorem d_Pl_joins_58 : decode b_Pl_joins 58 = .ok (.if_icmp .eq 31, 3) := dk_S2 a_Pl_joins_58 (dko_159 _) (by decide +kernel)
theorem d_Pl_joins_61 : decode b_Pl_joins 61 = .ok (.aload_n 0, 1) := dk_0 a_Pl_joins_61 (dko_42 _)
theorem d_Pl_joins_62 : decode b_Pl_joins 62 = .ok (.getfield 27, 3) := dk_U2 a_Pl_joins_62 (dko_180 _) rfl
theorem d_Pl_joins_65 : decode b_Pl_joins 65 = .ok (.iload_n 1, 1) := dk_0 a_Pl_joins_65 (dko_27 _)
theorem d_Pl_joins_66 : decode b_Pl_joins 66 = .ok (.aload_n 0, 1) := dk_0 a_Pl_joins_66 (dko_42 _)
theorem d_Pl_joins_67 : decode b_Pl_joins 67 = .ok (.getfield 18, 3) := dk_U2 a_Pl_joins_67 (dko_180 _) rfl
theorem d_Pl_joins_70 : decode b_Pl_joins 70 = .ok (.iload_n 2, 1) := dk_0 a_Pl_joins_70 (dko_28 _)
theorem d_Pl_joins_71 : decode b_Pl_joins 71 = .ok (.iaload, 1) := dk_0 a_Pl_joins_71 (dko_46 _)
theorem d_Pl_joins_72 : decode b_Pl_joins 72 = .ok (.iastore, 1) := dk_0 a_Pl_joins_72 (dko_79 _)
theorem d_Pl_joins_73 : decode b_Pl_joins 73 = .ok (.aload_n 0, 1) := dk_0 a_Pl_joins_73 (dko_42 _)
theorem d_Pl_joins_74 : decode b_Pl_joins 74 = .ok (.getfield 30, 3) := dk_U2 a_Pl_joins_74 (dko_180 _) rfl
theorem d_Pl_joins_77 : decode b_Pl_joins 77 = .ok (.iload_n 2, 1) := dk_0 a_Pl_joins_77 (dko_28 _)
theorem d_Pl_joins_78 : decode b_Pl_joins 78 = .ok (.iconst 4, 1) := dk_0 a_Pl_joins_78 (dko_7 _)
theorem d_Pl_joins_79 : decode b_Pl_joins 79 = .ok (.imul, 1) := dk_0 a_Pl_joins_79 (dko_104 _)
theorem d_Pl_joins_80 : decode b_Pl_joins 80 = .ok (.aload_n 0, 1) := dk_0 a_Pl_joins_80 (dko_42 _)
theorem d_Pl_joins_81 : decode b_Pl_joins 81 = .ok (.getfield 18, 3) := dk_U2 a_Pl_joins_81 (dko_180 _) rfl
theorem d_Pl_joins_84 : decode b_Pl_joins 84 = .ok (.iload_n 2, 1) := dk_0 a_Pl_joins_84 (dko_28 _)
theorem d_Pl_joins_85 : decode b_Pl_joins 85 = .ok (.iaload, 1) := dk_0 a_Pl_joins_85 (dko_46 _)
theorem d_Pl_joins_86 : decode b_Pl_joins 86 = .ok (.iadd, 1) := dk_0 a_Pl_joins_86 (dko_96 _)
theorem d_Pl_joins_87 : decode b_Pl_joins 87 = .ok (.iload_n 1, 1) := dk_0 a_Pl_joins_87 (dko_27 _)
theorem d_Pl_joins_88 : decode b_Pl_joins 88 = .ok (.iastore, 1) := dk_0 a_Pl_joins_88 (dko_79 _)
theorem d_Pl_joins_89 : decode b_Pl_joins 89 = .ok (.aload_n 0, 1) := dk_0 a_Pl_joins_89 (dko_42 _)
theorem d_Pl_joins_90 : decode b_Pl_joins 90 = .ok (.getfield 18, 3) := dk_U2 a_Pl_joins_90 (dko_180 _) rfl
theorem d_Pl_joins_93 : decode b_Pl_joins 93 = .ok (.iload_n 2, 1) := dk_0 a_Pl_joins_93 (dko_28 _)
theorem d_Pl_joins_94 : decode b_Pl_joins 94 = .ok (.dup2, 1) := dk_0 a_Pl_joins_94 (dko_92 _)
theorem d_Pl_joins_95 : decode b_Pl_joins 95 = .ok (.iaload, 1) := dk_0 a_Pl_joins_95 (dko_46 _)
theorem d_Pl_joins_96 : decode b_Pl_joins 96 = .ok (.iconst 1, 1) := dk_0 a_Pl_joins_96 (dko_4 _)
theorem d_Pl_joins_97 : decode b_Pl_joins 97 = .ok (.iadd, 1) := dk_0 a_Pl_joins_97 (dko_96 _)
theorem d_Pl_joins_98 : decode b_Pl_joins 98 = .ok (.iastore, 1) := dk_0 a_Pl_joins_98 (dko_79 _)
theorem d_Pl_joins_99 : decode b_Pl_joins 99 = .ok (.iconst 1, 1) := dk_0 a_Pl_joins_99 (dko_4 _)
theorem d_Pl_joins_100 : decode b_Pl_joins 100 = .ok (.ireturn, 1) := dk_0 a_Pl_joins_100 (dko_172 _)
set_option maxHeartbeats 4000000 in
set_option maxRecDepth 100000 in
theorem ok_Pl_joins (pc : Nat) : OpS mt mi_Pl_joins pc (cs_Pl_joins pc) := (os_n (os_n (os_n (os_n (os_n (os_n (os_l (so_aload_n d_Pl_joins_0 rfl)) (os_l (so_get (C := R_Pl) (T := F_Pl) (N := 12) (j := 6) in_Pl rfl (by decide) mw_108 d_Pl_joins_1))) (os_n (os_l (so_iload_n d_Pl_joins_4 rfl)) (os_l (so_iload_n d_Pl_joins_5 rfl)))) (os_n (os_n (os_l (so_iastore d_Pl_joins_6)) (os_l (so_aload_n d_Pl_joins_7 rfl))) (os_n (os_l (so_get (C := R_Pl) (T := F_Pl) (N := 12) (j := 7) in_Pl rfl (by decide) mw_111 d_Pl_joins_8)) (os_l (so_iload_n d_Pl_joins_11 rfl))))) (os_n (os_n (os_n (os_l (so_iconst d_Pl_joins_12 (by decide))) (os_l (so_iastore d_Pl_joins_13))) (os_n (os_l (so_iload_n d_Pl_joins_14 rfl)) (os_l (so_iconst d_Pl_joins_15 (by decide))))) (os_n (os_n (os_l (so_icne d_Pl_joins_16 (by decide))) (os_l (so_iconst d_Pl_joins_19 (by decide)))) (os_n (os_l (so_zreturn rfl d_Pl_joins_20)) (os_n (os_l (so_iload_n d_Pl_joins_21 rfl)) (os_l (so_aload_n d_Pl_joins_22 rfl))))))) (os_n (os_n (os_n (os_n (os_l (so_get (C := R_Pl) (T := F_Pl) (N := 12) (j := 0) in_Pl rfl (by decide) mw_86 d_Pl_joins_23)) (os_l (so_icge d_Pl_joins_26 (by decide)))) (os_n (os_l (so_aload_n d_Pl_joins_29 rfl)) (os_l (so_get (C := R_Pl) (T := F_Pl) (N := 12) (j := 4) in_Pl rfl (by decide) mw_103 d_Pl_joins_30)))) (os_n (os_n (os_l (so_iload_n d_Pl_joins_33 rfl)) (os_l (so_iaload d_Pl_joins_34))) (os_n (os_l (so_gsN (fun _ _ _ _ h => h.1.1) nw_809 d_Pl_joins_35)) (os_l (so_aload_n d_Pl_joins_38 rfl))))) (os_n (os_n (os_n (os_l (so_get (C := R_Pl) (T := F_Pl) (N := 12) (j := 2) in_Pl rfl (by decide) mw_96 d_Pl_joins_39)) (os_l (so_iload_n d_Pl_joins_42 rfl))) (os_n (os_l (so_iaload d_Pl_joins_43)) (os_l (so_iaload d_Pl_joins_44)))) (os_n (os_n (os_l (so_iclt d_Pl_joins_45 (by decide))) (os_l (so_iconst d_Pl_joins_48 (by decide)))) (os_n (os_l (so_zreturn rfl d_Pl_joins_49)) (os_n (os_l (so_aload_n d_Pl_joins_50 rfl)) (os_l (so_get (C := R_Pl) (T := F_Pl) (N := 12) (j := 2) in_Pl rfl (by decide) mw_96 d_Pl_joins_51)))))))) (os_n (os_n (os_n (os_n (os_n (os_l (so_iload_n d_Pl_joins_54 rfl)) (os_l (so_iaload d_Pl_joins_55))) (os_n (os_l (so_bipush d_Pl_joins_56 (by decide))) (os_l (so_iceq d_Pl_joins_58 (by decide))))) (os_n (os_n (os_l (so_aload_n d_Pl_joins_61 rfl)) (os_l (so_get (C := R_Pl) (T := F_Pl) (N := 12) (j := 7) in_Pl rfl (by decide) mw_111 d_Pl_joins_62))) (os_n (os_l (so_iload_n d_Pl_joins_65 rfl)) (os_l (so_aload_n d_Pl_joins_66 rfl))))) (os_n (os_n (os_n (os_l (so_get (C := R_Pl) (T := F_Pl) (N := 12) (j := 4) in_Pl rfl (by decide) mw_103 d_Pl_joins_67)) (os_l (so_iload_n d_Pl_joins_70 rfl))) (os_n (os_l (so_iaload d_Pl_joins_71)) (os_l (so_iastore d_Pl_joins_72)))) (os_n (os_n (os_l (so_aload_n d_Pl_joins_73 rfl)) (os_l (so_get (C := R_Pl) (T := F_Pl) (N := 12) (j := 8) in_Pl rfl (by decide) mw_114 d_Pl_joins_74))) (os_n (os_l (so_iload_n d_Pl_joins_77 rfl)) (os_n (os_l (so_iconst d_Pl_joins_78 (by decide))) (os_l (so_imul d_Pl_joins_79))))))) (os_n (os_n (os_n (os_n (os_l (so_aload_n d_Pl_joins_80 rfl)) (os_l (so_get (C := R_Pl) (T := F_Pl) (N := 12) (j := 4) in_Pl rfl (by decide) mw_103 d_Pl_joins_81))) (os_n (os_l (so_iload_n d_Pl_joins_84 rfl)) (os_l (so_iaload d_Pl_joins_85)))) (os_n (os_n (os_l (so_iadd d_Pl_joins_86)) (os_l (so_iload_n d_Pl_joins_87 rfl))) (os_n (os_l (so_iastore d_Pl_joins_88)) (os_l (so_aload_n d_Pl_joins_89 rfl))))) (os_n (os_n (os_n (os_l (so_get (C := R_Pl) (T := F_Pl) (N := 12) (j := 4) in_Pl rfl (by decide) mw_103 d_Pl_joins_90)) (os_l (so_iload_n d_Pl_joins_93 rfl))) (os_n (os_l (so_dup2 d_Pl_joins_94)) (os_l (so_iaload d_Pl_joins_95)))) (os_n (os_n (os_l (so_iconst d_Pl_joins_96 (by decide))) (os_l (so_iadd d_Pl_joins_97))) (os_n (os_l (so_iastore d_Pl_joins_98)) (os_n (os_l (so_iconst d_Pl_joins_99 (by decide))) (os_l (so_zreturn rfl d_Pl_joins_100)))))))))
abbrev t_Pl_writeTo_183 : List UInt8 := 172 :: []
abbrev t_Pl_writeTo_182 : List UInt8 := 28 :: t_Pl_writeTo_183
abbrev t_Pl_writeTo_179 : List UInt8 := 167 :: 255 :: 177 :: t_Pl_writeTo_182
abbrev t_Pl_writeTo_176 : List UInt8 := 132 :: 3 :: 1 :: t_Pl_writeTo_179
abbrev t_Pl_writeTo_175 : List UInt8 := 61 :: t_Pl_writeTo_176
abbrev t_Pl_writeTo_172 : List UInt8 := 184 :: 0 :: 117 :: t_Pl_writeTo_175
abbrev t_Pl_writeTo_170 : List UInt8 := 18 :: 125 :: t_Pl_writeTo_172
abbrev t_Pl_writeTo_169 : List UInt8 := 28 :: t_Pl_writeTo_170
abbrev t_Pl_writeTo_168 : List UInt8 := 43 :: t_Pl_writeTo_169
abbrev t_Pl_writeTo_167 : List UInt8 := 61 :: t_Pl_writeTo_168
abbrev t_Pl_writeTo_164 : List UInt8 := 184 :: 0 :: 121 :: t_Pl_writeTo_167
abbrev t_Pl_writeTo_163 : List UInt8 := 46 :: t_Pl_writeTo_164
abbrev t_Pl_writeTo_162 : List UInt8 := 29 :: t_Pl_writeTo_163
abbrev t_Pl_writeTo_159 : List UInt8 := 180 :: 0 :: 21 :: t_Pl_writeTo_162
abbrev t_Pl_writeTo_158 : List UInt8 := 42 :: t_Pl_writeTo_159
abbrev t_Pl_writeTo_155 : List UInt8 := 184 :: 0 :: 117 :: t_Pl_writeTo_158
abbrev t_Pl_writeTo_153 : List UInt8 := 18 :: 91 :: t_Pl_writeTo_155
abbrev t_Pl_writeTo_152 : List UInt8 := 28 :: t_Pl_writeTo_153
abbrev t_Pl_writeTo_151 : List UInt8 := 43 :: t_Pl_writeTo_152
abbrev t_Pl_writeTo_150 : List UInt8 := 43 :: t_Pl_writeTo_151
abbrev t_Pl_writeTo_149 : List UInt8 := 61 :: t_Pl_writeTo_150
abbrev t_Pl_writeTo_146 : List UInt8 := 184 :: 0 :: 127 :: t_Pl_writeTo_149
abbrev t_Pl_writeTo_145 : List UInt8 := 46 :: t_Pl_writeTo_146
abbrev t_Pl_writeTo_144 : List UInt8 := 96 :: t_Pl_writeTo_145
abbrev t_Pl_writeTo_143 : List UInt8 := 4 :: t_Pl_writeTo_144
abbrev t_Pl_writeTo_142 : List UInt8 := 104 :: t_Pl_writeTo_143
abbrev t_Pl_writeTo_141 : List UInt8 := 29 :: t_Pl_writeTo_142
abbrev t_Pl_writeTo_140 : List UInt8 := 5 :: t_Pl_writeTo_141
abbrev t_Pl_writeTo_137 : List UInt8 := 180 :: 0 :: 24 :: t_Pl_writeTo_140
abbrev t_Pl_writeTo_136 : List UInt8 := 42 :: t_Pl_writeTo_137
abbrev t_Pl_writeTo_133 : List UInt8 := 184 :: 0 :: 117 :: t_Pl_writeTo_136
abbrev t_Pl_writeTo_131 : List UInt8 := 18 :: 91 :: t_Pl_writeTo_133
abbrev t_Pl_writeTo_130 : List UInt8 := 28 :: t_Pl_writeTo_131
abbrev t_Pl_writeTo_129 : List UInt8 := 43 :: t_Pl_writeTo_130
abbrev t_Pl_writeTo_128 : List UInt8 := 43 :: t_Pl_writeTo_129
abbrev t_Pl_writeTo_127 : List UInt8 := 61 :: t_Pl_writeTo_128
abbrev t_Pl_writeTo_124 : List UInt8 := 184 :: 0 :: 127 :: t_Pl_writeTo_127
abbrev t_Pl_writeTo_123 : List UInt8 := 46 :: t_Pl_writeTo_124
abbrev t_Pl_writeTo_122 : List UInt8 := 104 :: t_Pl_writeTo_123
abbrev t_Pl_writeTo_121 : List UInt8 := 29 :: t_Pl_writeTo_122
abbrev t_Pl_writeTo_120 : List UInt8 := 5 :: t_Pl_writeTo_121
abbrev t_Pl_writeTo_117 : List UInt8 := 180 :: 0 :: 24 :: t_Pl_writeTo_120
abbrev t_Pl_writeTo_116 : List UInt8 := 42 :: t_Pl_writeTo_117
abbrev t_Pl_writeTo_113 : List UInt8 := 184 :: 0 :: 117 :: t_Pl_writeTo_116
abbrev t_Pl_writeTo_111 : List UInt8 := 18 :: 83 :: t_Pl_writeTo_113
abbrev t_Pl_writeTo_110 : List UInt8 := 28 :: t_Pl_writeTo_111
abbrev t_Pl_writeTo_109 : List UInt8 := 43 :: t_Pl_writeTo_110
abbrev t_Pl_writeTo_108 : List UInt8 := 43 :: t_Pl_writeTo_109
abbrev t_Pl_writeTo_105 : List UInt8 := 162 :: 0 :: 77 :: t_Pl_writeTo_108
abbrev t_Pl_writeTo_102 : List UInt8 := 180 :: 0 :: 41 :: t_Pl_writeTo_105
abbrev t_Pl_writeTo_101 : List UInt8 := 42 :: t_Pl_writeTo_102
abbrev t_Pl_writeTo_100 : List UInt8 := 29 :: t_Pl_writeTo_101
abbrev t_Pl_writeTo_99 : List UInt8 := 62 :: t_Pl_writeTo_100
abbrev t_Pl_writeTo_98 : List UInt8 := 3 :: t_Pl_writeTo_99
abbrev t_Pl_writeTo_95 : List UInt8 := 167 :: 255 :: 165 :: t_Pl_writeTo_98
abbrev t_Pl_writeTo_92 : List UInt8 := 132 :: 3 :: 1 :: t_Pl_writeTo_95
abbrev t_Pl_writeTo_91 : List UInt8 := 61 :: t_Pl_writeTo_92
abbrev t_Pl_writeTo_88 : List UInt8 := 184 :: 0 :: 117 :: t_Pl_writeTo_91
abbrev t_Pl_writeTo_86 : List UInt8 := 18 :: 125 :: t_Pl_writeTo_88
abbrev t_Pl_writeTo_85 : List UInt8 := 28 :: t_Pl_writeTo_86
abbrev t_Pl_writeTo_84 : List UInt8 := 43 :: t_Pl_writeTo_85
abbrev t_Pl_writeTo_83 : List UInt8 := 61 :: t_Pl_writeTo_84
abbrev t_Pl_writeTo_80 : List UInt8 := 184 :: 0 :: 121 :: t_Pl_writeTo_83
abbrev t_Pl_writeTo_79 : List UInt8 := 46 :: t_Pl_writeTo_80
abbrev t_Pl_writeTo_78 : List UInt8 := 29 :: t_Pl_writeTo_79
abbrev t_Pl_writeTo_75 : List UInt8 := 180 :: 0 :: 9 :: t_Pl_writeTo_78
abbrev t_Pl_writeTo_74 : List UInt8 := 42 :: t_Pl_writeTo_75
abbrev t_Pl_writeTo_71 : List UInt8 := 184 :: 0 :: 117 :: t_Pl_writeTo_74
abbrev t_Pl_writeTo_69 : List UInt8 := 18 :: 79 :: t_Pl_writeTo_71
abbrev t_Pl_writeTo_68 : List UInt8 := 28 :: t_Pl_writeTo_69
abbrev t_Pl_writeTo_67 : List UInt8 := 43 :: t_Pl_writeTo_68
abbrev t_Pl_writeTo_66 : List UInt8 := 43 :: t_Pl_writeTo_67
abbrev t_Pl_writeTo_63 : List UInt8 := 167 :: 0 :: 21 :: t_Pl_writeTo_66
abbrev t_Pl_writeTo_62 : List UInt8 := 61 :: t_Pl_writeTo_63
abbrev t_Pl_writeTo_59 : List UInt8 := 184 :: 0 :: 121 :: t_Pl_writeTo_62
abbrev t_Pl_writeTo_58 : List UInt8 := 46 :: t_Pl_writeTo_59
abbrev t_Pl_writeTo_57 : List UInt8 := 29 :: t_Pl_writeTo_58
abbrev t_Pl_writeTo_54 : List UInt8 := 180 :: 0 :: 15 :: t_Pl_writeTo_57
abbrev t_Pl_writeTo_53 : List UInt8 := 42 :: t_Pl_writeTo_54
abbrev t_Pl_writeTo_50 : List UInt8 := 184 :: 0 :: 117 :: t_Pl_writeTo_53
abbrev t_Pl_writeTo_48 : List UInt8 := 18 :: 59 :: t_Pl_writeTo_50
abbrev t_Pl_writeTo_47 : List UInt8 := 28 :: t_Pl_writeTo_48
abbrev t_Pl_writeTo_46 : List UInt8 := 43 :: t_Pl_writeTo_47
abbrev t_Pl_writeTo_45 : List UInt8 := 43 :: t_Pl_writeTo_46
abbrev t_Pl_writeTo_42 : List UInt8 := 160 :: 0 :: 24 :: t_Pl_writeTo_45
abbrev t_Pl_writeTo_40 : List UInt8 := 16 :: 9 :: t_Pl_writeTo_42
abbrev t_Pl_writeTo_39 : List UInt8 := 46 :: t_Pl_writeTo_40
abbrev t_Pl_writeTo_38 : List UInt8 := 29 :: t_Pl_writeTo_39
abbrev t_Pl_writeTo_35 : List UInt8 := 180 :: 0 :: 9 :: t_Pl_writeTo_38
abbrev t_Pl_writeTo_34 : List UInt8 := 42 :: t_Pl_writeTo_35
abbrev t_Pl_writeTo_31 : List UInt8 := 167 :: 0 :: 53 :: t_Pl_writeTo_34
abbrev t_Pl_writeTo_30 : List UInt8 := 61 :: t_Pl_writeTo_31
abbrev t_Pl_writeTo_27 : List UInt8 := 184 :: 0 :: 117 :: t_Pl_writeTo_30
abbrev t_Pl_writeTo_25 : List UInt8 := 18 :: 81 :: t_Pl_writeTo_27
abbrev t_Pl_writeTo_24 : List UInt8 := 28 :: t_Pl_writeTo_25
abbrev t_Pl_writeTo_23 : List UInt8 := 43 :: t_Pl_writeTo_24
abbrev t_Pl_writeTo_20 : List UInt8 := 160 :: 0 :: 14 :: t_Pl_writeTo_23
abbrev t_Pl_writeTo_18 : List UInt8 := 16 :: 8 :: t_Pl_writeTo_20
abbrev t_Pl_writeTo_17 : List UInt8 := 46 :: t_Pl_writeTo_18
abbrev t_Pl_writeTo_16 : List UInt8 := 29 :: t_Pl_writeTo_17
abbrev t_Pl_writeTo_13 : List UInt8 := 180 :: 0 :: 9 :: t_Pl_writeTo_16
abbrev t_Pl_writeTo_12 : List UInt8 := 42 :: t_Pl_writeTo_13
abbrev t_Pl_writeTo_9 : List UInt8 := 162 :: 0 :: 89 :: t_Pl_writeTo_12
abbrev t_Pl_writeTo_6 : List UInt8 := 180 :: 0 :: 37 :: t_Pl_writeTo_9
abbrev t_Pl_writeTo_5 : List UInt8 := 42 :: t_Pl_writeTo_6
abbrev t_Pl_writeTo_4 : List UInt8 := 29 :: t_Pl_writeTo_5
abbrev t_Pl_writeTo_3 : List UInt8 := 62 :: t_Pl_writeTo_4
abbrev t_Pl_writeTo_2 : List UInt8 := 3 :: t_Pl_writeTo_3
abbrev t_Pl_writeTo_1 : List UInt8 := 61 :: t_Pl_writeTo_2
abbrev t_Pl_writeTo_0 : List UInt8 := 3 :: t_Pl_writeTo_1
theorem a_Pl_writeTo_0 : dk_at b_Pl_writeTo 0 t_Pl_writeTo_0 := dk_start (by decide +kernel)
theorem a_Pl_writeTo_1 : dk_at b_Pl_writeTo 1 t_Pl_writeTo_1 := dk_go 1 a_Pl_writeTo_0 rfl
theorem a_Pl_writeTo_2 : dk_at b_Pl_writeTo 2 t_Pl_writeTo_2 := dk_go 1 a_Pl_writeTo_1 rfl
theorem a_Pl_writeTo_3 : dk_at b_Pl_writeTo 3 t_Pl_writeTo_3 := dk_go 1 a_Pl_writeTo_2 rfl
theorem a_Pl_writeTo_4 : dk_at b_Pl_writeTo 4 t_Pl_writeTo_4 := dk_go 1 a_Pl_writeTo_3 rfl
theorem a_Pl_writeTo_5 : dk_at b_Pl_writeTo 5 t_Pl_writeTo_5 := dk_go 1 a_Pl_writeTo_4 rfl
theorem a_Pl_writeTo_6 : dk_at b_Pl_writeTo 6 t_Pl_writeTo_6 := dk_go 1 a_Pl_writeTo_5 rfl
theorem a_Pl_writeTo_9 : dk_at b_Pl_writeTo 9 t_Pl_writeTo_9 := dk_go 3 a_Pl_writeTo_6 rfl
theorem a_Pl_writeTo_12 : dk_at b_Pl_writeTo 12 t_Pl_writeTo_12 := dk_go 3 a_Pl_writeTo_9 rfl
theorem a_Pl_writeTo_13 : dk_at b_Pl_writeTo 13 t_Pl_writeTo_13 := dk_go 1 a_Pl_writeTo_12 rfl
theorem a_Pl_writeTo_16 : dk_at b_Pl_writeTo 16 t_Pl_writeTo_16 := dk_go 3 a_Pl_writeTo_13 rfl
theorem a_Pl_writeTo_17 : dk_at b_Pl_writeTo 17 t_Pl_writeTo_17 := dk_go 1 a_Pl_writeTo_16 rfl
theorem a_Pl_writeTo_18 : dk_at b_Pl_writeTo 18 t_Pl_writeTo_18 := dk_go 1 a_Pl_writeTo_17 rfl
theorem a_Pl_writeTo_20 : dk_at b_Pl_writeTo 20 t_Pl_writeTo_20 := dk_go 2 a_Pl_writeTo_18 rfl
theorem a_Pl_writeTo_23 : dk_at b_Pl_writeTo 23 t_Pl_writeTo_23 := dk_go 3 a_Pl_writeTo_20 rfl
theorem a_Pl_writeTo_24 : dk_at b_Pl_writeTo 24 t_Pl_writeTo_24 := dk_go 1 a_Pl_writeTo_23 rfl
theorem a_Pl_writeTo_25 : dk_at b_Pl_writeTo 25 t_Pl_writeTo_25 := dk_go 1 a_Pl_writeTo_24 rfl
theorem a_Pl_writeTo_27 : dk_at b_Pl_writeTo 27 t_Pl_writeTo_27 := dk_go 2 a_Pl_writeTo_25 rfl
theorem a_Pl_writeTo_30 : dk_at b_Pl_writeTo 30 t_Pl_writeTo_30 := dk_go 3 a_Pl_writeTo_27 rfl
theorem a_Pl_writeTo_31 : dk_at b_Pl_writeTo 31 t_Pl_writeTo_31 := dk_go 1 a_Pl_writeTo_30 rfl
theorem a_Pl_writeTo_34 : dk_at b_Pl_writeTo 34 t_Pl_writeTo_34 := dk_go 3 a_Pl_writeTo_31 rfl
theorem a_Pl_writeTo_35 : dk_at b_Pl_writeTo 35 t_Pl_writeTo_35 := dk_go 1 a_Pl_writeTo_34 rfl
theorem a_Pl_writeTo_38 : dk_at b_Pl_writeTo 38 t_Pl_writeTo_38 := dk_go 3 a_Pl_writeTo_35 rfl
theorem a_Pl_writeTo_39 : dk_at b_Pl_writeTo 39 t_Pl_writeTo_39 := dk_go 1 a_Pl_writeTo_38 rfl
theorem a_Pl_writeTo_40 : dk_at b_Pl_writeTo 40 t_Pl_writeTo_40 := dk_go 1 a_Pl_writeTo_39 rfl
theorem a_Pl_writeTo_42 : dk_at b_Pl_writeTo 42 t_Pl_writeTo_42 := dk_go 2 a_Pl_writeTo_40 rfl
theorem a_Pl_writeTo_45 : dk_at b_Pl_writeTo 45 t_Pl_writeTo_45 := dk_go 3 a_Pl_writeTo_42 rfl
theorem a_Pl_writeTo_46 : dk_at b_Pl_writeTo 46 t_Pl_writeTo_46 := dk_go 1 a_Pl_writeTo_45 rfl
theorem a_Pl_writeTo_47 : dk_at b_Pl_writeTo 47 t_Pl_writeTo_47 := dk_go 1 a_Pl_writeTo_46 rfl
theorem a_Pl_writeTo_48 : dk_at b_Pl_writeTo 48 t_Pl_writeTo_48 := dk_go 1 a_Pl_writeTo_47 rfl
theorem a_Pl_writeTo_50 : dk_at b_Pl_writeTo 50 t_Pl_writeTo_50 := dk_go 2 a_Pl_writeTo_48 rfl
theorem a_Pl_writeTo_53 : dk_at b_Pl_writeTo 53 t_Pl_writeTo_53 := dk_go 3 a_Pl_writeTo_50 rfl
theorem a_Pl_writeTo_54 : dk_at b_Pl_writeTo 54 t_Pl_writeTo_54 := dk_go 1 a_Pl_writeTo_53 rfl
theorem a_Pl_writeTo_57 : dk_at b_Pl_writeTo 57 t_Pl_writeTo_57 := dk_go 3 a_Pl_writeTo_54 rfl
theorem a_Pl_writeTo_58 : dk_at b_Pl_writeTo 58 t_Pl_writeTo_58 := dk_go 1 a_Pl_writeTo_57 rfl
theorem a_Pl_writeTo_59 : dk_at b_Pl_writeTo 59 t_Pl_writeTo_59 := dk_go 1 a_Pl_writeTo_58 rfl
theorem a_Pl_writeTo_62 : dk_at b_Pl_writeTo 62 t_Pl_writeTo_62 := dk_go 3 a_Pl_writeTo_59 rfl
theorem a_Pl_writeTo_63 : dk_at b_Pl_writeTo 63 t_Pl_writeTo_63 := dk_go 1 a_Pl_writeTo_62 rfl
theorem a_Pl_writeTo_66 : dk_at b_Pl_writeTo 66 t_Pl_writeTo_66 := dk_go 3 a_Pl_writeTo_63 rfl
theorem a_Pl_writeTo_67 : dk_at b_Pl_writeTo 67 t_Pl_writeTo_67 := dk_go 1 a_Pl_writeTo_66 rfl
theorem a_Pl_writeTo_68 : dk_at b_Pl_writeTo 68 t_Pl_writeTo_68 := dk_go 1 a_Pl_writeTo_67 rfl
theorem a_Pl_writeTo_69 : dk_at b_Pl_writeTo 69 t_Pl_writeTo_69 := dk_go 1 a_Pl_writeTo_68 rfl
theorem a_Pl_writeTo_71 : dk_at b_Pl_writeTo 71 t_Pl_writeTo_71 := dk_go 2 a_Pl_writeTo_69 rfl
theorem a_Pl_writeTo_74 : dk_at b_Pl_writeTo 74 t_Pl_writeTo_74 := dk_go 3 a_Pl_writeTo_71 rfl
theorem a_Pl_writeTo_75 : dk_at b_Pl_writeTo 75 t_Pl_writeTo_75 := dk_go 1 a_Pl_writeTo_74 rfl
theorem a_Pl_writeTo_78 : dk_at b_Pl_writeTo 78 t_Pl_writeTo_78 := dk_go 3 a_Pl_writeTo_75 rfl
theorem a_Pl_writeTo_79 : dk_at b_Pl_writeTo 79 t_Pl_writeTo_79 := dk_go 1 a_Pl_writeTo_78 rfl
theorem a_Pl_writeTo_80 : dk_at b_Pl_writeTo 80 t_Pl_writeTo_80 := dk_go 1 a_Pl_writeTo_79 rfl
theorem a_Pl_writeTo_83 : dk_at b_Pl_writeTo 83 t_Pl_writeTo_83 := dk_go 3 a_Pl_writeTo_80 rfl
theorem a_Pl_writeTo_84 : dk_at b_Pl_writeTo 84 t_Pl_writeTo_84 := dk_go 1 a_Pl_writeTo_83 rfl
theorem a_Pl_writeTo_85 : dk_at b_Pl_writeTo 85 t_Pl_writeTo_85 := dk_go 1 a_Pl_writeTo_84 rfl
theorem a_Pl_writeTo_86 : dk_at b_Pl_writeTo 86 t_Pl_writeTo_86 := dk_go 1 a_Pl_writeTo_85 rfl
theorem a_Pl_writeTo_88 : dk_at b_Pl_writeTo 88 t_Pl_writeTo_88 := dk_go 2 a_Pl_writeTo_86 rfl
theorem a_Pl_writeTo_91 : dk_at b_Pl_writeTo 91 t_Pl_writeTo_91 := dk_go 3 a_Pl_writeTo_88 rfl
theorem a_Pl_writeTo_92 : dk_at b_Pl_writeTo 92 t_Pl_writeTo_92 := dk_go 1 a_Pl_writeTo_91 rfl
theorem a_Pl_writeTo_95 : dk_at b_Pl_writeTo 95 t_Pl_writeTo_95 := dk_go 3 a_Pl_writeTo_92 rfl
theorem a_Pl_writeTo_98 : dk_at b_Pl_writeTo 98 t_Pl_writeTo_98 := dk_go 3 a_Pl_writeTo_95 rfl
theorem a_Pl_writeTo_99 : dk_at b_Pl_writeTo 99 t_Pl_writeTo_99 := dk_go 1 a_Pl_writeTo_98 rfl
theorem a_Pl_writeTo_100 : dk_at b_Pl_writeTo 100 t_Pl_writeTo_100 := dk_go 1 a_Pl_writeTo_99 rfl
theorem a_Pl_writeTo_101 : dk_at b_Pl_writeTo 101 t_Pl_writeTo_101 := dk_go 1 a_Pl_writeTo_100 rfl
theorem a_Pl_writeTo_102 : dk_at b_Pl_writeTo 102 t_Pl_writeTo_102 := dk_go 1 a_Pl_writeTo_101 rfl
theorem a_Pl_writeTo_105 : dk_at b_Pl_writeTo 105 t_Pl_writeTo_105 := dk_go 3 a_Pl_writeTo_102 rfl
theorem a_Pl_writeTo_108 : dk_at b_Pl_writeTo 108 t_Pl_writeTo_108 := dk_go 3 a_Pl_writeTo_105 rfl
theorem a_Pl_writeTo_109 : dk_at b_Pl_writeTo 109 t_Pl_writeTo_109 := dk_go 1 a_Pl_writeTo_108 rfl
theorem a_Pl_writeTo_110 : dk_at b_Pl_writeTo 110 t_Pl_writeTo_110 := dk_go 1 a_Pl_writeTo_109 rfl
theorem a_Pl_writeTo_111 : dk_at b_Pl_writeTo 111 t_Pl_writeTo_111 := dk_go 1 a_Pl_writeTo_110 rfl
theorem a_Pl_writeTo_113 : dk_at b_Pl_writeTo 113 t_Pl_writeTo_113 := dk_go 2 a_Pl_writeTo_111 rfl
theorem a_Pl_writeTo_116 : dk_at b_Pl_writeTo 116 t_Pl_writeTo_116 := dk_go 3 a_Pl_writeTo_113 rfl
theorem a_Pl_writeTo_117 : dk_at b_Pl_writeTo 117 t_Pl_writeTo_117 := dk_go 1 a_Pl_writeTo_116 rfl
theorem a_Pl_writeTo_120 : dk_at b_Pl_writeTo 120 t_Pl_writeTo_120 := dk_go 3 a_Pl_writeTo_117 rfl
theorem a_Pl_writeTo_121 : dk_at b_Pl_writeTo 121 t_Pl_writeTo_121 := dk_go 1 a_Pl_writeTo_120 rfl
theorem a_Pl_writeTo_122 : dk_at b_Pl_writeTo 122 t_Pl_writeTo_122 := dk_go 1 a_Pl_writeTo_121 rfl
theorem a_Pl_writeTo_123 : dk_at b_Pl_writeTo 123 t_Pl_writeTo_123 := dk_go 1 a_Pl_writeTo_122 rfl
theorem a_Pl_writeTo_124 : dk_at b_Pl_writeTo 124 t_Pl_writeTo_124 := dk_go 1 a_Pl_writeTo_123 rfl
theorem a_Pl_writeTo_127 : dk_at b_Pl_writeTo 127 t_Pl_writeTo_127 := dk_go 3 a_Pl_writeTo_124 rfl
theorem a_Pl_writeTo_128 : dk_at b_Pl_writeTo 128 t_Pl_writeTo_128 := dk_go 1 a_Pl_writeTo_127 rfl
theorem a_Pl_writeTo_129 : dk_at b_Pl_writeTo 129 t_Pl_writeTo_129 := dk_go 1 a_Pl_writeTo_128 rfl
theorem a_Pl_writeTo_130 : dk_at b_Pl_writeTo 130 t_Pl_writeTo_130 := dk_go 1 a_Pl_writeTo_129 rfl
theorem a_Pl_writeTo_131 : dk_at b_Pl_writeTo 131 t_Pl_writeTo_131 := dk_go 1 a_Pl_writeTo_130 rfl
theorem a_Pl_writeTo_133 : dk_at b_Pl_writeTo 133 t_Pl_writeTo_133 := dk_go 2 a_Pl_writeTo_131 rfl
theorem a_Pl_writeTo_136 : dk_at b_Pl_writeTo 136 t_Pl_writeTo_136 := dk_go 3 a_Pl_writeTo_133 rfl
theorem a_Pl_writeTo_137 : dk_at b_Pl_writeTo 137 t_Pl_writeTo_137 := dk_go 1 a_Pl_writeTo_136 rfl
theorem a_Pl_writeTo_140 : dk_at b_Pl_writeTo 140 t_Pl_writeTo_140 := dk_go 3 a_Pl_writeTo_137 rfl
theorem a_Pl_writeTo_141 : dk_at b_Pl_writeTo 141 t_Pl_writeTo_141 := dk_go 1 a_Pl_writeTo_140 rfl
theorem a_Pl_writeTo_142 : dk_at b_Pl_writeTo 142 t_Pl_writeTo_142 := dk_go 1 a_Pl_writeTo_141 rfl
theorem a_Pl_writeTo_143 : dk_at b_Pl_writeTo 143 t_Pl_writeTo_143 := dk_go 1 a_Pl_writeTo_142 rfl
theorem a_Pl_writeTo_144 : dk_at b_Pl_writeTo 144 t_Pl_writeTo_144 := dk_go 1 a_Pl_writeTo_143 rfl
theorem a_Pl_writeTo_145 : dk_at b_Pl_writeTo 145 t_Pl_writeTo_145 := dk_go 1 a_Pl_writeTo_144 rfl
theorem a_Pl_writeTo_146 : dk_at b_Pl_writeTo 146 t_Pl_writeTo_146 := dk_go 1 a_Pl_writeTo_145 rfl
theorem a_Pl_writeTo_149 : dk_at b_Pl_writeTo 149 t_Pl_writeTo_149 := dk_go 3 a_Pl_writeTo_146 rfl
theorem a_Pl_writeTo_150 : dk_at b_Pl_writeTo 150 t_Pl_writeTo_150 := dk_go 1 a_Pl_writeTo_149 rfl
theorem a_Pl_writeTo_151 : dk_at b_Pl_writeTo 151 t_Pl_writeTo_151 := dk_go 1 a_Pl_writeTo_150 rfl
theorem a_Pl_writeTo_152 : dk_at b_Pl_writeTo 152 t_Pl_writeTo_152 := dk_go 1 a_Pl_writeTo_151 rfl
theorem a_Pl_writeTo_153 : dk_at b_Pl_writeTo 153 t_Pl_writeTo_153 := dk_go 1 a_Pl_writeTo_152 rfl
theorem a_Pl_writeTo_155 : dk_at b_Pl_writeTo 155 t_Pl_writeTo_155 := dk_go 2 a_Pl_writeTo_153 rfl
theorem a_Pl_writeTo_158 : dk_at b_Pl_writeTo 158 t_Pl_writeTo_158 := dk_go 3 a_Pl_writeTo_155 rfl
theorem a_Pl_writeTo_159 : dk_at b_Pl_writeTo 159 t_Pl_writeTo_159 := dk_go 1 a_Pl_writeTo_158 rfl
theorem a_Pl_writeTo_162 : dk_at b_Pl_writeTo 162 t_Pl_writeTo_162 := dk_go 3 a_Pl_writeTo_159 rfl
theorem a_Pl_writeTo_163 : dk_at b_Pl_writeTo 163 t_Pl_writeTo_163 := dk_go 1 a_Pl_writeTo_162 rfl
theorem a_Pl_writeTo_164 : dk_at b_Pl_writeTo 164 t_Pl_writeTo_164 := dk_go 1 a_Pl_writeTo_163 rfl
theorem a_Pl_writeTo_167 : dk_at b_Pl_writeTo 167 t_Pl_writeTo_167 := dk_go 3 a_Pl_writeTo_164 rfl
theorem a_Pl_writeTo_168 : dk_at b_Pl_writeTo 168 t_Pl_writeTo_168 := dk_go 1 a_Pl_writeTo_167 rfl
theorem a_Pl_writeTo_169 : dk_at b_Pl_writeTo 169 t_Pl_writeTo_169 := dk_go 1 a_Pl_writeTo_168 rfl
theorem a_Pl_writeTo_170 : dk_at b_Pl_writeTo 170 t_Pl_writeTo_170 := dk_go 1 a_Pl_writeTo_169 rfl
theorem a_Pl_writeTo_172 : dk_at b_Pl_writeTo 172 t_Pl_writeTo_172 := dk_go 2 a_Pl_writeTo_170 rfl
theorem a_Pl_writeTo_175 : dk_at b_Pl_writeTo 175 t_Pl_writeTo_175 := dk_go 3 a_Pl_writeTo_172 rfl
theorem a_Pl_writeTo_176 : dk_at b_Pl_writeTo 176 t_Pl_writeTo_176 := dk_go 1 a_Pl_writeTo_175 rfl
theorem a_Pl_writeTo_179 : dk_at b_Pl_writeTo 179 t_Pl_writeTo_179 := dk_go 3 a_Pl_writeTo_176 rfl
theorem a_Pl_writeTo_182 : dk_at b_Pl_writeTo 182 t_Pl_writeTo_182 := dk_go 3 a_Pl_writeTo_179 rfl
theorem a_Pl_writeTo_183 : dk_at b_Pl_writeTo 183 t_Pl_writeTo_183 := dk_go 1 a_Pl_writeTo_182 rfl
theorem d_Pl_writeTo_0 : decode b_Pl_writeTo 0 = .ok (.iconst 0, 1) := dk_0 a_Pl_writeTo_0 (dko_3 _)
theorem d_Pl_writeTo_1 : decode b_Pl_writeTo 1 = .ok (.istore_n 2, 1) := dk_0 a_Pl_writeTo_1 (dko_61 _)
theorem d_Pl_writeTo_2 : decode b_Pl_writeTo 2 = .ok (.iconst 0, 1) := dk_0 a_Pl_writeTo_2 (dko_3 _)
theorem d_Pl_writeTo_3 : decode b_Pl_writeTo 3 = .ok (.istore_n 3, 1) := dk_0 a_Pl_writeTo_3 (dko_62 _)
theorem d_Pl_writeTo_4 : decode b_Pl_writeTo 4 = .ok (.iload_n 3, 1) := dk_0 a_Pl_writeTo_4 (dko_29 _)
theorem d_Pl_writeTo_5 : decode b_Pl_writeTo 5 = .ok (.aload_n 0, 1) := dk_0 a_Pl_writeTo_5 (dko_42 _)
theorem d_Pl_writeTo_6 : decode b_Pl_writeTo 6 = .ok (.getfield 37, 3) := dk_U2 a_Pl_writeTo_6 (dko_180 _) rfl
theorem d_Pl_writeTo_9 : decode b_Pl_writeTo 9 = .ok (.if_icmp .ge 89, 3) := dk_S2 a_Pl_writeTo_9 (dko_162 _) (by decide +kernel)
theorem d_Pl_writeTo_12 : decode b_Pl_writeTo 12 = .ok (.aload_n 0, 1) := dk_0 a_Pl_writeTo_12 (dko_42 _)
theorem d_Pl_writeTo_13 : decode b_Pl_writeTo 13 = .ok (.getfield 9, 3) := dk_U2 a_Pl_writeTo_13 (dko_180 _) rfl
theorem d_Pl_writeTo_16 : decode b_Pl_writeTo 16 = .ok (.iload_n 3, 1) := dk_0 a_Pl_writeTo_16 (dko_29 _)
theorem d_Pl_writeTo_17 : decode b_Pl_writeTo 17 = .ok (.iaload, 1) := dk_0 a_Pl_writeTo_17 (dko_46 _)
theorem d_Pl_writeTo_18 : decode b_Pl_writeTo 18 = .ok (.bipush 8, 2) := dk_S1 a_Pl_writeTo_18 (dko_16 _) (by decide +kernel)
theorem d_Pl_writeTo_20 : decode b_Pl_writeTo 20 = .ok (.if_icmp .ne 14, 3) := dk_S2 a_Pl_writeTo_20 (dko_160 _) (by decide +kernel)
theorem d_Pl_writeTo_23 : decode b_Pl_writeTo 23 = .ok (.aload_n 1, 1) := dk_0 a_Pl_writeTo_23 (dko_43 _)
theorem d_Pl_writeTo_24 : decode b_Pl_writeTo 24 = .ok (.iload_n 2, 1) := dk_0 a_Pl_writeTo_24 (dko_28 _)
theorem d_Pl_writeTo_25 : decode b_Pl_writeTo 25 = .ok (.ldc 81, 2) := dk_U1 a_Pl_writeTo_25 (dko_18 _) rfl
theorem d_Pl_writeTo_27 : decode b_Pl_writeTo 27 = .ok (.invokestatic 117, 3) := dk_U2 a_Pl_writeTo_27 (dko_184 _) rfl
theorem d_Pl_writeTo_30 : decode b_Pl_writeTo 30 = .ok (.istore_n 2, 1) := dk_0 a_Pl_writeTo_30 (dko_61 _)
theorem d_Pl_writeTo_31 : decode b_Pl_writeTo 31 = .ok (.goto 53, 3) := dk_S2 a_Pl_writeTo_31 (dko_167 _) (by decide +kernel)
theorem d_Pl_writeTo_34 : decode b_Pl_writeTo 34 = .ok (.aload_n 0, 1) := dk_0 a_Pl_writeTo_34 (dko_42 _)
theorem d_Pl_writeTo_35 : decode b_Pl_writeTo 35 = .ok (.getfield 9, 3) := dk_U2 a_Pl_writeTo_35 (dko_180 _) rfl
theorem d_Pl_writeTo_38 : decode b_Pl_writeTo 38 = .ok (.iload_n 3, 1) := dk_0 a_Pl_writeTo_38 (dko_29 _)
theorem d_Pl_writeTo_39 : decode b_Pl_writeTo 39 = .ok (.iaload, 1) := dk_0 a_Pl_writeTo_39 (dko_46 _)
theorem d_Pl_writeTo_40 : decode b_Pl_writeTo 40 = .ok (.bipush 9, 2) := dk_S1 a_Pl_writeTo_40 (dko_16 _) (by decide +kernel)
theorem d_Pl_writeTo_42 : decode b_Pl_writeTo 42 = .ok (.if_icmp .ne 24, 3) := dk_S2 a_Pl_writeTo_42 (dko_160 _) (by decide +kernel)
theorem d_Pl_writeTo_45 : decode b_Pl_writeTo 45 = .ok (.aload_n 1, 1) := dk_0 a_Pl_writeTo_45 (dko_43 _)
theorem d_Pl_writeTo_46 : decode b_Pl_writeTo 46 = .ok (.aload_n 1, 1) := dk_0 a_Pl_writeTo_46 (dko_43 _)
theorem d_Pl_writeTo_47 : decode b_Pl_writeTo 47 = .ok (.iload_n 2, 1) := dk_0 a_Pl_writeTo_47 (dko_28 _)
theorem d_Pl_writeTo_48 : decode b_Pl_writeTo 48 = .ok (.ldc 59, 2) := dk_U1 a_Pl_writeTo_48 (dko_18 _) rfl
theorem d_Pl_writeTo_50 : decode b_Pl_writeTo 50 = .ok (.invokestatic 117, 3) := dk_U2 a_Pl_writeTo_50 (dko_184 _) rfl
theorem d_Pl_writeTo_53 : decode b_Pl_writeTo 53 = .ok (.aload_n 0, 1) := dk_0 a_Pl_writeTo_53 (dko_42 _)
theorem d_Pl_writeTo_54 : decode b_Pl_writeTo 54 = .ok (.getfield 15, 3) := dk_U2 a_Pl_writeTo_54 (dko_180 _) rfl
theorem d_Pl_writeTo_57 : decode b_Pl_writeTo 57 = .ok (.iload_n 3, 1) := dk_0 a_Pl_writeTo_57 (dko_29 _)
theorem d_Pl_writeTo_58 : decode b_Pl_writeTo 58 = .ok (.iaload, 1) := dk_0 a_Pl_writeTo_58 (dko_46 _)
theorem d_Pl_writeTo_59 : decode b_Pl_writeTo 59 = .ok (.invokestatic 121, 3) := dk_U2 a_Pl_writeTo_59 (dko_184 _) rfl
theorem d_Pl_writeTo_62 : decode b_Pl_writeTo 62 = .ok (.istore_n 2, 1) := dk_0 a_Pl_writeTo_62 (dko_61 _)
theorem d_Pl_writeTo_63 : decode b_Pl_writeTo 63 = .ok (.goto 21, 3) := dk_S2 a_Pl_writeTo_63 (dko_167 _) (by decide +kernel)
theorem d_Pl_writeTo_66 : decode b_Pl_writeTo 66 = .ok (.aload_n 1, 1) := dk_0 a_Pl_writeTo_66 (dko_43 _)
theorem d_Pl_writeTo_67 : decode b_Pl_writeTo 67 = .ok (.aload_n 1, 1) := dk_0 a_Pl_writeTo_67 (dko_43 _)
theorem d_Pl_writeTo_68 : decode b_Pl_writeTo 68 = .ok (.iload_n 2, 1) := dk_0 a_Pl_writeTo_68 (dko_28 _)
theorem d_Pl_writeTo_69 : decode b_Pl_writeTo 69 = .ok (.ldc 79, 2) := dk_U1 a_Pl_writeTo_69 (dko_18 _) rfl
theorem d_Pl_writeTo_71 : decode b_Pl_writeTo 71 = .ok (.invokestatic 117, 3) := dk_U2 a_Pl_writeTo_71 (dko_184 _) rfl
theorem d_Pl_writeTo_74 : decode b_Pl_writeTo 74 = .ok (.aload_n 0, 1) := dk_0 a_Pl_writeTo_74 (dko_42 _)
theorem d_Pl_writeTo_75 : decode b_Pl_writeTo 75 = .ok (.getfield 9, 3) := dk_U2 a_Pl_writeTo_75 (dko_180 _) rfl
theorem d_Pl_writeTo_78 : decode b_Pl_writeTo 78 = .ok (.iload_n 3, 1) := dk_0 a_Pl_writeTo_78 (dko_29 _)
theorem d_Pl_writeTo_79 : decode b_Pl_writeTo 79 = .ok (.iaload, 1) := dk_0 a_Pl_writeTo_79 (dko_46 _)
theorem d_Pl_writeTo_80 : decode b_Pl_writeTo 80 = .ok (.invokestatic 121, 3) := dk_U2 a_Pl_writeTo_80 (dko_184 _) rfl
theorem d_Pl_writeTo_83 : decode b_Pl_writeTo 83 = .ok (.istore_n 2, 1) := dk_0 a_Pl_writeTo_83 (dko_61 _)
theorem d_Pl_writeTo_84 : decode b_Pl_writeTo 84 = .ok (.aload_n 1, 1) := dk_0 a_Pl_writeTo_84 (dko_43 _)
theorem d_Pl_writeTo_85 : decode b_Pl_writeTo 85 = .ok (.iload_n 2, 1) := dk_0 a_Pl_writeTo_85 (dko_28 _)
theorem d_Pl_writeTo_86 : decode b_Pl_writeTo 86 = .ok (.ldc 125, 2) := dk_U1 a_Pl_writeTo_86 (dko_18 _) rfl
theorem d_Pl_writeTo_88 : decode b_Pl_writeTo 88 = .ok (.invokestatic 117, 3) := dk_U2 a_Pl_writeTo_88 (dko_184 _) rfl
theorem d_Pl_writeTo_91 : decode b_Pl_writeTo 91 = .ok (.istore_n 2, 1) := dk_0 a_Pl_writeTo_91 (dko_61 _)
theorem d_Pl_writeTo_92 : decode b_Pl_writeTo 92 = .ok (.iinc 3 1, 3) := dk_US a_Pl_writeTo_92 (dko_132 _) (by decide +kernel)
theorem d_Pl_writeTo_95 : decode b_Pl_writeTo 95 = .ok (.goto (-91), 3) := dk_S2 a_Pl_writeTo_95 (dko_167 _) (by decide +kernel)
theorem d_Pl_writeTo_98 : decode b_Pl_writeTo 98 = .ok (.iconst 0, 1) := dk_0 a_Pl_writeTo_98 (dko_3 _)
theorem d_Pl_writeTo_99 : decode b_Pl_writeTo 99 = .ok (.istore_n 3, 1) := dk_0 a_Pl_writeTo_99 (dko_62 _)
theorem d_Pl_writeTo_100 : decode b_Pl_writeTo 100 = .ok (.iload_n 3, 1) := dk_0 a_Pl_writeTo_100 (dko_29 _)
theorem d_Pl_writeTo_101 : decode b_Pl_writeTo 101 = .ok (.aload_n 0, 1) := dk_0 a_Pl_writeTo_101 (dko_42 _)
theorem d_Pl_writeTo_102 : decode b_Pl_writeTo 102 = .ok (.getfield 41, 3) := dk_U2 a_Pl_writeTo_102 (dko_180 _) rfl
theorem d_Pl_writeTo_105 : decode b_Pl_writeTo 105 = .ok (.if_icmp .ge 77, 3) := dk_S2 a_Pl_writeTo_105 (dko_162 _) (by decide +kernel)
theorem d_Pl_writeTo_108 : decode b_Pl_writeTo 108 = .ok (.aload_n 1, 1) := dk_0 a_Pl_writeTo_108 (dko_43 _)
theorem d_Pl_writeTo_109 : decode b_Pl_writeTo 109 = .ok (.aload_n 1, 1) := dk_0 a_Pl_writeTo_109 (dko_43 _)
theorem d_Pl_writeTo_110 : decode b_Pl_writeTo 110 = .ok (.iload_n 2, 1) := dk_0 a_Pl_writeTo_110 (dko_28 _)
theorem d_Pl_writeTo_111 : decode b_Pl_writeTo 111 = .ok (.ldc 83, 2) := dk_U1 a_Pl_writeTo_111 (dko_18 _) rfl
theorem d_Pl_writeTo_113 : decode b_Pl_writeTo 113 = .ok (.invokestatic 117, 3) := dk_U2 a_Pl_writeTo_113 (dko_184 _) rfl
theorem d_Pl_writeTo_116 : decode b_Pl_writeTo 116 = .ok (.aload_n 0, 1) := dk_0 a_Pl_writeTo_116 (dko_42 _)
theorem d_Pl_writeTo_117 : decode b_Pl_writeTo 117 = .ok (.getfield 24, 3) := dk_U2 a_Pl_writeTo_117 (dko_180 _) rfl
theorem d_Pl_writeTo_120 : decode b_Pl_writeTo 120 = .ok (.iconst 2, 1) := dk_0 a_Pl_writeTo_120 (dko_5 _)
theorem d_Pl_writeTo_121 : decode b_Pl_writeTo 121 = .ok (.iload_n 3, 1) := dk_0 a_Pl_writeTo_121 (dko_29 _)
theorem d_Pl_writeTo_122 : decode b_Pl_writeTo 122 = .ok (.imul, 1) := dk_0 a_Pl_writeTo_122 (dko_104 _)
theorem d_Pl_writeTo_123 : decode b_Pl_writeTo 123 = .ok (.iaload, 1) := dk_0 a_Pl_writeTo_123 (dko_46 _)
theorem d_Pl_writeTo_124 : decode b_Pl_writeTo 124 = .ok (.invokestatic 127, 3) := dk_U2 a_Pl_writeTo_124 (dko_184 _) rfl
theorem d_Pl_writeTo_127 : decode b_Pl_writeTo 127 = .ok (.istore_n 2, 1) := dk_0 a_Pl_writeTo_127 (dko_61 _)
theorem d_Pl_writeTo_128 : decode b_Pl_writeTo 128 = .ok (.aload_n 1, 1) := dk_0 a_Pl_writeTo_128 (dko_43 _)
theorem d_Pl_writeTo_129 : decode b_Pl_writeTo 129 = .ok (.aload_n 1, 1) := dk_0 a_Pl_writeTo_129 (dko_43 _)
theorem d_Pl_writeTo_130 : decode b_Pl_writeTo 130 = .ok (.iload_n 2, 1) := dk_0 a_Pl_writeTo_130 (dko_28 _)
theorem d_Pl_writeTo_131 : decode b_Pl_writeTo 131 = .ok (.ldc 91, 2) := dk_U1 a_Pl_writeTo_131 (dko_18 _) rfl
theorem d_Pl_writeTo_133 : decode b_Pl_writeTo 133 = .ok (.invokestatic 117, 3) := dk_U2 a_Pl_writeTo_133 (dko_184 _) rfl
theorem d_Pl_writeTo_136 : decode b_Pl_writeTo 136 = .ok (.aload_n 0, 1) := dk_0 a_Pl_writeTo_136 (dko_42 _)
theorem d_Pl_writeTo_137 : decode b_Pl_writeTo 137 = .ok (.getfield 24, 3) := dk_U2 a_Pl_writeTo_137 (dko_180 _) rfl
theorem d_Pl_writeTo_140 : decode b_Pl_writeTo 140 = .ok (.iconst 2, 1) := dk_0 a_Pl_writeTo_140 (dko_5 _)
theorem d_Pl_writeTo_141 : decode b_Pl_writeTo 141 = .ok (.iload_n 3, 1) := dk_0 a_Pl_writeTo_141 (dko_29 _)
theorem d_Pl_writeTo_142 : decode b_Pl_writeTo 142 = .ok (.imul, 1) := dk_0 a_Pl_writeTo_142 (dko_104 _)
theorem d_Pl_writeTo_143 : decode b_Pl_writeTo 143 = .ok (.iconst 1, 1) := dk_0 a_Pl_writeTo_143 (dko_4 _)
theorem d_Pl_writeTo_144 : decode b_Pl_writeTo 144 = .ok (.iadd, 1) := dk_0 a_Pl_writeTo_144 (dko_96 _)
theorem d_Pl_writeTo_145 : decode b_Pl_writeTo 145 = .ok (.iaload, 1) := dk_0 a_Pl_writeTo_145 (dko_46 _)
theorem d_Pl_writeTo_146 : decode b_Pl_writeTo 146 = .ok (.invokestatic 127, 3) := dk_U2 a_Pl_writeTo_146 (dko_184 _) rfl
theorem d_Pl_writeTo_149 : decode b_Pl_writeTo 149 = .ok (.istore_n 2, 1) := dk_0 a_Pl_writeTo_149 (dko_61 _)
theorem d_Pl_writeTo_150 : decode b_Pl_writeTo 150 = .ok (.aload_n 1, 1) := dk_0 a_Pl_writeTo_150 (dko_43 _)
theorem d_Pl_writeTo_151 : decode b_Pl_writeTo 151 = .ok (.aload_n 1, 1) := dk_0 a_Pl_writeTo_151 (dko_43 _)
theorem d_Pl_writeTo_152 : decode b_Pl_writeTo 152 = .ok (.iload_n 2, 1) := dk_0 a_Pl_writeTo_152 (dko_28 _)
theorem d_Pl_writeTo_153 : decode b_Pl_writeTo 153 = .ok (.ldc 91, 2) := dk_U1 a_Pl_writeTo_153 (dko_18 _) rfl
theorem d_Pl_writeTo_155 : decode b_Pl_writeTo 155 = .ok (.invokestatic 117, 3) := dk_U2 a_Pl_writeTo_155 (dko_184 _) rfl
theorem d_Pl_writeTo_158 : decode b_Pl_writeTo 158 = .ok (.aload_n 0, 1) := dk_0 a_Pl_writeTo_158 (dko_42 _)
theorem d_Pl_writeTo_159 : decode b_Pl_writeTo 159 = .ok (.getfield 21, 3) := dk_U2 a_Pl_writeTo_159 (dko_180 _) rfl
theorem d_Pl_writeTo_162 : decode b_Pl_writeTo 162 = .ok (.iload_n 3, 1) := dk_0 a_Pl_writeTo_162 (dko_29 _)
theorem d_Pl_writeTo_163 : decode b_Pl_writeTo 163 = .ok (.iaload, 1) := dk_0 a_Pl_writeTo_163 (dko_46 _)
theorem d_Pl_writeTo_164 : decode b_Pl_writeTo 164 = .ok (.invokestatic 121, 3) := dk_U2 a_Pl_writeTo_164 (dko_184 _) rfl
theorem d_Pl_writeTo_167 : decode b_Pl_writeTo 167 = .ok (.istore_n 2, 1) := dk_0 a_Pl_writeTo_167 (dko_61 _)
theorem d_Pl_writeTo_168 : decode b_Pl_writeTo 168 = .ok (.aload_n 1, 1) := dk_0 a_Pl_writeTo_168 (dko_43 _)
theorem d_Pl_writeTo_169 : decode b_Pl_writeTo 169 = .ok (.iload_n 2, 1) := dk_0 a_Pl_writeTo_169 (dko_28 _)
theorem d_Pl_writeTo_170 : decode b_Pl_writeTo 170 = .ok (.ldc 125, 2) := dk_U1 a_Pl_writeTo_170 (dko_18 _) rfl
theorem d_Pl_writeTo_172 : decode b_Pl_writeTo 172 = .ok (.invokestatic 117, 3) := dk_U2 a_Pl_writeTo_172 (dko_184 _) rfl
theorem d_Pl_writeTo_175 : decode b_Pl_writeTo 175 = .ok (.istore_n 2, 1) := dk_0 a_Pl_writeTo_175 (dko_61 _)
theorem d_Pl_writeTo_176 : decode b_Pl_writeTo 176 = .ok (.iinc 3 1, 3) := dk_US a_Pl_writeTo_176 (dko_132 _) (by decide +kernel)
theorem d_Pl_writeTo_179 : decode b_Pl_writeTo 179 = .ok (.goto (-79), 3) := dk_S2 a_Pl_writeTo_179 (dko_167 _) (by decide +kernel)
theorem d_Pl_writeTo_182 : decode b_Pl_writeTo 182 = .ok (.iload_n 2, 1) := dk_0 a_Pl_writeTo_182 (dko_28 _)
theorem d_Pl_writeTo_183 : decode b_Pl_writeTo 183 = .ok (.ireturn, 1) := dk_0 a_Pl_writeTo_183 (dko_172 _)
set_option maxHeartbeats 4000000 in
set_option maxRecDepth 100000 in
theorem ok_Pl_writeTo (pc : Nat) : OpS mt mi_Pl_writeTo pc (cs_Pl_writeTo pc) := (os_n (os_n (os_n (os_n (os_n (os_n (os_l (so_iconst d_Pl_writeTo_0 (by decide))) (os_n (os_l (so_istore_n d_Pl_writeTo_1 rfl (by decide))) (os_l (so_iconst d_Pl_writeTo_2 (by decide))))) (os_n (os_l (so_istore_n d_Pl_writeTo_3 rfl (by decide))) (os_n (os_l (so_iload_n d_Pl_writeTo_4 rfl)) (os_l (so_aload_n d_Pl_writeTo_5 rfl))))) (os_n (os_n (os_l (so_get (C := R_Pl) (T := F_Pl) (N := 12) (j := 0) in_Pl rfl (by decide) mw_86 d_Pl_writeTo_6)) (os_n (os_l (so_icge d_Pl_writeTo_9 (by decide))) (os_l (so_aload_n d_Pl_writeTo_12 rfl)))) (os_n (os_n (os_l (so_get (C := R_Pl) (T := F_Pl) (N := 12) (j := 2) in_Pl rfl (by decide) mw_96 d_Pl_writeTo_13)) (os_l (so_iload_n d_Pl_writeTo_16 rfl))) (os_n (os_l (so_iaload d_Pl_writeTo_17)) (os_l (so_bipush d_Pl_writeTo_18 (by decide))))))) (os_n (os_n (os_n (os_l (so_icne d_Pl_writeTo_20 (by decide))) (os_n (os_l (so_aload_n d_Pl_writeTo_23 rfl)) (os_l (so_iload_n d_Pl_writeTo_24 rfl)))) (os_n (os_n (os_l (so_ldcS (k := 3) (idx := 0) (q := ("BreweryHouse$Plant", 81, "pump")) (by decide +kernel) rfl d_Pl_writeTo_25)) (os_l (so_callS (iv := mi_Pl_put) rfl mw_1032 mw_1033 mw_5 mw_1034 ⟨by decide +kernel, by decide +kernel, by decide +kernel⟩ (by decide) d_Pl_writeTo_27))) (os_n (os_l (so_istore_n d_Pl_writeTo_30 rfl (by decide))) (os_l (so_goto d_Pl_writeTo_31 (by decide)))))) (os_n (os_n (os_l (so_aload_n d_Pl_writeTo_34 rfl)) (os_n (os_l (so_get (C := R_Pl) (T := F_Pl) (N := 12) (j := 2) in_Pl rfl (by decide) mw_96 d_Pl_writeTo_35)) (os_l (so_iload_n d_Pl_writeTo_38 rfl)))) (os_n (os_n (os_l (so_iaload d_Pl_writeTo_39)) (os_l (so_bipush d_Pl_writeTo_40 (by decide)))) (os_n (os_l (so_icne d_Pl_writeTo_42 (by decide))) (os_l (so_aload_n d_Pl_writeTo_45 rfl))))))) (os_n (os_n (os_n (os_n (os_l (so_aload_n d_Pl_writeTo_46 rfl)) (os_n (os_l (so_iload_n d_Pl_writeTo_47 rfl)) (os_l (so_ldcS (k := 1) (idx := 0) (q := ("BreweryHouse$Plant", 59, "tank ")) (by decide +kernel) rfl d_Pl_writeTo_48)))) (os_n (os_n (os_l (so_callS (iv := mi_Pl_put) rfl mw_1032 mw_1033 mw_5 mw_1034 ⟨by decide +kernel, by decide +kernel, by decide +kernel⟩ (by decide) d_Pl_writeTo_50)) (os_l (so_aload_n d_Pl_writeTo_53 rfl))) (os_n (os_l (so_get (C := R_Pl) (T := F_Pl) (N := 12) (j := 3) in_Pl rfl (by decide) mw_100 d_Pl_writeTo_54)) (os_l (so_iload_n d_Pl_writeTo_57 rfl))))) (os_n (os_n (os_l (so_iaload d_Pl_writeTo_58)) (os_n (os_l (so_callS (iv := mi_Pl_putNumber) rfl mw_1035 mw_1036 mw_5 mw_1037 ⟨by decide +kernel, by decide +kernel, by decide +kernel⟩ (by decide) d_Pl_writeTo_59)) (os_l (so_istore_n d_Pl_writeTo_62 rfl (by decide))))) (os_n (os_n (os_l (so_goto d_Pl_writeTo_63 (by decide))) (os_l (so_aload_n d_Pl_writeTo_66 rfl))) (os_n (os_l (so_aload_n d_Pl_writeTo_67 rfl)) (os_l (so_iload_n d_Pl_writeTo_68 rfl)))))) (os_n (os_n (os_n (os_l (so_ldcS (k := 2) (idx := 0) (q := ("BreweryHouse$Plant", 79, "valve ")) (by decide +kernel) rfl d_Pl_writeTo_69)) (os_n (os_l (so_callS (iv := mi_Pl_put) rfl mw_1032 mw_1033 mw_5 mw_1034 ⟨by decide +kernel, by decide +kernel, by decide +kernel⟩ (by decide) d_Pl_writeTo_71)) (os_l (so_aload_n d_Pl_writeTo_74 rfl)))) (os_n (os_n (os_l (so_get (C := R_Pl) (T := F_Pl) (N := 12) (j := 2) in_Pl rfl (by decide) mw_96 d_Pl_writeTo_75)) (os_l (so_iload_n d_Pl_writeTo_78 rfl))) (os_n (os_l (so_iaload d_Pl_writeTo_79)) (os_l (so_callS (iv := mi_Pl_putNumber) rfl mw_1035 mw_1036 mw_5 mw_1037 ⟨by decide +kernel, by decide +kernel, by decide +kernel⟩ (by decide) d_Pl_writeTo_80))))) (os_n (os_n (os_l (so_istore_n d_Pl_writeTo_83 rfl (by decide))) (os_n (os_l (so_aload_n d_Pl_writeTo_84 rfl)) (os_l (so_iload_n d_Pl_writeTo_85 rfl)))) (os_n (os_n (os_l (so_ldcS (k := 16) (idx := 0) (q := ("BreweryHouse$Plant", 125, "\n")) (by decide +kernel) rfl d_Pl_writeTo_86)) (os_l (so_callS (iv := mi_Pl_put) rfl mw_1032 mw_1033 mw_5 mw_1034 ⟨by decide +kernel, by decide +kernel, by decide +kernel⟩ (by decide) d_Pl_writeTo_88))) (os_n (os_l (so_istore_n d_Pl_writeTo_91 rfl (by decide))) (os_l (so_iinc d_Pl_writeTo_92 (by decide) (by decide))))))))) (os_n (os_n (os_n (os_n (os_n (os_l (so_goto d_Pl_writeTo_95 (by decide))) (os_n (os_l (so_iconst d_Pl_writeTo_98 (by decide))) (os_l (so_istore_n d_Pl_writeTo_99 rfl (by decide))))) (os_n (os_l (so_iload_n d_Pl_writeTo_100 rfl)) (os_n (os_l (so_aload_n d_Pl_writeTo_101 rfl)) (os_l (so_get (C := R_Pl) (T := F_Pl) (N := 12) (j := 1) in_Pl rfl (by decide) mw_92 d_Pl_writeTo_102))))) (os_n (os_n (os_l (so_icge d_Pl_writeTo_105 (by decide))) (os_n (os_l (so_aload_n d_Pl_writeTo_108 rfl)) (os_l (so_aload_n d_Pl_writeTo_109 rfl)))) (os_n (os_n (os_l (so_iload_n d_Pl_writeTo_110 rfl)) (os_l (so_ldcS (k := 4) (idx := 0) (q := ("BreweryHouse$Plant", 83, "pipe ")) (by decide +kernel) rfl d_Pl_writeTo_111))) (os_n (os_l (so_callS (iv := mi_Pl_put) rfl mw_1032 mw_1033 mw_5 mw_1034 ⟨by decide +kernel, by decide +kernel, by decide +kernel⟩ (by decide) d_Pl_writeTo_113)) (os_l (so_aload_n d_Pl_writeTo_116 rfl)))))) (os_n (os_n (os_n (os_l (so_get (C := R_Pl) (T := F_Pl) (N := 12) (j := 6) in_Pl rfl (by decide) mw_108 d_Pl_writeTo_117)) (os_n (os_l (so_iconst d_Pl_writeTo_120 (by decide))) (os_l (so_iload_n d_Pl_writeTo_121 rfl)))) (os_n (os_n (os_l (so_imul d_Pl_writeTo_122)) (os_l (so_iaload d_Pl_writeTo_123))) (os_n (os_l (so_callS (iv := mi_Pl_putPipeEnd) rfl mw_1039 mw_1040 mw_5 mw_1041 ⟨by decide +kernel, by decide +kernel, by decide +kernel⟩ (by decide) d_Pl_writeTo_124)) (os_l (so_istore_n d_Pl_writeTo_127 rfl (by decide)))))) (os_n (os_n (os_l (so_aload_n d_Pl_writeTo_128 rfl)) (os_n (os_l (so_aload_n d_Pl_writeTo_129 rfl)) (os_l (so_iload_n d_Pl_writeTo_130 rfl)))) (os_n (os_n (os_l (so_ldcS (k := 5) (idx := 0) (q := ("BreweryHouse$Plant", 91, " ")) (by decide +kernel) rfl d_Pl_writeTo_131)) (os_l (so_callS (iv := mi_Pl_put) rfl mw_1032 mw_1033 mw_5 mw_1034 ⟨by decide +kernel, by decide +kernel, by decide +kernel⟩ (by decide) d_Pl_writeTo_133))) (os_n (os_l (so_aload_n d_Pl_writeTo_136 rfl)) (os_l (so_get (C := R_Pl) (T := F_Pl) (N := 12) (j := 6) in_Pl rfl (by decide) mw_108 d_Pl_writeTo_137))))))) (os_n (os_n (os_n (os_n (os_l (so_iconst d_Pl_writeTo_140 (by decide))) (os_n (os_l (so_iload_n d_Pl_writeTo_141 rfl)) (os_l (so_imul d_Pl_writeTo_142)))) (os_n (os_n (os_l (so_iconst d_Pl_writeTo_143 (by decide))) (os_l (so_iadd d_Pl_writeTo_144))) (os_n (os_l (so_iaload d_Pl_writeTo_145)) (os_l (so_callS (iv := mi_Pl_putPipeEnd) rfl mw_1039 mw_1040 mw_5 mw_1041 ⟨by decide +kernel, by decide +kernel, by decide +kernel⟩ (by decide) d_Pl_writeTo_146))))) (os_n (os_n (os_l (so_istore_n d_Pl_writeTo_149 rfl (by decide))) (os_n (os_l (so_aload_n d_Pl_writeTo_150 rfl)) (os_l (so_aload_n d_Pl_writeTo_151 rfl)))) (os_n (os_n (os_l (so_iload_n d_Pl_writeTo_152 rfl)) (os_l (so_ldcS (k := 5) (idx := 0) (q := ("BreweryHouse$Plant", 91, " ")) (by decide +kernel) rfl d_Pl_writeTo_153))) (os_n (os_l (so_callS (iv := mi_Pl_put) rfl mw_1032 mw_1033 mw_5 mw_1034 ⟨by decide +kernel, by decide +kernel, by decide +kernel⟩ (by decide) d_Pl_writeTo_155)) (os_l (so_aload_n d_Pl_writeTo_158 rfl)))))) (os_n (os_n (os_n (os_l (so_get (C := R_Pl) (T := F_Pl) (N := 12) (j := 5) in_Pl rfl (by decide) mw_105 d_Pl_writeTo_159)) (os_n (os_l (so_iload_n d_Pl_writeTo_162 rfl)) (os_l (so_iaload d_Pl_writeTo_163)))) (os_n (os_n (os_l (so_callS (iv := mi_Pl_putNumber) rfl mw_1035 mw_1036 mw_5 mw_1037 ⟨by decide +kernel, by decide +kernel, by decide +kernel⟩ (by decide) d_Pl_writeTo_164)) (os_l (so_istore_n d_Pl_writeTo_167 rfl (by decide)))) (os_n (os_l (so_aload_n d_Pl_writeTo_168 rfl)) (os_l (so_iload_n d_Pl_writeTo_169 rfl))))) (os_n (os_n (os_l (so_ldcS (k := 16) (idx := 0) (q := ("BreweryHouse$Plant", 125, "\n")) (by decide +kernel) rfl d_Pl_writeTo_170)) (os_n (os_l (so_callS (iv := mi_Pl_put) rfl mw_1032 mw_1033 mw_5 mw_1034 ⟨by decide +kernel, by decide +kernel, by decide +kernel⟩ (by decide) d_Pl_writeTo_172)) (os_l (so_istore_n d_Pl_writeTo_175 rfl (by decide))))) (os_n (os_n (os_l (so_iinc d_Pl_writeTo_176 (by decide) (by decide))) (os_l (so_goto d_Pl_writeTo_179 (by decide)))) (os_n (os_l (so_iload_n d_Pl_writeTo_182 rfl)) (os_l (so_ireturn rfl d_Pl_writeTo_183)))))))))
abbrev t_Pl_put_40 : List UInt8 := 172 :: []
abbrev t_Pl_put_39 : List UInt8 := 29 :: t_Pl_put_40
abbrev t_Pl_put_36 : List UInt8 := 167 :: 255 :: 225 :: t_Pl_put_39
abbrev t_Pl_put_33 : List UInt8 := 132 :: 4 :: 1 :: t_Pl_put_36
abbrev t_Pl_put_30 : List UInt8 := 132 :: 3 :: 1 :: t_Pl_put_33
abbrev t_Pl_put_29 : List UInt8 := 84 :: t_Pl_put_30
abbrev t_Pl_put_28 : List UInt8 := 145 :: t_Pl_put_29
abbrev t_Pl_put_25 : List UInt8 := 182 :: 0 :: 103 :: t_Pl_put_28
abbrev t_Pl_put_23 : List UInt8 := 21 :: 4 :: t_Pl_put_25
abbrev t_Pl_put_22 : List UInt8 := 44 :: t_Pl_put_23
abbrev t_Pl_put_21 : List UInt8 := 29 :: t_Pl_put_22
abbrev t_Pl_put_20 : List UInt8 := 42 :: t_Pl_put_21
abbrev t_Pl_put_17 : List UInt8 := 162 :: 0 :: 22 :: t_Pl_put_20
abbrev t_Pl_put_16 : List UInt8 := 190 :: t_Pl_put_17
abbrev t_Pl_put_15 : List UInt8 := 42 :: t_Pl_put_16
abbrev t_Pl_put_14 : List UInt8 := 29 :: t_Pl_put_15
abbrev t_Pl_put_11 : List UInt8 := 162 :: 0 :: 28 :: t_Pl_put_14
abbrev t_Pl_put_8 : List UInt8 := 182 :: 0 :: 97 :: t_Pl_put_11
abbrev t_Pl_put_7 : List UInt8 := 44 :: t_Pl_put_8
abbrev t_Pl_put_5 : List UInt8 := 21 :: 4 :: t_Pl_put_7
abbrev t_Pl_put_3 : List UInt8 := 54 :: 4 :: t_Pl_put_5
abbrev t_Pl_put_2 : List UInt8 := 3 :: t_Pl_put_3
abbrev t_Pl_put_1 : List UInt8 := 62 :: t_Pl_put_2
abbrev t_Pl_put_0 : List UInt8 := 27 :: t_Pl_put_1
theorem a_Pl_put_0 : dk_at b_Pl_put 0 t_Pl_put_0 := dk_start (by decide +kernel)
theorem a_Pl_put_1 : dk_at b_Pl_put 1 t_Pl_put_1 := dk_go 1 a_Pl_put_0 rfl
theorem a_Pl_put_2 : dk_at b_Pl_put 2 t_Pl_put_2 := dk_go 1 a_Pl_put_1 rfl
theorem a_Pl_put_3 : dk_at b_Pl_put 3 t_Pl_put_3 := dk_go 1 a_Pl_put_2 rfl
theorem a_Pl_put_5 : dk_at b_Pl_put 5 t_Pl_put_5 := dk_go 2 a_Pl_put_3 rfl
theorem a_Pl_put_7 : dk_at b_Pl_put 7 t_Pl_put_7 := dk_go 2 a_Pl_put_5 rfl
theorem a_Pl_put_8 : dk_at b_Pl_put 8 t_Pl_put_8 := dk_go 1 a_Pl_put_7 rfl
theorem a_Pl_put_11 : dk_at b_Pl_put 11 t_Pl_put_11 := dk_go 3 a_Pl_put_8 rfl
theorem a_Pl_put_14 : dk_at b_Pl_put 14 t_Pl_put_14 := dk_go 3 a_Pl_put_11 rfl
theorem a_Pl_put_15 : dk_at b_Pl_put 15 t_Pl_put_15 := dk_go 1 a_Pl_put_14 rfl
theorem a_Pl_put_16 : dk_at b_Pl_put 16 t_Pl_put_16 := dk_go 1 a_Pl_put_15 rfl
theorem a_Pl_put_17 : dk_at b_Pl_put 17 t_Pl_put_17 := dk_go 1 a_Pl_put_16 rfl
theorem a_Pl_put_20 : dk_at b_Pl_put 20 t_Pl_put_20 := dk_go 3 a_Pl_put_17 rfl
theorem a_Pl_put_21 : dk_at b_Pl_put 21 t_Pl_put_21 := dk_go 1 a_Pl_put_20 rfl
theorem a_Pl_put_22 : dk_at b_Pl_put 22 t_Pl_put_22 := dk_go 1 a_Pl_put_21 rfl
theorem a_Pl_put_23 : dk_at b_Pl_put 23 t_Pl_put_23 := dk_go 1 a_Pl_put_22 rfl
theorem a_Pl_put_25 : dk_at b_Pl_put 25 t_Pl_put_25 := dk_go 2 a_Pl_put_23 rfl
theorem a_Pl_put_28 : dk_at b_Pl_put 28 t_Pl_put_28 := dk_go 3 a_Pl_put_25 rfl
theorem a_Pl_put_29 : dk_at b_Pl_put 29 t_Pl_put_29 := dk_go 1 a_Pl_put_28 rfl
theorem a_Pl_put_30 : dk_at b_Pl_put 30 t_Pl_put_30 := dk_go 1 a_Pl_put_29 rfl
theorem a_Pl_put_33 : dk_at b_Pl_put 33 t_Pl_put_33 := dk_go 3 a_Pl_put_30 rfl
theorem a_Pl_put_36 : dk_at b_Pl_put 36 t_Pl_put_36 := dk_go 3 a_Pl_put_33 rfl
theorem a_Pl_put_39 : dk_at b_Pl_put 39 t_Pl_put_39 := dk_go 3 a_Pl_put_36 rfl
theorem a_Pl_put_40 : dk_at b_Pl_put 40 t_Pl_put_40 := dk_go 1 a_Pl_put_39 rfl
theorem d_Pl_put_0 : decode b_Pl_put 0 = .ok (.iload_n 1, 1) := dk_0 a_Pl_put_0 (dko_27 _)
theorem d_Pl_put_1 : decode b_Pl_put 1 = .ok (.istore_n 3, 1) := dk_0 a_Pl_put_1 (dko_62 _)
theorem d_Pl_put_2 : decode b_Pl_put 2 = .ok (.iconst 0, 1) := dk_0 a_Pl_put_2 (dko_3 _)
theorem d_Pl_put_3 : decode b_Pl_put 3 = .ok (.istore 4, 2) := dk_U1 a_Pl_put_3 (dko_54 _) rfl
theorem d_Pl_put_5 : decode b_Pl_put 5 = .ok (.iload 4, 2) := dk_U1 a_Pl_put_5 (dko_21 _) rfl
theorem d_Pl_put_7 : decode b_Pl_put 7 = .ok (.aload_n 2, 1) := dk_0 a_Pl_put_7 (dko_44 _)
theorem d_Pl_put_8 : decode b_Pl_put 8 = .ok (.invokevirtual 97, 3) := dk_U2 a_Pl_put_8 (dko_182 _) rfl
theorem d_Pl_put_11 : decode b_Pl_put 11 = .ok (.if_icmp .ge 28, 3) := dk_S2 a_Pl_put_11 (dko_162 _) (by decide +kernel)
theorem d_Pl_put_14 : decode b_Pl_put 14 = .ok (.iload_n 3, 1) := dk_0 a_Pl_put_14 (dko_29 _)
theorem d_Pl_put_15 : decode b_Pl_put 15 = .ok (.aload_n 0, 1) := dk_0 a_Pl_put_15 (dko_42 _)
theorem d_Pl_put_16 : decode b_Pl_put 16 = .ok (.arraylength, 1) := dk_0 a_Pl_put_16 (dko_190 _)
theorem d_Pl_put_17 : decode b_Pl_put 17 = .ok (.if_icmp .ge 22, 3) := dk_S2 a_Pl_put_17 (dko_162 _) (by decide +kernel)
theorem d_Pl_put_20 : decode b_Pl_put 20 = .ok (.aload_n 0, 1) := dk_0 a_Pl_put_20 (dko_42 _)
theorem d_Pl_put_21 : decode b_Pl_put 21 = .ok (.iload_n 3, 1) := dk_0 a_Pl_put_21 (dko_29 _)
theorem d_Pl_put_22 : decode b_Pl_put 22 = .ok (.aload_n 2, 1) := dk_0 a_Pl_put_22 (dko_44 _)
theorem d_Pl_put_23 : decode b_Pl_put 23 = .ok (.iload 4, 2) := dk_U1 a_Pl_put_23 (dko_21 _) rfl
theorem d_Pl_put_25 : decode b_Pl_put 25 = .ok (.invokevirtual 103, 3) := dk_U2 a_Pl_put_25 (dko_182 _) rfl
theorem d_Pl_put_28 : decode b_Pl_put 28 = .ok (.i2b, 1) := dk_0 a_Pl_put_28 (dko_145 _)
theorem d_Pl_put_29 : decode b_Pl_put 29 = .ok (.bastore, 1) := dk_0 a_Pl_put_29 (dko_84 _)
theorem d_Pl_put_30 : decode b_Pl_put 30 = .ok (.iinc 3 1, 3) := dk_US a_Pl_put_30 (dko_132 _) (by decide +kernel)
theorem d_Pl_put_33 : decode b_Pl_put 33 = .ok (.iinc 4 1, 3) := dk_US a_Pl_put_33 (dko_132 _) (by decide +kernel)
theorem d_Pl_put_36 : decode b_Pl_put 36 = .ok (.goto (-31), 3) := dk_S2 a_Pl_put_36 (dko_167 _) (by decide +kernel)
theorem d_Pl_put_39 : decode b_Pl_put 39 = .ok (.iload_n 3, 1) := dk_0 a_Pl_put_39 (dko_29 _)
theorem d_Pl_put_40 : decode b_Pl_put 40 = .ok (.ireturn, 1) := dk_0 a_Pl_put_40 (dko_172 _)
set_option maxHeartbeats 4000000 in
set_option maxRecDepth 100000 in
theorem ok_Pl_put (pc : Nat) : OpS mt mi_Pl_put pc (cs_Pl_put pc) := (os_n (os_n (os_n (os_n (os_l (so_iload_n d_Pl_put_0 rfl)) (os_n (os_l (so_istore_n d_Pl_put_1 rfl (by decide))) (os_l (so_iconst d_Pl_put_2 (by decide))))) (os_n (os_l (so_istore d_Pl_put_3 (by decide))) (os_n (os_l (so_iload d_Pl_put_5)) (os_l (so_aload_n d_Pl_put_7 rfl))))) (os_n (os_n (os_l (so_slen mw_771 mw_585 mw_586 mw_14 mw_587 d_Pl_put_8)) (os_n (os_l (so_icge d_Pl_put_11 (by decide))) (os_l (so_iload_n d_Pl_put_14 rfl)))) (os_n (os_l (so_aload_n d_Pl_put_15 rfl)) (os_n (os_l (so_alen d_Pl_put_16)) (os_l (so_icge d_Pl_put_17 (by decide))))))) (os_n (os_n (os_n (os_l (so_aload_n d_Pl_put_20 rfl)) (os_n (os_l (so_iload_n d_Pl_put_21 rfl)) (os_l (so_aload_n d_Pl_put_22 rfl)))) (os_n (os_l (so_iload d_Pl_put_23)) (os_n (os_l (so_schr mw_772 mw_595 mw_596 mw_14 mw_597 d_Pl_put_25)) (os_l (so_i2b d_Pl_put_28))))) (os_n (os_n (os_l (so_bastore d_Pl_put_29)) (os_n (os_l (so_iinc d_Pl_put_30 (by decide) (by decide))) (os_l (so_iinc d_Pl_put_33 (by decide) (by decide))))) (os_n (os_l (so_goto d_Pl_put_36 (by decide))) (os_n (os_l (so_iload_n d_Pl_put_39 rfl)) (os_l (so_ireturn rfl d_Pl_put_40)))))))
abbrev t_Pl_putPipeEnd_21 : List UInt8 := 172 :: []
abbrev t_Pl_putPipeEnd_18 : List UInt8 := 184 :: 0 :: 121 :: t_Pl_putPipeEnd_21
abbrev t_Pl_putPipeEnd_17 : List UInt8 := 28 :: t_Pl_putPipeEnd_18
abbrev t_Pl_putPipeEnd_16 : List UInt8 := 27 :: t_Pl_putPipeEnd_17
abbrev t_Pl_putPipeEnd_15 : List UInt8 := 42 :: t_Pl_putPipeEnd_16
abbrev t_Pl_putPipeEnd_12 : List UInt8 := 167 :: 0 :: 9 :: t_Pl_putPipeEnd_15
abbrev t_Pl_putPipeEnd_9 : List UInt8 := 184 :: 0 :: 117 :: t_Pl_putPipeEnd_12
abbrev t_Pl_putPipeEnd_7 : List UInt8 := 18 :: 130 :: t_Pl_putPipeEnd_9
abbrev t_Pl_putPipeEnd_6 : List UInt8 := 27 :: t_Pl_putPipeEnd_7
abbrev t_Pl_putPipeEnd_5 : List UInt8 := 42 :: t_Pl_putPipeEnd_6
abbrev t_Pl_putPipeEnd_2 : List UInt8 := 160 :: 0 :: 13 :: t_Pl_putPipeEnd_5
abbrev t_Pl_putPipeEnd_1 : List UInt8 := 2 :: t_Pl_putPipeEnd_2
abbrev t_Pl_putPipeEnd_0 : List UInt8 := 28 :: t_Pl_putPipeEnd_1
theorem a_Pl_putPipeEnd_0 : dk_at b_Pl_putPipeEnd 0 t_Pl_putPipeEnd_0 := dk_start (by decide +kernel)
theorem a_Pl_putPipeEnd_1 : dk_at b_Pl_putPipeEnd 1 t_Pl_putPipeEnd_1 := dk_go 1 a_Pl_putPipeEnd_0 rfl
theorem a_Pl_putPipeEnd_2 : dk_at b_Pl_putPipeEnd 2 t_Pl_putPipeEnd_2 := dk_go 1 a_Pl_putPipeEnd_1 rfl
theorem a_Pl_putPipeEnd_5 : dk_at b_Pl_putPipeEnd 5 t_Pl_putPipeEnd_5 := dk_go 3 a_Pl_putPipeEnd_2 rfl
theorem a_Pl_putPipeEnd_6 : dk_at b_Pl_putPipeEnd 6 t_Pl_putPipeEnd_6 := dk_go 1 a_Pl_putPipeEnd_5 rfl
theorem a_Pl_putPipeEnd_7 : dk_at b_Pl_putPipeEnd 7 t_Pl_putPipeEnd_7 := dk_go 1 a_Pl_putPipeEnd_6 rfl
theorem a_Pl_putPipeEnd_9 : dk_at b_Pl_putPipeEnd 9 t_Pl_putPipeEnd_9 := dk_go 2 a_Pl_putPipeEnd_7 rfl
theorem a_Pl_putPipeEnd_12 : dk_at b_Pl_putPipeEnd 12 t_Pl_putPipeEnd_12 := dk_go 3 a_Pl_putPipeEnd_9 rfl
theorem a_Pl_putPipeEnd_15 : dk_at b_Pl_putPipeEnd 15 t_Pl_putPipeEnd_15 := dk_go 3 a_Pl_putPipeEnd_12 rfl
theorem a_Pl_putPipeEnd_16 : dk_at b_Pl_putPipeEnd 16 t_Pl_putPipeEnd_16 := dk_go 1 a_Pl_putPipeEnd_15 rfl
theorem a_Pl_putPipeEnd_17 : dk_at b_Pl_putPipeEnd 17 t_Pl_putPipeEnd_17 := dk_go 1 a_Pl_putPipeEnd_16 rfl
theorem a_Pl_putPipeEnd_18 : dk_at b_Pl_putPipeEnd 18 t_Pl_putPipeEnd_18 := dk_go 1 a_Pl_putPipeEnd_17 rfl
theorem a_Pl_putPipeEnd_21 : dk_at b_Pl_putPipeEnd 21 t_Pl_putPipeEnd_21 := dk_go 3 a_Pl_putPipeEnd_18 rfl
theorem d_Pl_putPipeEnd_0 : decode b_Pl_putPipeEnd 0 = .ok (.iload_n 2, 1) := dk_0 a_Pl_putPipeEnd_0 (dko_28 _)
theorem d_Pl_putPipeEnd_1 : decode b_Pl_putPipeEnd 1 = .ok (.iconst (-1), 1) := dk_0 a_Pl_putPipeEnd_1 (dko_2 _)
theorem d_Pl_putPipeEnd_2 : decode b_Pl_putPipeEnd 2 = .ok (.if_icmp .ne 13, 3) := dk_S2 a_Pl_putPipeEnd_2 (dko_160 _) (by decide +kernel)
theorem d_Pl_putPipeEnd_5 : decode b_Pl_putPipeEnd 5 = .ok (.aload_n 0, 1) := dk_0 a_Pl_putPipeEnd_5 (dko_42 _)
theorem d_Pl_putPipeEnd_6 : decode b_Pl_putPipeEnd 6 = .ok (.iload_n 1, 1) := dk_0 a_Pl_putPipeEnd_6 (dko_27 _)
theorem d_Pl_putPipeEnd_7 : decode b_Pl_putPipeEnd 7 = .ok (.ldc 130, 2) := dk_U1 a_Pl_putPipeEnd_7 (dko_18 _) rfl
theorem d_Pl_putPipeEnd_9 : decode b_Pl_putPipeEnd 9 = .ok (.invokestatic 117, 3) := dk_U2 a_Pl_putPipeEnd_9 (dko_184 _) rfl
theorem d_Pl_putPipeEnd_12 : decode b_Pl_putPipeEnd 12 = .ok (.goto 9, 3) := dk_S2 a_Pl_putPipeEnd_12 (dko_167 _) (by decide +kernel)
theorem d_Pl_putPipeEnd_15 : decode b_Pl_putPipeEnd 15 = .ok (.aload_n 0, 1) := dk_0 a_Pl_putPipeEnd_15 (dko_42 _)
theorem d_Pl_putPipeEnd_16 : decode b_Pl_putPipeEnd 16 = .ok (.iload_n 1, 1) := dk_0 a_Pl_putPipeEnd_16 (dko_27 _)
theorem d_Pl_putPipeEnd_17 : decode b_Pl_putPipeEnd 17 = .ok (.iload_n 2, 1) := dk_0 a_Pl_putPipeEnd_17 (dko_28 _)
theorem d_Pl_putPipeEnd_18 : decode b_Pl_putPipeEnd 18 = .ok (.invokestatic 121, 3) := dk_U2 a_Pl_putPipeEnd_18 (dko_184 _) rfl
theorem d_Pl_putPipeEnd_21 : decode b_Pl_putPipeEnd 21 = .ok (.ireturn, 1) := dk_0 a_Pl_putPipeEnd_21 (dko_172 _)
set_option maxHeartbeats 4000000 in
set_option maxRecDepth 100000 in
theorem ok_Pl_putPipeEnd (pc : Nat) : OpS mt mi_Pl_putPipeEnd pc (cs_Pl_putPipeEnd pc) := (os_n (os_n (os_n (os_l (so_iload_n d_Pl_putPipeEnd_0 rfl)) (os_n (os_l (so_iconst d_Pl_putPipeEnd_1 (by decide))) (os_l (so_icne d_Pl_putPipeEnd_2 (by decide))))) (os_n (os_l (so_aload_n d_Pl_putPipeEnd_5 rfl)) (os_n (os_l (so_iload_n d_Pl_putPipeEnd_6 rfl)) (os_l (so_ldcS (k := 17) (idx := 0) (q := ("BreweryHouse$Plant", 130, "-")) (by decide +kernel) rfl d_Pl_putPipeEnd_7))))) (os_n (os_n (os_l (so_callS (iv := mi_Pl_put) rfl mw_1032 mw_1033 mw_5 mw_1034 ⟨by decide +kernel, by decide +kernel, by decide +kernel⟩ (by decide) d_Pl_putPipeEnd_9)) (os_n (os_l (so_goto d_Pl_putPipeEnd_12 (by decide))) (os_l (so_aload_n d_Pl_putPipeEnd_15 rfl)))) (os_n (os_n (os_l (so_iload_n d_Pl_putPipeEnd_16 rfl)) (os_l (so_iload_n d_Pl_putPipeEnd_17 rfl))) (os_n (os_l (so_callS (iv := mi_Pl_putNumber) rfl mw_1035 mw_1036 mw_5 mw_1037 ⟨by decide +kernel, by decide +kernel, by decide +kernel⟩ (by decide) d_Pl_putPipeEnd_18)) (os_l (so_ireturn rfl d_Pl_putPipeEnd_21))))))
abbrev t_Pl_putNumber_66 : List UInt8 := 172 :: []
abbrev t_Pl_putNumber_64 : List UInt8 := 21 :: 4 :: t_Pl_putNumber_66
abbrev t_Pl_putNumber_61 : List UInt8 := 167 :: 255 :: 222 :: t_Pl_putNumber_64
abbrev t_Pl_putNumber_60 : List UInt8 := 62 :: t_Pl_putNumber_61
abbrev t_Pl_putNumber_59 : List UInt8 := 108 :: t_Pl_putNumber_60
abbrev t_Pl_putNumber_57 : List UInt8 := 16 :: 10 :: t_Pl_putNumber_59
abbrev t_Pl_putNumber_56 : List UInt8 := 29 :: t_Pl_putNumber_57
abbrev t_Pl_putNumber_53 : List UInt8 := 132 :: 4 :: 1 :: t_Pl_putNumber_56
abbrev t_Pl_putNumber_52 : List UInt8 := 84 :: t_Pl_putNumber_53
abbrev t_Pl_putNumber_51 : List UInt8 := 145 :: t_Pl_putNumber_52
abbrev t_Pl_putNumber_50 : List UInt8 := 96 :: t_Pl_putNumber_51
abbrev t_Pl_putNumber_49 : List UInt8 := 112 :: t_Pl_putNumber_50
abbrev t_Pl_putNumber_47 : List UInt8 := 16 :: 10 :: t_Pl_putNumber_49
abbrev t_Pl_putNumber_46 : List UInt8 := 108 :: t_Pl_putNumber_47
abbrev t_Pl_putNumber_45 : List UInt8 := 29 :: t_Pl_putNumber_46
abbrev t_Pl_putNumber_44 : List UInt8 := 28 :: t_Pl_putNumber_45
abbrev t_Pl_putNumber_42 : List UInt8 := 16 :: 48 :: t_Pl_putNumber_44
abbrev t_Pl_putNumber_40 : List UInt8 := 21 :: 4 :: t_Pl_putNumber_42
abbrev t_Pl_putNumber_39 : List UInt8 := 42 :: t_Pl_putNumber_40
abbrev t_Pl_putNumber_36 : List UInt8 := 162 :: 0 :: 28 :: t_Pl_putNumber_39
abbrev t_Pl_putNumber_35 : List UInt8 := 190 :: t_Pl_putNumber_36
abbrev t_Pl_putNumber_34 : List UInt8 := 42 :: t_Pl_putNumber_35
abbrev t_Pl_putNumber_32 : List UInt8 := 21 :: 4 :: t_Pl_putNumber_34
abbrev t_Pl_putNumber_29 : List UInt8 := 161 :: 0 :: 35 :: t_Pl_putNumber_32
abbrev t_Pl_putNumber_28 : List UInt8 := 4 :: t_Pl_putNumber_29
abbrev t_Pl_putNumber_27 : List UInt8 := 29 :: t_Pl_putNumber_28
abbrev t_Pl_putNumber_25 : List UInt8 := 54 :: 4 :: t_Pl_putNumber_27
abbrev t_Pl_putNumber_24 : List UInt8 := 27 :: t_Pl_putNumber_25
abbrev t_Pl_putNumber_21 : List UInt8 := 167 :: 255 :: 237 :: t_Pl_putNumber_24
abbrev t_Pl_putNumber_20 : List UInt8 := 62 :: t_Pl_putNumber_21
abbrev t_Pl_putNumber_19 : List UInt8 := 104 :: t_Pl_putNumber_20
abbrev t_Pl_putNumber_17 : List UInt8 := 16 :: 10 :: t_Pl_putNumber_19
abbrev t_Pl_putNumber_16 : List UInt8 := 29 :: t_Pl_putNumber_17
abbrev t_Pl_putNumber_13 : List UInt8 := 161 :: 0 :: 11 :: t_Pl_putNumber_16
abbrev t_Pl_putNumber_11 : List UInt8 := 16 :: 10 :: t_Pl_putNumber_13
abbrev t_Pl_putNumber_10 : List UInt8 := 108 :: t_Pl_putNumber_11
abbrev t_Pl_putNumber_9 : List UInt8 := 29 :: t_Pl_putNumber_10
abbrev t_Pl_putNumber_8 : List UInt8 := 28 :: t_Pl_putNumber_9
abbrev t_Pl_putNumber_5 : List UInt8 := 163 :: 0 :: 19 :: t_Pl_putNumber_8
abbrev t_Pl_putNumber_3 : List UInt8 := 18 :: 74 :: t_Pl_putNumber_5
abbrev t_Pl_putNumber_2 : List UInt8 := 29 :: t_Pl_putNumber_3
abbrev t_Pl_putNumber_1 : List UInt8 := 62 :: t_Pl_putNumber_2
abbrev t_Pl_putNumber_0 : List UInt8 := 4 :: t_Pl_putNumber_1
theorem a_Pl_putNumber_0 : dk_at b_Pl_putNumber 0 t_Pl_putNumber_0 := dk_start (by decide +kernel)
theorem a_Pl_putNumber_1 : dk_at b_Pl_putNumber 1 t_Pl_putNumber_1 := dk_go 1 a_Pl_putNumber_0 rfl
theorem a_Pl_putNumber_2 : dk_at b_Pl_putNumber 2 t_Pl_putNumber_2 := dk_go 1 a_Pl_putNumber_1 rfl
theorem a_Pl_putNumber_3 : dk_at b_Pl_putNumber 3 t_Pl_putNumber_3 := dk_go 1 a_Pl_putNumber_2 rfl
theorem a_Pl_putNumber_5 : dk_at b_Pl_putNumber 5 t_Pl_putNumber_5 := dk_go 2 a_Pl_putNumber_3 rfl
theorem a_Pl_putNumber_8 : dk_at b_Pl_putNumber 8 t_Pl_putNumber_8 := dk_go 3 a_Pl_putNumber_5 rfl
theorem a_Pl_putNumber_9 : dk_at b_Pl_putNumber 9 t_Pl_putNumber_9 := dk_go 1 a_Pl_putNumber_8 rfl
theorem a_Pl_putNumber_10 : dk_at b_Pl_putNumber 10 t_Pl_putNumber_10 := dk_go 1 a_Pl_putNumber_9 rfl
theorem a_Pl_putNumber_11 : dk_at b_Pl_putNumber 11 t_Pl_putNumber_11 := dk_go 1 a_Pl_putNumber_10 rfl
theorem a_Pl_putNumber_13 : dk_at b_Pl_putNumber 13 t_Pl_putNumber_13 := dk_go 2 a_Pl_putNumber_11 rfl
theorem a_Pl_putNumber_16 : dk_at b_Pl_putNumber 16 t_Pl_putNumber_16 := dk_go 3 a_Pl_putNumber_13 rfl
theorem a_Pl_putNumber_17 : dk_at b_Pl_putNumber 17 t_Pl_putNumber_17 := dk_go 1 a_Pl_putNumber_16 rfl
theorem a_Pl_putNumber_19 : dk_at b_Pl_putNumber 19 t_Pl_putNumber_19 := dk_go 2 a_Pl_putNumber_17 rfl
theorem a_Pl_putNumber_20 : dk_at b_Pl_putNumber 20 t_Pl_putNumber_20 := dk_go 1 a_Pl_putNumber_19 rfl
theorem a_Pl_putNumber_21 : dk_at b_Pl_putNumber 21 t_Pl_putNumber_21 := dk_go 1 a_Pl_putNumber_20 rfl
theorem a_Pl_putNumber_24 : dk_at b_Pl_putNumber 24 t_Pl_putNumber_24 := dk_go 3 a_Pl_putNumber_21 rfl
theorem a_Pl_putNumber_25 : dk_at b_Pl_putNumber 25 t_Pl_putNumber_25 := dk_go 1 a_Pl_putNumber_24 rfl
theorem a_Pl_putNumber_27 : dk_at b_Pl_putNumber 27 t_Pl_putNumber_27 := dk_go 2 a_Pl_putNumber_25 rfl
theorem a_Pl_putNumber_28 : dk_at b_Pl_putNumber 28 t_Pl_putNumber_28 := dk_go 1 a_Pl_putNumber_27 rfl
theorem a_Pl_putNumber_29 : dk_at b_Pl_putNumber 29 t_Pl_putNumber_29 := dk_go 1 a_Pl_putNumber_28 rfl
theorem a_Pl_putNumber_32 : dk_at b_Pl_putNumber 32 t_Pl_putNumber_32 := dk_go 3 a_Pl_putNumber_29 rfl
theorem a_Pl_putNumber_34 : dk_at b_Pl_putNumber 34 t_Pl_putNumber_34 := dk_go 2 a_Pl_putNumber_32 rfl
theorem a_Pl_putNumber_35 : dk_at b_Pl_putNumber 35 t_Pl_putNumber_35 := dk_go 1 a_Pl_putNumber_34 rfl
theorem a_Pl_putNumber_36 : dk_at b_Pl_putNumber 36 t_Pl_putNumber_36 := dk_go 1 a_Pl_putNumber_35 rfl
theorem a_Pl_putNumber_39 : dk_at b_Pl_putNumber 39 t_Pl_putNumber_39 := dk_go 3 a_Pl_putNumber_36 rfl
theorem a_Pl_putNumber_40 : dk_at b_Pl_putNumber 40 t_Pl_putNumber_40 := dk_go 1 a_Pl_putNumber_39 rfl
theorem a_Pl_putNumber_42 : dk_at b_Pl_putNumber 42 t_Pl_putNumber_42 := dk_go 2 a_Pl_putNumber_40 rfl
theorem a_Pl_putNumber_44 : dk_at b_Pl_putNumber 44 t_Pl_putNumber_44 := dk_go 2 a_Pl_putNumber_42 rfl
theorem a_Pl_putNumber_45 : dk_at b_Pl_putNumber 45 t_Pl_putNumber_45 := dk_go 1 a_Pl_putNumber_44 rfl
theorem a_Pl_putNumber_46 : dk_at b_Pl_putNumber 46 t_Pl_putNumber_46 := dk_go 1 a_Pl_putNumber_45 rfl
theorem a_Pl_putNumber_47 : dk_at b_Pl_putNumber 47 t_Pl_putNumber_47 := dk_go 1 a_Pl_putNumber_46 rfl
theorem a_Pl_putNumber_49 : dk_at b_Pl_putNumber 49 t_Pl_putNumber_49 := dk_go 2 a_Pl_putNumber_47 rfl
theorem a_Pl_putNumber_50 : dk_at b_Pl_putNumber 50 t_Pl_putNumber_50 := dk_go 1 a_Pl_putNumber_49 rfl
theorem a_Pl_putNumber_51 : dk_at b_Pl_putNumber 51 t_Pl_putNumber_51 := dk_go 1 a_Pl_putNumber_50 rfl
theorem a_Pl_putNumber_52 : dk_at b_Pl_putNumber 52 t_Pl_putNumber_52 := dk_go 1 a_Pl_putNumber_51 rfl
theorem a_Pl_putNumber_53 : dk_at b_Pl_putNumber 53 t_Pl_putNumber_53 := dk_go 1 a_Pl_putNumber_52 rfl
theorem a_Pl_putNumber_56 : dk_at b_Pl_putNumber 56 t_Pl_putNumber_56 := dk_go 3 a_Pl_putNumber_53 rfl
theorem a_Pl_putNumber_57 : dk_at b_Pl_putNumber 57 t_Pl_putNumber_57 := dk_go 1 a_Pl_putNumber_56 rfl
theorem a_Pl_putNumber_59 : dk_at b_Pl_putNumber 59 t_Pl_putNumber_59 := dk_go 2 a_Pl_putNumber_57 rfl
theorem a_Pl_putNumber_60 : dk_at b_Pl_putNumber 60 t_Pl_putNumber_60 := dk_go 1 a_Pl_putNumber_59 rfl
theorem a_Pl_putNumber_61 : dk_at b_Pl_putNumber 61 t_Pl_putNumber_61 := dk_go 1 a_Pl_putNumber_60 rfl
theorem a_Pl_putNumber_64 : dk_at b_Pl_putNumber 64 t_Pl_putNumber_64 := dk_go 3 a_Pl_putNumber_61 rfl
theorem a_Pl_putNumber_66 : dk_at b_Pl_putNumber 66 t_Pl_putNumber_66 := dk_go 2 a_Pl_putNumber_64 rfl
theorem d_Pl_putNumber_0 : decode b_Pl_putNumber 0 = .ok (.iconst 1, 1) := dk_0 a_Pl_putNumber_0 (dko_4 _)
theorem d_Pl_putNumber_1 : decode b_Pl_putNumber 1 = .ok (.istore_n 3, 1) := dk_0 a_Pl_putNumber_1 (dko_62 _)
theorem d_Pl_putNumber_2 : decode b_Pl_putNumber 2 = .ok (.iload_n 3, 1) := dk_0 a_Pl_putNumber_2 (dko_29 _)
theorem d_Pl_putNumber_3 : decode b_Pl_putNumber 3 = .ok (.ldc 74, 2) := dk_U1 a_Pl_putNumber_3 (dko_18 _) rfl
theorem d_Pl_putNumber_5 : decode b_Pl_putNumber 5 = .ok (.if_icmp .gt 19, 3) := dk_S2 a_Pl_putNumber_5 (dko_163 _) (by decide +kernel)
theorem d_Pl_putNumber_8 : decode b_Pl_putNumber 8 = .ok (.iload_n 2, 1) := dk_0 a_Pl_putNumber_8 (dko_28 _)
theorem d_Pl_putNumber_9 : decode b_Pl_putNumber 9 = .ok (.iload_n 3, 1) := dk_0 a_Pl_putNumber_9 (dko_29 _)
theorem d_Pl_putNumber_10 : decode b_Pl_putNumber 10 = .ok (.idiv, 1) := dk_0 a_Pl_putNumber_10 (dko_108 _)
theorem d_Pl_putNumber_11 : decode b_Pl_putNumber 11 = .ok (.bipush 10, 2) := dk_S1 a_Pl_putNumber_11 (dko_16 _) (by decide +kernel)
theorem d_Pl_putNumber_13 : decode b_Pl_putNumber 13 = .ok (.if_icmp .lt 11, 3) := dk_S2 a_Pl_putNumber_13 (dko_161 _) (by decide +kernel)
theorem d_Pl_putNumber_16 : decode b_Pl_putNumber 16 = .ok (.iload_n 3, 1) := dk_0 a_Pl_putNumber_16 (dko_29 _)
theorem d_Pl_putNumber_17 : decode b_Pl_putNumber 17 = .ok (.bipush 10, 2) := dk_S1 a_Pl_putNumber_17 (dko_16 _) (by decide +kernel)
theorem d_Pl_putNumber_19 : decode b_Pl_putNumber 19 = .ok (.imul, 1) := dk_0 a_Pl_putNumber_19 (dko_104 _)
theorem d_Pl_putNumber_20 : decode b_Pl_putNumber 20 = .ok (.istore_n 3, 1) := dk_0 a_Pl_putNumber_20 (dko_62 _)
theorem d_Pl_putNumber_21 : decode b_Pl_putNumber 21 = .ok (.goto (-19), 3) := dk_S2 a_Pl_putNumber_21 (dko_167 _) (by decide +kernel)
theorem d_Pl_putNumber_24 : decode b_Pl_putNumber 24 = .ok (.iload_n 1, 1) := dk_0 a_Pl_putNumber_24 (dko_27 _)
theorem d_Pl_putNumber_25 : decode b_Pl_putNumber 25 = .ok (.istore 4, 2) := dk_U1 a_Pl_putNumber_25 (dko_54 _) rfl
theorem d_Pl_putNumber_27 : decode b_Pl_putNumber 27 = .ok (.iload_n 3, 1) := dk_0 a_Pl_putNumber_27 (dko_29 _)
theorem d_Pl_putNumber_28 : decode b_Pl_putNumber 28 = .ok (.iconst 1, 1) := dk_0 a_Pl_putNumber_28 (dko_4 _)
theorem d_Pl_putNumber_29 : decode b_Pl_putNumber 29 = .ok (.if_icmp .lt 35, 3) := dk_S2 a_Pl_putNumber_29 (dko_161 _) (by decide +kernel)
theorem d_Pl_putNumber_32 : decode b_Pl_putNumber 32 = .ok (.iload 4, 2) := dk_U1 a_Pl_putNumber_32 (dko_21 _) rfl
theorem d_Pl_putNumber_34 : decode b_Pl_putNumber 34 = .ok (.aload_n 0, 1) := dk_0 a_Pl_putNumber_34 (dko_42 _)
theorem d_Pl_putNumber_35 : decode b_Pl_putNumber 35 = .ok (.arraylength, 1) := dk_0 a_Pl_putNumber_35 (dko_190 _)
theorem d_Pl_putNumber_36 : decode b_Pl_putNumber 36 = .ok (.if_icmp .ge 28, 3) := dk_S2 a_Pl_putNumber_36 (dko_162 _) (by decide +kernel)
theorem d_Pl_putNumber_39 : decode b_Pl_putNumber 39 = .ok (.aload_n 0, 1) := dk_0 a_Pl_putNumber_39 (dko_42 _)
theorem d_Pl_putNumber_40 : decode b_Pl_putNumber 40 = .ok (.iload 4, 2) := dk_U1 a_Pl_putNumber_40 (dko_21 _) rfl
theorem d_Pl_putNumber_42 : decode b_Pl_putNumber 42 = .ok (.bipush 48, 2) := dk_S1 a_Pl_putNumber_42 (dko_16 _) (by decide +kernel)
theorem d_Pl_putNumber_44 : decode b_Pl_putNumber 44 = .ok (.iload_n 2, 1) := dk_0 a_Pl_putNumber_44 (dko_28 _)
theorem d_Pl_putNumber_45 : decode b_Pl_putNumber 45 = .ok (.iload_n 3, 1) := dk_0 a_Pl_putNumber_45 (dko_29 _)
theorem d_Pl_putNumber_46 : decode b_Pl_putNumber 46 = .ok (.idiv, 1) := dk_0 a_Pl_putNumber_46 (dko_108 _)
theorem d_Pl_putNumber_47 : decode b_Pl_putNumber 47 = .ok (.bipush 10, 2) := dk_S1 a_Pl_putNumber_47 (dko_16 _) (by decide +kernel)
theorem d_Pl_putNumber_49 : decode b_Pl_putNumber 49 = .ok (.irem, 1) := dk_0 a_Pl_putNumber_49 (dko_112 _)
theorem d_Pl_putNumber_50 : decode b_Pl_putNumber 50 = .ok (.iadd, 1) := dk_0 a_Pl_putNumber_50 (dko_96 _)
theorem d_Pl_putNumber_51 : decode b_Pl_putNumber 51 = .ok (.i2b, 1) := dk_0 a_Pl_putNumber_51 (dko_145 _)
theorem d_Pl_putNumber_52 : decode b_Pl_putNumber 52 = .ok (.bastore, 1) := dk_0 a_Pl_putNumber_52 (dko_84 _)
theorem d_Pl_putNumber_53 : decode b_Pl_putNumber 53 = .ok (.iinc 4 1, 3) := dk_US a_Pl_putNumber_53 (dko_132 _) (by decide +kernel)
theorem d_Pl_putNumber_56 : decode b_Pl_putNumber 56 = .ok (.iload_n 3, 1) := dk_0 a_Pl_putNumber_56 (dko_29 _)
theorem d_Pl_putNumber_57 : decode b_Pl_putNumber 57 = .ok (.bipush 10, 2) := dk_S1 a_Pl_putNumber_57 (dko_16 _) (by decide +kernel)
theorem d_Pl_putNumber_59 : decode b_Pl_putNumber 59 = .ok (.idiv, 1) := dk_0 a_Pl_putNumber_59 (dko_108 _)
theorem d_Pl_putNumber_60 : decode b_Pl_putNumber 60 = .ok (.istore_n 3, 1) := dk_0 a_Pl_putNumber_60 (dko_62 _)
theorem d_Pl_putNumber_61 : decode b_Pl_putNumber 61 = .ok (.goto (-34), 3) := dk_S2 a_Pl_putNumber_61 (dko_167 _) (by decide +kernel)
theorem d_Pl_putNumber_64 : decode b_Pl_putNumber 64 = .ok (.iload 4, 2) := dk_U1 a_Pl_putNumber_64 (dko_21 _) rfl
theorem d_Pl_putNumber_66 : decode b_Pl_putNumber 66 = .ok (.ireturn, 1) := dk_0 a_Pl_putNumber_66 (dko_172 _)
set_option maxHeartbeats 4000000 in
set_option maxRecDepth 100000 in
theorem ok_Pl_putNumber (pc : Nat) : OpS mt mi_Pl_putNumber pc (cs_Pl_putNumber pc) := (os_n (os_n (os_n (os_n (os_n (os_l (so_iconst d_Pl_putNumber_0 (by decide))) (os_l (so_istore_n d_Pl_putNumber_1 rfl (by decide)))) (os_n (os_l (so_iload_n d_Pl_putNumber_2 rfl)) (os_n (os_l (so_ldc mw_784 d_Pl_putNumber_3)) (os_l (so_icgt d_Pl_putNumber_5 (by decide)))))) (os_n (os_n (os_l (so_iload_n d_Pl_putNumber_8 rfl)) (os_l (so_iload_n d_Pl_putNumber_9 rfl))) (os_n (os_l (so_idiv d_Pl_putNumber_10)) (os_n (os_l (so_bipush d_Pl_putNumber_11 (by decide))) (os_l (so_iclt d_Pl_putNumber_13 (by decide))))))) (os_n (os_n (os_n (os_l (so_iload_n d_Pl_putNumber_16 rfl)) (os_l (so_bipush d_Pl_putNumber_17 (by decide)))) (os_n (os_l (so_imul d_Pl_putNumber_19)) (os_n (os_l (so_istore_n d_Pl_putNumber_20 rfl (by decide))) (os_l (so_goto d_Pl_putNumber_21 (by decide)))))) (os_n (os_n (os_l (so_iload_n d_Pl_putNumber_24 rfl)) (os_n (os_l (so_istore d_Pl_putNumber_25 (by decide))) (os_l (so_iload_n d_Pl_putNumber_27 rfl)))) (os_n (os_l (so_iconst d_Pl_putNumber_28 (by decide))) (os_n (os_l (so_iclt d_Pl_putNumber_29 (by decide))) (os_l (so_iload d_Pl_putNumber_32))))))) (os_n (os_n (os_n (os_n (os_l (so_aload_n d_Pl_putNumber_34 rfl)) (os_l (so_alen d_Pl_putNumber_35))) (os_n (os_l (so_icge d_Pl_putNumber_36 (by decide))) (os_n (os_l (so_aload_n d_Pl_putNumber_39 rfl)) (os_l (so_iload d_Pl_putNumber_40))))) (os_n (os_n (os_l (so_bipush d_Pl_putNumber_42 (by decide))) (os_n (os_l (so_iload_n d_Pl_putNumber_44 rfl)) (os_l (so_iload_n d_Pl_putNumber_45 rfl)))) (os_n (os_l (so_idiv d_Pl_putNumber_46)) (os_n (os_l (so_bipush d_Pl_putNumber_47 (by decide))) (os_l (so_irem d_Pl_putNumber_49)))))) (os_n (os_n (os_n (os_l (so_iadd d_Pl_putNumber_50)) (os_l (so_i2b d_Pl_putNumber_51))) (os_n (os_l (so_bastore d_Pl_putNumber_52)) (os_n (os_l (so_iinc d_Pl_putNumber_53 (by decide) (by decide))) (os_l (so_iload_n d_Pl_putNumber_56 rfl))))) (os_n (os_n (os_l (so_bipush d_Pl_putNumber_57 (by decide))) (os_n (os_l (so_idiv d_Pl_putNumber_59)) (os_l (so_istore_n d_Pl_putNumber_60 rfl (by decide))))) (os_n (os_l (so_goto d_Pl_putNumber_61 (by decide))) (os_n (os_l (so_iload d_Pl_putNumber_64)) (os_l (so_ireturn rfl d_Pl_putNumber_66))))))))
abbrev t_Pr_clear_20 : List UInt8 := 177 :: []
abbrev t_Pr_clear_17 : List UInt8 := 181 :: 0 :: 65 :: t_Pr_clear_20
abbrev t_Pr_clear_16 : List UInt8 := 3 :: t_Pr_clear_17
abbrev t_Pr_clear_15 : List UInt8 := 42 :: t_Pr_clear_16
abbrev t_Pr_clear_12 : List UInt8 := 181 :: 0 :: 9 :: t_Pr_clear_15
abbrev t_Pr_clear_11 : List UInt8 := 2 :: t_Pr_clear_12
abbrev t_Pr_clear_10 : List UInt8 := 42 :: t_Pr_clear_11
abbrev t_Pr_clear_7 : List UInt8 := 181 :: 0 :: 62 :: t_Pr_clear_10
abbrev t_Pr_clear_6 : List UInt8 := 3 :: t_Pr_clear_7
abbrev t_Pr_clear_5 : List UInt8 := 42 :: t_Pr_clear_6
abbrev t_Pr_clear_2 : List UInt8 := 181 :: 0 :: 59 :: t_Pr_clear_5
abbrev t_Pr_clear_1 : List UInt8 := 3 :: t_Pr_clear_2
abbrev t_Pr_clear_0 : List UInt8 := 42 :: t_Pr_clear_1
theorem a_Pr_clear_0 : dk_at b_Pr_clear 0 t_Pr_clear_0 := dk_start (by decide +kernel)
theorem a_Pr_clear_1 : dk_at b_Pr_clear 1 t_Pr_clear_1 := dk_go 1 a_Pr_clear_0 rfl
theorem a_Pr_clear_2 : dk_at b_Pr_clear 2 t_Pr_clear_2 := dk_go 1 a_Pr_clear_1 rfl
theorem a_Pr_clear_5 : dk_at b_Pr_clear 5 t_Pr_clear_5 := dk_go 3 a_Pr_clear_2 rfl
theorem a_Pr_clear_6 : dk_at b_Pr_clear 6 t_Pr_clear_6 := dk_go 1 a_Pr_clear_5 rfl
theorem a_Pr_clear_7 : dk_at b_Pr_clear 7 t_Pr_clear_7 := dk_go 1 a_Pr_clear_6 rfl
theorem a_Pr_clear_10 : dk_at b_Pr_clear 10 t_Pr_clear_10 := dk_go 3 a_Pr_clear_7 rfl
theorem a_Pr_clear_11 : dk_at b_Pr_clear 11 t_Pr_clear_11 := dk_go 1 a_Pr_clear_10 rfl
theorem a_Pr_clear_12 : dk_at b_Pr_clear 12 t_Pr_clear_12 := dk_go 1 a_Pr_clear_11 rfl
theorem a_Pr_clear_15 : dk_at b_Pr_clear 15 t_Pr_clear_15 := dk_go 3 a_Pr_clear_12 rfl
theorem a_Pr_clear_16 : dk_at b_Pr_clear 16 t_Pr_clear_16 := dk_go 1 a_Pr_clear_15 rfl
theorem a_Pr_clear_17 : dk_at b_Pr_clear 17 t_Pr_clear_17 := dk_go 1 a_Pr_clear_16 rfl
theorem a_Pr_clear_20 : dk_at b_Pr_clear 20 t_Pr_clear_20 := dk_go 3 a_Pr_clear_17 rfl
theorem d_Pr_clear_0 : decode b_Pr_clear 0 = .ok (.aload_n 0, 1) := dk_0 a_Pr_clear_0 (dko_42 _)
theorem d_Pr_clear_1 : decode b_Pr_clear 1 = .ok (.iconst 0, 1) := dk_0 a_Pr_clear_1 (dko_3 _)
theorem d_Pr_clear_2 : decode b_Pr_clear 2 = .ok (.putfield 59, 3) := dk_U2 a_Pr_clear_2 (dko_181 _) rfl
theorem d_Pr_clear_5 : decode b_Pr_clear 5 = .ok (.aload_n 0, 1) := dk_0 a_Pr_clear_5 (dko_42 _)
theorem d_Pr_clear_6 : decode b_Pr_clear 6 = .ok (.iconst 0, 1) := dk_0 a_Pr_clear_6 (dko_3 _)
theorem d_Pr_clear_7 : decode b_Pr_clear 7 = .ok (.putfield 62, 3) := dk_U2 a_Pr_clear_7 (dko_181 _) rfl
theorem d_Pr_clear_10 : decode b_Pr_clear 10 = .ok (.aload_n 0, 1) := dk_0 a_Pr_clear_10 (dko_42 _)
theorem d_Pr_clear_11 : decode b_Pr_clear 11 = .ok (.iconst (-1), 1) := dk_0 a_Pr_clear_11 (dko_2 _)
theorem d_Pr_clear_12 : decode b_Pr_clear 12 = .ok (.putfield 9, 3) := dk_U2 a_Pr_clear_12 (dko_181 _) rfl
theorem d_Pr_clear_15 : decode b_Pr_clear 15 = .ok (.aload_n 0, 1) := dk_0 a_Pr_clear_15 (dko_42 _)
theorem d_Pr_clear_16 : decode b_Pr_clear 16 = .ok (.iconst 0, 1) := dk_0 a_Pr_clear_16 (dko_3 _)
theorem d_Pr_clear_17 : decode b_Pr_clear 17 = .ok (.putfield 65, 3) := dk_U2 a_Pr_clear_17 (dko_181 _) rfl
theorem d_Pr_clear_20 : decode b_Pr_clear 20 = .ok (.return_, 1) := dk_0 a_Pr_clear_20 (dko_177 _)
set_option maxHeartbeats 4000000 in
set_option maxRecDepth 100000 in
theorem ok_Pr_clear (pc : Nat) : OpS mt mi_Pr_clear pc (cs_Pr_clear pc) := (os_n (os_n (os_n (os_l (so_aload_n d_Pr_clear_0 rfl)) (os_n (os_l (so_iconst d_Pr_clear_1 (by decide))) (os_l (so_putI (C := R_Pr) (T := F_Pr) (N := 18) (j := 0) in_Pr t_Pr_ok n_Pr rfl (by decide) mw_428 rfl (by decide +kernel) d_Pr_clear_2)))) (os_n (os_l (so_aload_n d_Pr_clear_5 rfl)) (os_n (os_l (so_iconst d_Pr_clear_6 (by decide))) (os_l (so_putI (C := R_Pr) (T := F_Pr) (N := 18) (j := 1) in_Pr t_Pr_ok n_Pr rfl (by decide) mw_431 rfl (by decide +kernel) d_Pr_clear_7))))) (os_n (os_n (os_l (so_aload_n d_Pr_clear_10 rfl)) (os_n (os_l (so_iconst d_Pr_clear_11 (by decide))) (os_l (so_putI (C := R_Pr) (T := F_Pr) (N := 18) (j := 2) in_Pr t_Pr_ok n_Pr rfl (by decide) mw_433 rfl (by decide +kernel) d_Pr_clear_12)))) (os_n (os_n (os_l (so_aload_n d_Pr_clear_15 rfl)) (os_l (so_iconst d_Pr_clear_16 (by decide)))) (os_n (os_l (so_putI (C := R_Pr) (T := F_Pr) (N := 18) (j := 10) in_Pr t_Pr_ok n_Pr rfl (by decide) mw_457 rfl (by decide +kernel) d_Pr_clear_17)) (os_l (so_return rfl d_Pr_clear_20))))))
abbrev t_Pr_find_30 : List UInt8 := 172 :: []
abbrev t_Pr_find_29 : List UInt8 := 2 :: t_Pr_find_30
abbrev t_Pr_find_26 : List UInt8 := 167 :: 255 :: 232 :: t_Pr_find_29
abbrev t_Pr_find_23 : List UInt8 := 132 :: 3 :: 1 :: t_Pr_find_26
abbrev t_Pr_find_22 : List UInt8 := 172 :: t_Pr_find_23
abbrev t_Pr_find_21 : List UInt8 := 29 :: t_Pr_find_22
abbrev t_Pr_find_18 : List UInt8 := 154 :: 0 :: 5 :: t_Pr_find_21
abbrev t_Pr_find_17 : List UInt8 := 148 :: t_Pr_find_18
abbrev t_Pr_find_16 : List UInt8 := 31 :: t_Pr_find_17
abbrev t_Pr_find_15 : List UInt8 := 47 :: t_Pr_find_16
abbrev t_Pr_find_14 : List UInt8 := 29 :: t_Pr_find_15
abbrev t_Pr_find_11 : List UInt8 := 180 :: 0 :: 38 :: t_Pr_find_14
abbrev t_Pr_find_10 : List UInt8 := 42 :: t_Pr_find_11
abbrev t_Pr_find_7 : List UInt8 := 162 :: 0 :: 22 :: t_Pr_find_10
abbrev t_Pr_find_4 : List UInt8 := 180 :: 0 :: 65 :: t_Pr_find_7
abbrev t_Pr_find_3 : List UInt8 := 42 :: t_Pr_find_4
abbrev t_Pr_find_2 : List UInt8 := 29 :: t_Pr_find_3
abbrev t_Pr_find_1 : List UInt8 := 62 :: t_Pr_find_2
abbrev t_Pr_find_0 : List UInt8 := 3 :: t_Pr_find_1
theorem a_Pr_find_0 : dk_at b_Pr_find 0 t_Pr_find_0 := dk_start (by decide +kernel)
theorem a_Pr_find_1 : dk_at b_Pr_find 1 t_Pr_find_1 := dk_go 1 a_Pr_find_0 rfl
theorem a_Pr_find_2 : dk_at b_Pr_find 2 t_Pr_find_2 := dk_go 1 a_Pr_find_1 rfl
theorem a_Pr_find_3 : dk_at b_Pr_find 3 t_Pr_find_3 := dk_go 1 a_Pr_find_2 rfl
theorem a_Pr_find_4 : dk_at b_Pr_find 4 t_Pr_find_4 := dk_go 1 a_Pr_find_3 rfl
theorem a_Pr_find_7 : dk_at b_Pr_find 7 t_Pr_find_7 := dk_go 3 a_Pr_find_4 rfl
theorem a_Pr_find_10 : dk_at b_Pr_find 10 t_Pr_find_10 := dk_go 3 a_Pr_find_7 rfl
theorem a_Pr_find_11 : dk_at b_Pr_find 11 t_Pr_find_11 := dk_go 1 a_Pr_find_10 rfl
theorem a_Pr_find_14 : dk_at b_Pr_find 14 t_Pr_find_14 := dk_go 3 a_Pr_find_11 rfl
theorem a_Pr_find_15 : dk_at b_Pr_find 15 t_Pr_find_15 := dk_go 1 a_Pr_find_14 rfl
theorem a_Pr_find_16 : dk_at b_Pr_find 16 t_Pr_find_16 := dk_go 1 a_Pr_find_15 rfl
theorem a_Pr_find_17 : dk_at b_Pr_find 17 t_Pr_find_17 := dk_go 1 a_Pr_find_16 rfl
theorem a_Pr_find_18 : dk_at b_Pr_find 18 t_Pr_find_18 := dk_go 1 a_Pr_find_17 rfl
theorem a_Pr_find_21 : dk_at b_Pr_find 21 t_Pr_find_21 := dk_go 3 a_Pr_find_18 rfl
theorem a_Pr_find_22 : dk_at b_Pr_find 22 t_Pr_find_22 := dk_go 1 a_Pr_find_21 rfl
theorem a_Pr_find_23 : dk_at b_Pr_find 23 t_Pr_find_23 := dk_go 1 a_Pr_find_22 rfl
theorem a_Pr_find_26 : dk_at b_Pr_find 26 t_Pr_find_26 := dk_go 3 a_Pr_find_23 rfl
theorem a_Pr_find_29 : dk_at b_Pr_find 29 t_Pr_find_29 := dk_go 3 a_Pr_find_26 rfl
theorem a_Pr_find_30 : dk_at b_Pr_find 30 t_Pr_find_30 := dk_go 1 a_Pr_find_29 rfl
theorem d_Pr_find_0 : decode b_Pr_find 0 = .ok (.iconst 0, 1) := dk_0 a_Pr_find_0 (dko_3 _)
theorem d_Pr_find_1 : decode b_Pr_find 1 = .ok (.istore_n 3, 1) := dk_0 a_Pr_find_1 (dko_62 _)
theorem d_Pr_find_2 : decode b_Pr_find 2 = .ok (.iload_n 3, 1) := dk_0 a_Pr_find_2 (dko_29 _)
theorem d_Pr_find_3 : decode b_Pr_find 3 = .ok (.aload_n 0, 1) := dk_0 a_Pr_find_3 (dko_42 _)
theorem d_Pr_find_4 : decode b_Pr_find 4 = .ok (.getfield 65, 3) := dk_U2 a_Pr_find_4 (dko_180 _) rfl
theorem d_Pr_find_7 : decode b_Pr_find 7 = .ok (.if_icmp .ge 22, 3) := dk_S2 a_Pr_find_7 (dko_162 _) (by decide +kernel)
theorem d_Pr_find_10 : decode b_Pr_find 10 = .ok (.aload_n 0, 1) := dk_0 a_Pr_find_10 (dko_42 _)
theorem d_Pr_find_11 : decode b_Pr_find 11 = .ok (.getfield 38, 3) := dk_U2 a_Pr_find_11 (dko_180 _) rfl
theorem d_Pr_find_14 : decode b_Pr_find 14 = .ok (.iload_n 3, 1) := dk_0 a_Pr_find_14 (dko_29 _)
theorem d_Pr_find_15 : decode b_Pr_find 15 = .ok (.laload, 1) := dk_0 a_Pr_find_15 (dko_47 _)
theorem d_Pr_find_16 : decode b_Pr_find 16 = .ok (.lload_n 1, 1) := dk_0 a_Pr_find_16 (dko_31 _)
theorem d_Pr_find_17 : decode b_Pr_find 17 = .ok (.lcmp, 1) := dk_0 a_Pr_find_17 (dko_148 _)
theorem d_Pr_find_18 : decode b_Pr_find 18 = .ok (.ifCond .ne 5, 3) := dk_S2 a_Pr_find_18 (dko_154 _) (by decide +kernel)
theorem d_Pr_find_21 : decode b_Pr_find 21 = .ok (.iload_n 3, 1) := dk_0 a_Pr_find_21 (dko_29 _)
theorem d_Pr_find_22 : decode b_Pr_find 22 = .ok (.ireturn, 1) := dk_0 a_Pr_find_22 (dko_172 _)
theorem d_Pr_find_23 : decode b_Pr_find 23 = .ok (.iinc 3 1, 3) := dk_US a_Pr_find_23 (dko_132 _) (by decide +kernel)
theorem d_Pr_find_26 : decode b_Pr_find 26 = .ok (.goto (-24), 3) := dk_S2 a_Pr_find_26 (dko_167 _) (by decide +kernel)
theorem d_Pr_find_29 : decode b_Pr_find 29 = .ok (.iconst (-1), 1) := dk_0 a_Pr_find_29 (dko_2 _)
theorem d_Pr_find_30 : decode b_Pr_find 30 = .ok (.ireturn, 1) := dk_0 a_Pr_find_30 (dko_172 _)
set_option maxHeartbeats 4000000 in
set_option maxRecDepth 100000 in
theorem ok_Pr_find (pc : Nat) : OpS mt mi_Pr_find pc (cs_Pr_find pc) := (os_n (os_n (os_n (os_n (os_l (so_iconst d_Pr_find_0 (by decide))) (os_l (so_istore_n d_Pr_find_1 rfl (by decide)))) (os_n (os_l (so_iload_n d_Pr_find_2 rfl)) (os_l (so_aload_n d_Pr_find_3 rfl)))) (os_n (os_n (os_l (so_get (C := R_Pr) (T := F_Pr) (N := 18) (j := 10) in_Pr rfl (by decide) mw_457 d_Pr_find_4)) (os_l (so_icge d_Pr_find_7 (by decide)))) (os_n (os_l (so_aload_n d_Pr_find_10 rfl)) (os_n (os_l (so_get (C := R_Pr) (T := F_Pr) (N := 18) (j := 11) in_Pr rfl (by decide) mw_460 d_Pr_find_11)) (os_l (so_iload_n d_Pr_find_14 rfl)))))) (os_n (os_n (os_n (os_l (so_laload d_Pr_find_15)) (os_l (so_lload_n d_Pr_find_16 rfl))) (os_n (os_l (so_lcmp d_Pr_find_17)) (os_n (os_l (so_ifne d_Pr_find_18 (by decide))) (os_l (so_iload_n d_Pr_find_21 rfl))))) (os_n (os_n (os_l (so_ireturn rfl d_Pr_find_22)) (os_l (so_iinc d_Pr_find_23 (by decide) (by decide)))) (os_n (os_l (so_goto d_Pr_find_26 (by decide))) (os_n (os_l (so_iconst d_Pr_find_29 (by decide))) (os_l (so_ireturn rfl d_Pr_find_30)))))))
abbrev t_Pr_addName_81 : List UInt8 := 177 :: []
abbrev t_Pr_addName_78 : List UInt8 := 181 :: 0 :: 65 :: t_Pr_addName_81
abbrev t_Pr_addName_77 : List UInt8 := 96 :: t_Pr_addName_78
abbrev t_Pr_addName_76 : List UInt8 := 4 :: t_Pr_addName_77
abbrev t_Pr_addName_73 : List UInt8 := 180 :: 0 :: 65 :: t_Pr_addName_76
abbrev t_Pr_addName_72 : List UInt8 := 89 :: t_Pr_addName_73
abbrev t_Pr_addName_71 : List UInt8 := 42 :: t_Pr_addName_72
abbrev t_Pr_addName_70 : List UInt8 := 79 :: t_Pr_addName_71
abbrev t_Pr_addName_69 : List UInt8 := 8 :: t_Pr_addName_70
abbrev t_Pr_addName_66 : List UInt8 := 180 :: 0 :: 65 :: t_Pr_addName_69
abbrev t_Pr_addName_65 : List UInt8 := 42 :: t_Pr_addName_66
abbrev t_Pr_addName_62 : List UInt8 := 180 :: 0 :: 53 :: t_Pr_addName_65
abbrev t_Pr_addName_61 : List UInt8 := 42 :: t_Pr_addName_62
abbrev t_Pr_addName_60 : List UInt8 := 80 :: t_Pr_addName_61
abbrev t_Pr_addName_59 : List UInt8 := 9 :: t_Pr_addName_60
abbrev t_Pr_addName_56 : List UInt8 := 180 :: 0 :: 65 :: t_Pr_addName_59
abbrev t_Pr_addName_55 : List UInt8 := 42 :: t_Pr_addName_56
abbrev t_Pr_addName_52 : List UInt8 := 180 :: 0 :: 50 :: t_Pr_addName_55
abbrev t_Pr_addName_51 : List UInt8 := 42 :: t_Pr_addName_52
abbrev t_Pr_addName_50 : List UInt8 := 79 :: t_Pr_addName_51
abbrev t_Pr_addName_48 : List UInt8 := 21 :: 5 :: t_Pr_addName_50
abbrev t_Pr_addName_45 : List UInt8 := 180 :: 0 :: 65 :: t_Pr_addName_48
abbrev t_Pr_addName_44 : List UInt8 := 42 :: t_Pr_addName_45
abbrev t_Pr_addName_41 : List UInt8 := 180 :: 0 :: 47 :: t_Pr_addName_44
abbrev t_Pr_addName_40 : List UInt8 := 42 :: t_Pr_addName_41
abbrev t_Pr_addName_39 : List UInt8 := 79 :: t_Pr_addName_40
abbrev t_Pr_addName_37 : List UInt8 := 21 :: 4 :: t_Pr_addName_39
abbrev t_Pr_addName_34 : List UInt8 := 180 :: 0 :: 65 :: t_Pr_addName_37
abbrev t_Pr_addName_33 : List UInt8 := 42 :: t_Pr_addName_34
abbrev t_Pr_addName_30 : List UInt8 := 180 :: 0 :: 44 :: t_Pr_addName_33
abbrev t_Pr_addName_29 : List UInt8 := 42 :: t_Pr_addName_30
abbrev t_Pr_addName_28 : List UInt8 := 79 :: t_Pr_addName_29
abbrev t_Pr_addName_27 : List UInt8 := 29 :: t_Pr_addName_28
abbrev t_Pr_addName_24 : List UInt8 := 180 :: 0 :: 65 :: t_Pr_addName_27
abbrev t_Pr_addName_23 : List UInt8 := 42 :: t_Pr_addName_24
abbrev t_Pr_addName_20 : List UInt8 := 180 :: 0 :: 41 :: t_Pr_addName_23
abbrev t_Pr_addName_19 : List UInt8 := 42 :: t_Pr_addName_20
abbrev t_Pr_addName_18 : List UInt8 := 80 :: t_Pr_addName_19
abbrev t_Pr_addName_17 : List UInt8 := 31 :: t_Pr_addName_18
abbrev t_Pr_addName_14 : List UInt8 := 180 :: 0 :: 65 :: t_Pr_addName_17
abbrev t_Pr_addName_13 : List UInt8 := 42 :: t_Pr_addName_14
abbrev t_Pr_addName_10 : List UInt8 := 180 :: 0 :: 38 :: t_Pr_addName_13
abbrev t_Pr_addName_9 : List UInt8 := 42 :: t_Pr_addName_10
abbrev t_Pr_addName_6 : List UInt8 := 162 :: 0 :: 75 :: t_Pr_addName_9
abbrev t_Pr_addName_4 : List UInt8 := 16 :: 40 :: t_Pr_addName_6
abbrev t_Pr_addName_1 : List UInt8 := 180 :: 0 :: 65 :: t_Pr_addName_4
abbrev t_Pr_addName_0 : List UInt8 := 42 :: t_Pr_addName_1
theorem a_Pr_addName_0 : dk_at b_Pr_addName 0 t_Pr_addName_0 := dk_start (by decide +kernel)
theorem a_Pr_addName_1 : dk_at b_Pr_addName 1 t_Pr_addName_1 := dk_go 1 a_Pr_addName_0 rfl
theorem a_Pr_addName_4 : dk_at b_Pr_addName 4 t_Pr_addName_4 := dk_go 3 a_Pr_addName_1 rfl
theorem a_Pr_addName_6 : dk_at b_Pr_addName 6 t_Pr_addName_6 := dk_go 2 a_Pr_addName_4 rfl
theorem a_Pr_addName_9 : dk_at b_Pr_addName 9 t_Pr_addName_9 := dk_go 3 a_Pr_addName_6 rfl
theorem a_Pr_addName_10 : dk_at b_Pr_addName 10 t_Pr_addName_10 := dk_go 1 a_Pr_addName_9 rfl
theorem a_Pr_addName_13 : dk_at b_Pr_addName 13 t_Pr_addName_13 := dk_go 3 a_Pr_addName_10 rfl
theorem a_Pr_addName_14 : dk_at b_Pr_addName 14 t_Pr_addName_14 := dk_go 1 a_Pr_addName_13 rfl
theorem a_Pr_addName_17 : dk_at b_Pr_addName 17 t_Pr_addName_17 := dk_go 3 a_Pr_addName_14 rfl
theorem a_Pr_addName_18 : dk_at b_Pr_addName 18 t_Pr_addName_18 := dk_go 1 a_Pr_addName_17 rfl
theorem a_Pr_addName_19 : dk_at b_Pr_addName 19 t_Pr_addName_19 := dk_go 1 a_Pr_addName_18 rfl
theorem a_Pr_addName_20 : dk_at b_Pr_addName 20 t_Pr_addName_20 := dk_go 1 a_Pr_addName_19 rfl
theorem a_Pr_addName_23 : dk_at b_Pr_addName 23 t_Pr_addName_23 := dk_go 3 a_Pr_addName_20 rfl
theorem a_Pr_addName_24 : dk_at b_Pr_addName 24 t_Pr_addName_24 := dk_go 1 a_Pr_addName_23 rfl
theorem a_Pr_addName_27 : dk_at b_Pr_addName 27 t_Pr_addName_27 := dk_go 3 a_Pr_addName_24 rfl
theorem a_Pr_addName_28 : dk_at b_Pr_addName 28 t_Pr_addName_28 := dk_go 1 a_Pr_addName_27 rfl
theorem a_Pr_addName_29 : dk_at b_Pr_addName 29 t_Pr_addName_29 := dk_go 1 a_Pr_addName_28 rfl
theorem a_Pr_addName_30 : dk_at b_Pr_addName 30 t_Pr_addName_30 := dk_go 1 a_Pr_addName_29 rfl
theorem a_Pr_addName_33 : dk_at b_Pr_addName 33 t_Pr_addName_33 := dk_go 3 a_Pr_addName_30 rfl
theorem a_Pr_addName_34 : dk_at b_Pr_addName 34 t_Pr_addName_34 := dk_go 1 a_Pr_addName_33 rfl
theorem a_Pr_addName_37 : dk_at b_Pr_addName 37 t_Pr_addName_37 := dk_go 3 a_Pr_addName_34 rfl
theorem a_Pr_addName_39 : dk_at b_Pr_addName 39 t_Pr_addName_39 := dk_go 2 a_Pr_addName_37 rfl
theorem a_Pr_addName_40 : dk_at b_Pr_addName 40 t_Pr_addName_40 := dk_go 1 a_Pr_addName_39 rfl
theorem a_Pr_addName_41 : dk_at b_Pr_addName 41 t_Pr_addName_41 := dk_go 1 a_Pr_addName_40 rfl
theorem a_Pr_addName_44 : dk_at b_Pr_addName 44 t_Pr_addName_44 := dk_go 3 a_Pr_addName_41 rfl
theorem a_Pr_addName_45 : dk_at b_Pr_addName 45 t_Pr_addName_45 := dk_go 1 a_Pr_addName_44 rfl
theorem a_Pr_addName_48 : dk_at b_Pr_addName 48 t_Pr_addName_48 := dk_go 3 a_Pr_addName_45 rfl
theorem a_Pr_addName_50 : dk_at b_Pr_addName 50 t_Pr_addName_50 := dk_go 2 a_Pr_addName_48 rfl
theorem a_Pr_addName_51 : dk_at b_Pr_addName 51 t_Pr_addName_51 := dk_go 1 a_Pr_addName_50 rfl
theorem a_Pr_addName_52 : dk_at b_Pr_addName 52 t_Pr_addName_52 := dk_go 1 a_Pr_addName_51 rfl
theorem a_Pr_addName_55 : dk_at b_Pr_addName 55 t_Pr_addName_55 := dk_go 3 a_Pr_addName_52 rfl
theorem a_Pr_addName_56 : dk_at b_Pr_addName 56 t_Pr_addName_56 := dk_go 1 a_Pr_addName_55 rfl
theorem a_Pr_addName_59 : dk_at b_Pr_addName 59 t_Pr_addName_59 := dk_go 3 a_Pr_addName_56 rfl
theorem a_Pr_addName_60 : dk_at b_Pr_addName 60 t_Pr_addName_60 := dk_go 1 a_Pr_addName_59 rfl
theorem a_Pr_addName_61 : dk_at b_Pr_addName 61 t_Pr_addName_61 := dk_go 1 a_Pr_addName_60 rfl
theorem a_Pr_addName_62 : dk_at b_Pr_addName 62 t_Pr_addName_62 := dk_go 1 a_Pr_addName_61 rfl
theorem a_Pr_addName_65 : dk_at b_Pr_addName 65 t_Pr_addName_65 := dk_go 3 a_Pr_addName_62 rfl
theorem a_Pr_addName_66 : dk_at b_Pr_addName 66 t_Pr_addName_66 := dk_go 1 a_Pr_addName_65 rfl
theorem a_Pr_addName_69 : dk_at b_Pr_addName 69 t_Pr_addName_69 := dk_go 3 a_Pr_addName_66 rfl
theorem a_Pr_addName_70 : dk_at b_Pr_addName 70 t_Pr_addName_70 := dk_go 1 a_Pr_addName_69 rfl
theorem a_Pr_addName_71 : dk_at b_Pr_addName 71 t_Pr_addName_71 := dk_go 1 a_Pr_addName_70 rfl
theorem a_Pr_addName_72 : dk_at b_Pr_addName 72 t_Pr_addName_72 := dk_go 1 a_Pr_addName_71 rfl
theorem a_Pr_addName_73 : dk_at b_Pr_addName 73 t_Pr_addName_73 := dk_go 1 a_Pr_addName_72 rfl
theorem a_Pr_addName_76 : dk_at b_Pr_addName 76 t_Pr_addName_76 := dk_go 3 a_Pr_addName_73 rfl
theorem a_Pr_addName_77 : dk_at b_Pr_addName 77 t_Pr_addName_77 := dk_go 1 a_Pr_addName_76 rfl
theorem a_Pr_addName_78 : dk_at b_Pr_addName 78 t_Pr_addName_78 := dk_go 1 a_Pr_addName_77 rfl
theorem a_Pr_addName_81 : dk_at b_Pr_addName 81 t_Pr_addName_81 := dk_go 3 a_Pr_addName_78 rfl
theorem d_Pr_addName_0 : decode b_Pr_addName 0 = .ok (.aload_n 0, 1) := dk_0 a_Pr_addName_0 (dko_42 _)
theorem d_Pr_addName_1 : decode b_Pr_addName 1 = .ok (.getfield 65, 3) := dk_U2 a_Pr_addName_1 (dko_180 _) rfl
theorem d_Pr_addName_4 : decode b_Pr_addName 4 = .ok (.bipush 40, 2) := dk_S1 a_Pr_addName_4 (dko_16 _) (by decide +kernel)
theorem d_Pr_addName_6 : decode b_Pr_addName 6 = .ok (.if_icmp .ge 75, 3) := dk_S2 a_Pr_addName_6 (dko_162 _) (by decide +kernel)
theorem d_Pr_addName_9 : decode b_Pr_addName 9 = .ok (.aload_n 0, 1) := dk_0 a_Pr_addName_9 (dko_42 _)
theorem d_Pr_addName_10 : decode b_Pr_addName 10 = .ok (.getfield 38, 3) := dk_U2 a_Pr_addName_10 (dko_180 _) rfl
theorem d_Pr_addName_13 : decode b_Pr_addName 13 = .ok (.aload_n 0, 1) := dk_0 a_Pr_addName_13 (dko_42 _)
theorem d_Pr_addName_14 : decode b_Pr_addName 14 = .ok (.getfield 65, 3) := dk_U2 a_Pr_addName_14 (dko_180 _) rfl
theorem d_Pr_addName_17 : decode b_Pr_addName 17 = .ok (.lload_n 1, 1) := dk_0 a_Pr_addName_17 (dko_31 _)
theorem d_Pr_addName_18 : decode b_Pr_addName 18 = .ok (.lastore, 1) := dk_0 a_Pr_addName_18 (dko_80 _)
theorem d_Pr_addName_19 : decode b_Pr_addName 19 = .ok (.aload_n 0, 1) := dk_0 a_Pr_addName_19 (dko_42 _)
theorem d_Pr_addName_20 : decode b_Pr_addName 20 = .ok (.getfield 41, 3) := dk_U2 a_Pr_addName_20 (dko_180 _) rfl
theorem d_Pr_addName_23 : decode b_Pr_addName 23 = .ok (.aload_n 0, 1) := dk_0 a_Pr_addName_23 (dko_42 _)
theorem d_Pr_addName_24 : decode b_Pr_addName 24 = .ok (.getfield 65, 3) := dk_U2 a_Pr_addName_24 (dko_180 _) rfl
theorem d_Pr_addName_27 : decode b_Pr_addName 27 = .ok (.iload_n 3, 1) := dk_0 a_Pr_addName_27 (dko_29 _)
theorem d_Pr_addName_28 : decode b_Pr_addName 28 = .ok (.iastore, 1) := dk_0 a_Pr_addName_28 (dko_79 _)
theorem d_Pr_addName_29 : decode b_Pr_addName 29 = .ok (.aload_n 0, 1) := dk_0 a_Pr_addName_29 (dko_42 _)
theorem d_Pr_addName_30 : decode b_Pr_addName 30 = .ok (.getfield 44, 3) := dk_U2 a_Pr_addName_30 (dko_180 _) rfl
theorem d_Pr_addName_33 : decode b_Pr_addName 33 = .ok (.aload_n 0, 1) := dk_0 a_Pr_addName_33 (dko_42 _)
theorem d_Pr_addName_34 : decode b_Pr_addName 34 = .ok (.getfield 65, 3) := dk_U2 a_Pr_addName_34 (dko_180 _) rfl
theorem d_Pr_addName_37 : decode b_Pr_addName 37 = .ok (.iload 4, 2) := dk_U1 a_Pr_addName_37 (dko_21 _) rfl
theorem d_Pr_addName_39 : decode b_Pr_addName 39 = .ok (.iastore, 1) := dk_0 a_Pr_addName_39 (dko_79 _)
theorem d_Pr_addName_40 : decode b_Pr_addName 40 = .ok (.aload_n 0, 1) := dk_0 a_Pr_addName_40 (dko_42 _)
theorem d_Pr_addName_41 : decode b_Pr_addName 41 = .ok (.getfield 47, 3) := dk_U2 a_Pr_addName_41 (dko_180 _) rfl
theorem d_Pr_addName_44 : decode b_Pr_addName 44 = .ok (.aload_n 0, 1) := dk_0 a_Pr_addName_44 (dko_42 _)
theorem d_Pr_addName_45 : decode b_Pr_addName 45 = .ok (.getfield 65, 3) := dk_U2 a_Pr_addName_45 (dko_180 _) rfl
theorem d_Pr_addName_48 : decode b_Pr_addName 48 = .ok (.iload 5, 2) := dk_U1 a_Pr_addName_48 (dko_21 _) rfl
theorem d_Pr_addName_50 : decode b_Pr_addName 50 = .ok (.iastore, 1) := dk_0 a_Pr_addName_50 (dko_79 _)
theorem d_Pr_addName_51 : decode b_Pr_addName 51 = .ok (.aload_n 0, 1) := dk_0 a_Pr_addName_51 (dko_42 _)
theorem d_Pr_addName_52 : decode b_Pr_addName 52 = .ok (.getfield 50, 3) := dk_U2 a_Pr_addName_52 (dko_180 _) rfl
theorem d_Pr_addName_55 : decode b_Pr_addName 55 = .ok (.aload_n 0, 1) := dk_0 a_Pr_addName_55 (dko_42 _)
theorem d_Pr_addName_56 : decode b_Pr_addName 56 = .ok (.getfield 65, 3) := dk_U2 a_Pr_addName_56 (dko_180 _) rfl
theorem d_Pr_addName_59 : decode b_Pr_addName 59 = .ok (.lconst 0, 1) := dk_0 a_Pr_addName_59 (dko_9 _)
theorem d_Pr_addName_60 : decode b_Pr_addName 60 = .ok (.lastore, 1) := dk_0 a_Pr_addName_60 (dko_80 _)
theorem d_Pr_addName_61 : decode b_Pr_addName 61 = .ok (.aload_n 0, 1) := dk_0 a_Pr_addName_61 (dko_42 _)
theorem d_Pr_addName_62 : decode b_Pr_addName 62 = .ok (.getfield 53, 3) := dk_U2 a_Pr_addName_62 (dko_180 _) rfl
theorem d_Pr_addName_65 : decode b_Pr_addName 65 = .ok (.aload_n 0, 1) := dk_0 a_Pr_addName_65 (dko_42 _)
theorem d_Pr_addName_66 : decode b_Pr_addName 66 = .ok (.getfield 65, 3) := dk_U2 a_Pr_addName_66 (dko_180 _) rfl
theorem d_Pr_addName_69 : decode b_Pr_addName 69 = .ok (.iconst 5, 1) := dk_0 a_Pr_addName_69 (dko_8 _)
theorem d_Pr_addName_70 : decode b_Pr_addName 70 = .ok (.iastore, 1) := dk_0 a_Pr_addName_70 (dko_79 _)
theorem d_Pr_addName_71 : decode b_Pr_addName 71 = .ok (.aload_n 0, 1) := dk_0 a_Pr_addName_71 (dko_42 _)
theorem d_Pr_addName_72 : decode b_Pr_addName 72 = .ok (.dup, 1) := dk_0 a_Pr_addName_72 (dko_89 _)
theorem d_Pr_addName_73 : decode b_Pr_addName 73 = .ok (.getfield 65, 3) := dk_U2 a_Pr_addName_73 (dko_180 _) rfl
theorem d_Pr_addName_76 : decode b_Pr_addName 76 = .ok (.iconst 1, 1) := dk_0 a_Pr_addName_76 (dko_4 _)
theorem d_Pr_addName_77 : decode b_Pr_addName 77 = .ok (.iadd, 1) := dk_0 a_Pr_addName_77 (dko_96 _)
theorem d_Pr_addName_78 : decode b_Pr_addName 78 = .ok (.putfield 65, 3) := dk_U2 a_Pr_addName_78 (dko_181 _) rfl
theorem d_Pr_addName_81 : decode b_Pr_addName 81 = .ok (.return_, 1) := dk_0 a_Pr_addName_81 (dko_177 _)
set_option maxHeartbeats 4000000 in
set_option maxRecDepth 100000 in
theorem ok_Pr_addName (pc : Nat) : OpS mt mi_Pr_addName pc (cs_Pr_addName pc) := (os_n (os_n (os_n (os_n (os_n (os_l (so_aload_n d_Pr_addName_0 rfl)) (os_l (so_get (C := R_Pr) (T := F_Pr) (N := 18) (j := 10) in_Pr rfl (by decide) mw_457 d_Pr_addName_1))) (os_n (os_l (so_bipush d_Pr_addName_4 (by decide))) (os_n (os_l (so_icge d_Pr_addName_6 (by decide))) (os_l (so_aload_n d_Pr_addName_9 rfl))))) (os_n (os_n (os_l (so_get (C := R_Pr) (T := F_Pr) (N := 18) (j := 11) in_Pr rfl (by decide) mw_460 d_Pr_addName_10)) (os_n (os_l (so_aload_n d_Pr_addName_13 rfl)) (os_l (so_get (C := R_Pr) (T := F_Pr) (N := 18) (j := 10) in_Pr rfl (by decide) mw_457 d_Pr_addName_14)))) (os_n (os_l (so_lload_n d_Pr_addName_17 rfl)) (os_n (os_l (so_lastore d_Pr_addName_18)) (os_l (so_aload_n d_Pr_addName_19 rfl)))))) (os_n (os_n (os_n (os_l (so_get (C := R_Pr) (T := F_Pr) (N := 18) (j := 12) in_Pr rfl (by decide) mw_461 d_Pr_addName_20)) (os_n (os_l (so_aload_n d_Pr_addName_23 rfl)) (os_l (so_get (C := R_Pr) (T := F_Pr) (N := 18) (j := 10) in_Pr rfl (by decide) mw_457 d_Pr_addName_24)))) (os_n (os_l (so_iload_n d_Pr_addName_27 rfl)) (os_n (os_l (so_iastore d_Pr_addName_28)) (os_l (so_aload_n d_Pr_addName_29 rfl))))) (os_n (os_n (os_l (so_get (C := R_Pr) (T := F_Pr) (N := 18) (j := 13) in_Pr rfl (by decide) mw_463 d_Pr_addName_30)) (os_n (os_l (so_aload_n d_Pr_addName_33 rfl)) (os_l (so_get (C := R_Pr) (T := F_Pr) (N := 18) (j := 10) in_Pr rfl (by decide) mw_457 d_Pr_addName_34)))) (os_n (os_l (so_iload d_Pr_addName_37)) (os_n (os_l (so_iastore d_Pr_addName_39)) (os_l (so_aload_n d_Pr_addName_40 rfl))))))) (os_n (os_n (os_n (os_n (os_l (so_get (C := R_Pr) (T := F_Pr) (N := 18) (j := 14) in_Pr rfl (by decide) mw_465 d_Pr_addName_41)) (os_n (os_l (so_aload_n d_Pr_addName_44 rfl)) (os_l (so_get (C := R_Pr) (T := F_Pr) (N := 18) (j := 10) in_Pr rfl (by decide) mw_457 d_Pr_addName_45)))) (os_n (os_l (so_iload d_Pr_addName_48)) (os_n (os_l (so_iastore d_Pr_addName_50)) (os_l (so_aload_n d_Pr_addName_51 rfl))))) (os_n (os_n (os_l (so_get (C := R_Pr) (T := F_Pr) (N := 18) (j := 15) in_Pr rfl (by decide) mw_467 d_Pr_addName_52)) (os_n (os_l (so_aload_n d_Pr_addName_55 rfl)) (os_l (so_get (C := R_Pr) (T := F_Pr) (N := 18) (j := 10) in_Pr rfl (by decide) mw_457 d_Pr_addName_56)))) (os_n (os_l (so_lconst d_Pr_addName_59 (by decide))) (os_n (os_l (so_lastore d_Pr_addName_60)) (os_l (so_aload_n d_Pr_addName_61 rfl)))))) (os_n (os_n (os_n (os_l (so_get (C := R_Pr) (T := F_Pr) (N := 18) (j := 16) in_Pr rfl (by decide) mw_470 d_Pr_addName_62)) (os_n (os_l (so_aload_n d_Pr_addName_65 rfl)) (os_l (so_get (C := R_Pr) (T := F_Pr) (N := 18) (j := 10) in_Pr rfl (by decide) mw_457 d_Pr_addName_66)))) (os_n (os_l (so_iconst d_Pr_addName_69 (by decide))) (os_n (os_l (so_iastore d_Pr_addName_70)) (os_l (so_aload_n d_Pr_addName_71 rfl))))) (os_n (os_n (os_l (so_dup d_Pr_addName_72)) (os_n (os_l (so_get (C := R_Pr) (T := F_Pr) (N := 18) (j := 10) in_Pr rfl (by decide) mw_457 d_Pr_addName_73)) (os_l (so_iconst d_Pr_addName_76 (by decide))))) (os_n (os_l (so_iadd d_Pr_addName_77)) (os_n (os_l (so_putI (C := R_Pr) (T := F_Pr) (N := 18) (j := 10) in_Pr t_Pr_ok n_Pr rfl (by decide) mw_457 rfl (by decide +kernel) d_Pr_addName_78)) (os_l (so_return rfl d_Pr_addName_81))))))))
abbrev t_Pr_hasValue_28 : List UInt8 := 172 :: []
abbrev t_Pr_hasValue_27 : List UInt8 := 3 :: t_Pr_hasValue_28
abbrev t_Pr_hasValue_24 : List UInt8 := 167 :: 0 :: 4 :: t_Pr_hasValue_27
abbrev t_Pr_hasValue_23 : List UInt8 := 4 :: t_Pr_hasValue_24
abbrev t_Pr_hasValue_20 : List UInt8 := 159 :: 0 :: 7 :: t_Pr_hasValue_23
abbrev t_Pr_hasValue_18 : List UInt8 := 16 :: 10 :: t_Pr_hasValue_20
abbrev t_Pr_hasValue_17 : List UInt8 := 46 :: t_Pr_hasValue_18
abbrev t_Pr_hasValue_16 : List UInt8 := 27 :: t_Pr_hasValue_17
abbrev t_Pr_hasValue_13 : List UInt8 := 180 :: 0 :: 41 :: t_Pr_hasValue_16
abbrev t_Pr_hasValue_12 : List UInt8 := 42 :: t_Pr_hasValue_13
abbrev t_Pr_hasValue_9 : List UInt8 := 162 :: 0 :: 18 :: t_Pr_hasValue_12
abbrev t_Pr_hasValue_6 : List UInt8 := 180 :: 0 :: 65 :: t_Pr_hasValue_9
abbrev t_Pr_hasValue_5 : List UInt8 := 42 :: t_Pr_hasValue_6
abbrev t_Pr_hasValue_4 : List UInt8 := 27 :: t_Pr_hasValue_5
abbrev t_Pr_hasValue_1 : List UInt8 := 155 :: 0 :: 26 :: t_Pr_hasValue_4
abbrev t_Pr_hasValue_0 : List UInt8 := 27 :: t_Pr_hasValue_1
theorem a_Pr_hasValue_0 : dk_at b_Pr_hasValue 0 t_Pr_hasValue_0 := dk_start (by decide +kernel)
theorem a_Pr_hasValue_1 : dk_at b_Pr_hasValue 1 t_Pr_hasValue_1 := dk_go 1 a_Pr_hasValue_0 rfl
theorem a_Pr_hasValue_4 : dk_at b_Pr_hasValue 4 t_Pr_hasValue_4 := dk_go 3 a_Pr_hasValue_1 rfl
theorem a_Pr_hasValue_5 : dk_at b_Pr_hasValue 5 t_Pr_hasValue_5 := dk_go 1 a_Pr_hasValue_4 rfl
theorem a_Pr_hasValue_6 : dk_at b_Pr_hasValue 6 t_Pr_hasValue_6 := dk_go 1 a_Pr_hasValue_5 rfl
theorem a_Pr_hasValue_9 : dk_at b_Pr_hasValue 9 t_Pr_hasValue_9 := dk_go 3 a_Pr_hasValue_6 rfl
theorem a_Pr_hasValue_12 : dk_at b_Pr_hasValue 12 t_Pr_hasValue_12 := dk_go 3 a_Pr_hasValue_9 rfl
theorem a_Pr_hasValue_13 : dk_at b_Pr_hasValue 13 t_Pr_hasValue_13 := dk_go 1 a_Pr_hasValue_12 rfl
theorem a_Pr_hasValue_16 : dk_at b_Pr_hasValue 16 t_Pr_hasValue_16 := dk_go 3 a_Pr_hasValue_13 rfl
theorem a_Pr_hasValue_17 : dk_at b_Pr_hasValue 17 t_Pr_hasValue_17 := dk_go 1 a_Pr_hasValue_16 rfl
theorem a_Pr_hasValue_18 : dk_at b_Pr_hasValue 18 t_Pr_hasValue_18 := dk_go 1 a_Pr_hasValue_17 rfl
theorem a_Pr_hasValue_20 : dk_at b_Pr_hasValue 20 t_Pr_hasValue_20 := dk_go 2 a_Pr_hasValue_18 rfl
theorem a_Pr_hasValue_23 : dk_at b_Pr_hasValue 23 t_Pr_hasValue_23 := dk_go 3 a_Pr_hasValue_20 rfl
theorem a_Pr_hasValue_24 : dk_at b_Pr_hasValue 24 t_Pr_hasValue_24 := dk_go 1 a_Pr_hasValue_23 rfl
theorem a_Pr_hasValue_27 : dk_at b_Pr_hasValue 27 t_Pr_hasValue_27 := dk_go 3 a_Pr_hasValue_24 rfl
theorem a_Pr_hasValue_28 : dk_at b_Pr_hasValue 28 t_Pr_hasValue_28 := dk_go 1 a_Pr_hasValue_27 rfl
theorem d_Pr_hasValue_0 : decode b_Pr_hasValue 0 = .ok (.iload_n 1, 1) := dk_0 a_Pr_hasValue_0 (dko_27 _)
theorem d_Pr_hasValue_1 : decode b_Pr_hasValue 1 = .ok (.ifCond .lt 26, 3) := dk_S2 a_Pr_hasValue_1 (dko_155 _) (by decide +kernel)
theorem d_Pr_hasValue_4 : decode b_Pr_hasValue 4 = .ok (.iload_n 1, 1) := dk_0 a_Pr_hasValue_4 (dko_27 _)
theorem d_Pr_hasValue_5 : decode b_Pr_hasValue 5 = .ok (.aload_n 0, 1) := dk_0 a_Pr_hasValue_5 (dko_42 _)
theorem d_Pr_hasValue_6 : decode b_Pr_hasValue 6 = .ok (.getfield 65, 3) := dk_U2 a_Pr_hasValue_6 (dko_180 _) rfl
theorem d_Pr_hasValue_9 : decode b_Pr_hasValue 9 = .ok (.if_icmp .ge 18, 3) := dk_S2 a_Pr_hasValue_9 (dko_162 _) (by decide +kernel)
theorem d_Pr_hasValue_12 : decode b_Pr_hasValue 12 = .ok (.aload_n 0, 1) := dk_0 a_Pr_hasValue_12 (dko_42 _)
theorem d_Pr_hasValue_13 : decode b_Pr_hasValue 13 = .ok (.getfield 41, 3) := dk_U2 a_Pr_hasValue_13 (dko_180 _) rfl
theorem d_Pr_hasValue_16 : decode b_Pr_hasValue 16 = .ok (.iload_n 1, 1) := dk_0 a_Pr_hasValue_16 (dko_27 _)
theorem d_Pr_hasValue_17 : decode b_Pr_hasValue 17 = .ok (.iaload, 1) := dk_0 a_Pr_hasValue_17 (dko_46 _)
theorem d_Pr_hasValue_18 : decode b_Pr_hasValue 18 = .ok (.bipush 10, 2) := dk_S1 a_Pr_hasValue_18 (dko_16 _) (by decide +kernel)
theorem d_Pr_hasValue_20 : decode b_Pr_hasValue 20 = .ok (.if_icmp .eq 7, 3) := dk_S2 a_Pr_hasValue_20 (dko_159 _) (by decide +kernel)
theorem d_Pr_hasValue_23 : decode b_Pr_hasValue 23 = .ok (.iconst 1, 1) := dk_0 a_Pr_hasValue_23 (dko_4 _)
theorem d_Pr_hasValue_24 : decode b_Pr_hasValue 24 = .ok (.goto 4, 3) := dk_S2 a_Pr_hasValue_24 (dko_167 _) (by decide +kernel)
theorem d_Pr_hasValue_27 : decode b_Pr_hasValue 27 = .ok (.iconst 0, 1) := dk_0 a_Pr_hasValue_27 (dko_3 _)
theorem d_Pr_hasValue_28 : decode b_Pr_hasValue 28 = .ok (.ireturn, 1) := dk_0 a_Pr_hasValue_28 (dko_172 _)
set_option maxHeartbeats 4000000 in
set_option maxRecDepth 100000 in
theorem ok_Pr_hasValue (pc : Nat) : OpS mt mi_Pr_hasValue pc (cs_Pr_hasValue pc) := (os_n (os_n (os_n (os_n (os_l (so_iload_n d_Pr_hasValue_0 rfl)) (os_l (so_iflt d_Pr_hasValue_1 (by decide)))) (os_n (os_l (so_iload_n d_Pr_hasValue_4 rfl)) (os_l (so_aload_n d_Pr_hasValue_5 rfl)))) (os_n (os_n (os_l (so_get (C := R_Pr) (T := F_Pr) (N := 18) (j := 10) in_Pr rfl (by decide) mw_457 d_Pr_hasValue_6)) (os_l (so_icge d_Pr_hasValue_9 (by decide)))) (os_n (os_l (so_aload_n d_Pr_hasValue_12 rfl)) (os_l (so_get (C := R_Pr) (T := F_Pr) (N := 18) (j := 12) in_Pr rfl (by decide) mw_461 d_Pr_hasValue_13))))) (os_n (os_n (os_n (os_l (so_iload_n d_Pr_hasValue_16 rfl)) (os_l (so_iaload d_Pr_hasValue_17))) (os_n (os_l (so_bipush d_Pr_hasValue_18 (by decide))) (os_l (so_iceq d_Pr_hasValue_20 (by decide))))) (os_n (os_n (os_l (so_iconst d_Pr_hasValue_23 (by decide))) (os_l (so_goto d_Pr_hasValue_24 (by decide)))) (os_n (os_l (so_iconst d_Pr_hasValue_27 (by decide))) (os_l (so_zreturn rfl d_Pr_hasValue_28))))))
abbrev t_Pr_isSignal_28 : List UInt8 := 172 :: []
abbrev t_Pr_isSignal_27 : List UInt8 := 3 :: t_Pr_isSignal_28
abbrev t_Pr_isSignal_24 : List UInt8 := 167 :: 0 :: 4 :: t_Pr_isSignal_27
abbrev t_Pr_isSignal_23 : List UInt8 := 4 :: t_Pr_isSignal_24
abbrev t_Pr_isSignal_20 : List UInt8 := 160 :: 0 :: 7 :: t_Pr_isSignal_23
abbrev t_Pr_isSignal_18 : List UInt8 := 16 :: 8 :: t_Pr_isSignal_20
abbrev t_Pr_isSignal_17 : List UInt8 := 46 :: t_Pr_isSignal_18
abbrev t_Pr_isSignal_16 : List UInt8 := 27 :: t_Pr_isSignal_17
abbrev t_Pr_isSignal_13 : List UInt8 := 180 :: 0 :: 41 :: t_Pr_isSignal_16
abbrev t_Pr_isSignal_12 : List UInt8 := 42 :: t_Pr_isSignal_13
abbrev t_Pr_isSignal_9 : List UInt8 := 162 :: 0 :: 18 :: t_Pr_isSignal_12
abbrev t_Pr_isSignal_6 : List UInt8 := 180 :: 0 :: 65 :: t_Pr_isSignal_9
abbrev t_Pr_isSignal_5 : List UInt8 := 42 :: t_Pr_isSignal_6
abbrev t_Pr_isSignal_4 : List UInt8 := 27 :: t_Pr_isSignal_5
abbrev t_Pr_isSignal_1 : List UInt8 := 155 :: 0 :: 26 :: t_Pr_isSignal_4
abbrev t_Pr_isSignal_0 : List UInt8 := 27 :: t_Pr_isSignal_1
theorem a_Pr_isSignal_0 : dk_at b_Pr_isSignal 0 t_Pr_isSignal_0 := dk_start (by decide +kernel)
theorem a_Pr_isSignal_1 : dk_at b_Pr_isSignal 1 t_Pr_isSignal_1 := dk_go 1 a_Pr_isSignal_0 rfl
theorem a_Pr_isSignal_4 : dk_at b_Pr_isSignal 4 t_Pr_isSignal_4 := dk_go 3 a_Pr_isSignal_1 rfl
theorem a_Pr_isSignal_5 : dk_at b_Pr_isSignal 5 t_Pr_isSignal_5 := dk_go 1 a_Pr_isSignal_4 rfl
theorem a_Pr_isSignal_6 : dk_at b_Pr_isSignal 6 t_Pr_isSignal_6 := dk_go 1 a_Pr_isSignal_5 rfl
theorem a_Pr_isSignal_9 : dk_at b_Pr_isSignal 9 t_Pr_isSignal_9 := dk_go 3 a_Pr_isSignal_6 rfl
theorem a_Pr_isSignal_12 : dk_at b_Pr_isSignal 12 t_Pr_isSignal_12 := dk_go 3 a_Pr_isSignal_9 rfl
theorem a_Pr_isSignal_13 : dk_at b_Pr_isSignal 13 t_Pr_isSignal_13 := dk_go 1 a_Pr_isSignal_12 rfl
theorem a_Pr_isSignal_16 : dk_at b_Pr_isSignal 16 t_Pr_isSignal_16 := dk_go 3 a_Pr_isSignal_13 rfl
theorem a_Pr_isSignal_17 : dk_at b_Pr_isSignal 17 t_Pr_isSignal_17 := dk_go 1 a_Pr_isSignal_16 rfl
theorem a_Pr_isSignal_18 : dk_at b_Pr_isSignal 18 t_Pr_isSignal_18 := dk_go 1 a_Pr_isSignal_17 rfl
theorem a_Pr_isSignal_20 : dk_at b_Pr_isSignal 20 t_Pr_isSignal_20 := dk_go 2 a_Pr_isSignal_18 rfl
theorem a_Pr_isSignal_23 : dk_at b_Pr_isSignal 23 t_Pr_isSignal_23 := dk_go 3 a_Pr_isSignal_20 rfl
theorem a_Pr_isSignal_24 : dk_at b_Pr_isSignal 24 t_Pr_isSignal_24 := dk_go 1 a_Pr_isSignal_23 rfl
theorem a_Pr_isSignal_27 : dk_at b_Pr_isSignal 27 t_Pr_isSignal_27 := dk_go 3 a_Pr_isSignal_24 rfl
theorem a_Pr_isSignal_28 : dk_at b_Pr_isSignal 28 t_Pr_isSignal_28 := dk_go 1 a_Pr_isSignal_27 rfl
theorem d_Pr_isSignal_0 : decode b_Pr_isSignal 0 = .ok (.iload_n 1, 1) := dk_0 a_Pr_isSignal_0 (dko_27 _)
theorem d_Pr_isSignal_1 : decode b_Pr_isSignal 1 = .ok (.ifCond .lt 26, 3) := dk_S2 a_Pr_isSignal_1 (dko_155 _) (by decide +kernel)
theorem d_Pr_isSignal_4 : decode b_Pr_isSignal 4 = .ok (.iload_n 1, 1) := dk_0 a_Pr_isSignal_4 (dko_27 _)
theorem d_Pr_isSignal_5 : decode b_Pr_isSignal 5 = .ok (.aload_n 0, 1) := dk_0 a_Pr_isSignal_5 (dko_42 _)
theorem d_Pr_isSignal_6 : decode b_Pr_isSignal 6 = .ok (.getfield 65, 3) := dk_U2 a_Pr_isSignal_6 (dko_180 _) rfl
theorem d_Pr_isSignal_9 : decode b_Pr_isSignal 9 = .ok (.if_icmp .ge 18, 3) := dk_S2 a_Pr_isSignal_9 (dko_162 _) (by decide +kernel)
theorem d_Pr_isSignal_12 : decode b_Pr_isSignal 12 = .ok (.aload_n 0, 1) := dk_0 a_Pr_isSignal_12 (dko_42 _)
theorem d_Pr_isSignal_13 : decode b_Pr_isSignal 13 = .ok (.getfield 41, 3) := dk_U2 a_Pr_isSignal_13 (dko_180 _) rfl
theorem d_Pr_isSignal_16 : decode b_Pr_isSignal 16 = .ok (.iload_n 1, 1) := dk_0 a_Pr_isSignal_16 (dko_27 _)
theorem d_Pr_isSignal_17 : decode b_Pr_isSignal 17 = .ok (.iaload, 1) := dk_0 a_Pr_isSignal_17 (dko_46 _)
theorem d_Pr_isSignal_18 : decode b_Pr_isSignal 18 = .ok (.bipush 8, 2) := dk_S1 a_Pr_isSignal_18 (dko_16 _) (by decide +kernel)
theorem d_Pr_isSignal_20 : decode b_Pr_isSignal 20 = .ok (.if_icmp .ne 7, 3) := dk_S2 a_Pr_isSignal_20 (dko_160 _) (by decide +kernel)
theorem d_Pr_isSignal_23 : decode b_Pr_isSignal 23 = .ok (.iconst 1, 1) := dk_0 a_Pr_isSignal_23 (dko_4 _)
theorem d_Pr_isSignal_24 : decode b_Pr_isSignal 24 = .ok (.goto 4, 3) := dk_S2 a_Pr_isSignal_24 (dko_167 _) (by decide +kernel)
theorem d_Pr_isSignal_27 : decode b_Pr_isSignal 27 = .ok (.iconst 0, 1) := dk_0 a_Pr_isSignal_27 (dko_3 _)
theorem d_Pr_isSignal_28 : decode b_Pr_isSignal 28 = .ok (.ireturn, 1) := dk_0 a_Pr_isSignal_28 (dko_172 _)
set_option maxHeartbeats 4000000 in
set_option maxRecDepth 100000 in
theorem ok_Pr_isSignal (pc : Nat) : OpS mt mi_Pr_isSignal pc (cs_Pr_isSignal pc) := (os_n (os_n (os_n (os_n (os_l (so_iload_n d_Pr_isSignal_0 rfl)) (os_l (so_iflt d_Pr_isSignal_1 (by decide)))) (os_n (os_l (so_iload_n d_Pr_isSignal_4 rfl)) (os_l (so_aload_n d_Pr_isSignal_5 rfl)))) (os_n (os_n (os_l (so_get (C := R_Pr) (T := F_Pr) (N := 18) (j := 10) in_Pr rfl (by decide) mw_457 d_Pr_isSignal_6)) (os_l (so_icge d_Pr_isSignal_9 (by decide)))) (os_n (os_l (so_aload_n d_Pr_isSignal_12 rfl)) (os_l (so_get (C := R_Pr) (T := F_Pr) (N := 18) (j := 12) in_Pr rfl (by decide) mw_461 d_Pr_isSignal_13))))) (os_n (os_n (os_n (os_l (so_iload_n d_Pr_isSignal_16 rfl)) (os_l (so_iaload d_Pr_isSignal_17))) (os_n (os_l (so_bipush d_Pr_isSignal_18 (by decide))) (os_l (so_icne d_Pr_isSignal_20 (by decide))))) (os_n (os_n (os_l (so_iconst d_Pr_isSignal_23 (by decide))) (os_l (so_goto d_Pr_isSignal_24 (by decide)))) (os_n (os_l (so_iconst d_Pr_isSignal_27 (by decide))) (os_l (so_zreturn rfl d_Pr_isSignal_28))))))
abbrev t_Pr_isSensed_23 : List UInt8 := 172 :: []
abbrev t_Pr_isSensed_22 : List UInt8 := 3 :: t_Pr_isSensed_23
abbrev t_Pr_isSensed_19 : List UInt8 := 167 :: 0 :: 4 :: t_Pr_isSensed_22
abbrev t_Pr_isSensed_18 : List UInt8 := 4 :: t_Pr_isSensed_19
abbrev t_Pr_isSensed_15 : List UInt8 := 162 :: 0 :: 7 :: t_Pr_isSensed_18
abbrev t_Pr_isSensed_14 : List UInt8 := 8 :: t_Pr_isSensed_15
abbrev t_Pr_isSensed_13 : List UInt8 := 46 :: t_Pr_isSensed_14
abbrev t_Pr_isSensed_12 : List UInt8 := 27 :: t_Pr_isSensed_13
abbrev t_Pr_isSensed_9 : List UInt8 := 180 :: 0 :: 53 :: t_Pr_isSensed_12
abbrev t_Pr_isSensed_8 : List UInt8 := 42 :: t_Pr_isSensed_9
abbrev t_Pr_isSensed_5 : List UInt8 := 153 :: 0 :: 17 :: t_Pr_isSensed_8
abbrev t_Pr_isSensed_2 : List UInt8 := 182 :: 0 :: 68 :: t_Pr_isSensed_5
abbrev t_Pr_isSensed_1 : List UInt8 := 27 :: t_Pr_isSensed_2
abbrev t_Pr_isSensed_0 : List UInt8 := 42 :: t_Pr_isSensed_1
theorem a_Pr_isSensed_0 : dk_at b_Pr_isSensed 0 t_Pr_isSensed_0 := dk_start (by decide +kernel)
theorem a_Pr_isSensed_1 : dk_at b_Pr_isSensed 1 t_Pr_isSensed_1 := dk_go 1 a_Pr_isSensed_0 rfl
theorem a_Pr_isSensed_2 : dk_at b_Pr_isSensed 2 t_Pr_isSensed_2 := dk_go 1 a_Pr_isSensed_1 rfl
theorem a_Pr_isSensed_5 : dk_at b_Pr_isSensed 5 t_Pr_isSensed_5 := dk_go 3 a_Pr_isSensed_2 rfl
theorem a_Pr_isSensed_8 : dk_at b_Pr_isSensed 8 t_Pr_isSensed_8 := dk_go 3 a_Pr_isSensed_5 rfl
theorem a_Pr_isSensed_9 : dk_at b_Pr_isSensed 9 t_Pr_isSensed_9 := dk_go 1 a_Pr_isSensed_8 rfl
theorem a_Pr_isSensed_12 : dk_at b_Pr_isSensed 12 t_Pr_isSensed_12 := dk_go 3 a_Pr_isSensed_9 rfl
theorem a_Pr_isSensed_13 : dk_at b_Pr_isSensed 13 t_Pr_isSensed_13 := dk_go 1 a_Pr_isSensed_12 rfl
theorem a_Pr_isSensed_14 : dk_at b_Pr_isSensed 14 t_Pr_isSensed_14 := dk_go 1 a_Pr_isSensed_13 rfl
theorem a_Pr_isSensed_15 : dk_at b_Pr_isSensed 15 t_Pr_isSensed_15 := dk_go 1 a_Pr_isSensed_14 rfl
theorem a_Pr_isSensed_18 : dk_at b_Pr_isSensed 18 t_Pr_isSensed_18 := dk_go 3 a_Pr_isSensed_15 rfl
theorem a_Pr_isSensed_19 : dk_at b_Pr_isSensed 19 t_Pr_isSensed_19 := dk_go 1 a_Pr_isSensed_18 rfl
theorem a_Pr_isSensed_22 : dk_at b_Pr_isSensed 22 t_Pr_isSensed_22 := dk_go 3 a_Pr_isSensed_19 rfl
theorem a_Pr_isSensed_23 : dk_at b_Pr_isSensed 23 t_Pr_isSensed_23 := dk_go 1 a_Pr_isSensed_22 rfl
theorem d_Pr_isSensed_0 : decode b_Pr_isSensed 0 = .ok (.aload_n 0, 1) := dk_0 a_Pr_isSensed_0 (dko_42 _)
theorem d_Pr_isSensed_1 : decode b_Pr_isSensed 1 = .ok (.iload_n 1, 1) := dk_0 a_Pr_isSensed_1 (dko_27 _)
theorem d_Pr_isSensed_2 : decode b_Pr_isSensed 2 = .ok (.invokevirtual 68, 3) := dk_U2 a_Pr_isSensed_2 (dko_182 _) rfl
theorem d_Pr_isSensed_5 : decode b_Pr_isSensed 5 = .ok (.ifCond .eq 17, 3) := dk_S2 a_Pr_isSensed_5 (dko_153 _) (by decide +kernel)
theorem d_Pr_isSensed_8 : decode b_Pr_isSensed 8 = .ok (.aload_n 0, 1) := dk_0 a_Pr_isSensed_8 (dko_42 _)
theorem d_Pr_isSensed_9 : decode b_Pr_isSensed 9 = .ok (.getfield 53, 3) := dk_U2 a_Pr_isSensed_9 (dko_180 _) rfl
theorem d_Pr_isSensed_12 : decode b_Pr_isSensed 12 = .ok (.iload_n 1, 1) := dk_0 a_Pr_isSensed_12 (dko_27 _)
theorem d_Pr_isSensed_13 : decode b_Pr_isSensed 13 = .ok (.iaload, 1) := dk_0 a_Pr_isSensed_13 (dko_46 _)
theorem d_Pr_isSensed_14 : decode b_Pr_isSensed 14 = .ok (.iconst 5, 1) := dk_0 a_Pr_isSensed_14 (dko_8 _)
theorem d_Pr_isSensed_15 : decode b_Pr_isSensed 15 = .ok (.if_icmp .ge 7, 3) := dk_S2 a_Pr_isSensed_15 (dko_162 _) (by decide +kernel)
theorem d_Pr_isSensed_18 : decode b_Pr_isSensed 18 = .ok (.iconst 1, 1) := dk_0 a_Pr_isSensed_18 (dko_4 _)
theorem d_Pr_isSensed_19 : decode b_Pr_isSensed 19 = .ok (.goto 4, 3) := dk_S2 a_Pr_isSensed_19 (dko_167 _) (by decide +kernel)
theorem d_Pr_isSensed_22 : decode b_Pr_isSensed 22 = .ok (.iconst 0, 1) := dk_0 a_Pr_isSensed_22 (dko_3 _)
theorem d_Pr_isSensed_23 : decode b_Pr_isSensed 23 = .ok (.ireturn, 1) := dk_0 a_Pr_isSensed_23 (dko_172 _)
set_option maxHeartbeats 4000000 in
set_option maxRecDepth 100000 in
theorem ok_Pr_isSensed (pc : Nat) : OpS mt mi_Pr_isSensed pc (cs_Pr_isSensed pc) := (os_n (os_n (os_n (os_l (so_aload_n d_Pr_isSensed_0 rfl)) (os_n (os_l (so_iload_n d_Pr_isSensed_1 rfl)) (os_l (so_callV (iv := mi_Pr_isSignal) rfl rfl rfl mw_1309 mw_1159 mw_1160 mw_12 mw_1161 ⟨by decide +kernel, by decide +kernel, by decide +kernel⟩ (by decide) d_Pr_isSensed_2)))) (os_n (os_n (os_l (so_ifeq d_Pr_isSensed_5 (by decide))) (os_l (so_aload_n d_Pr_isSensed_8 rfl))) (os_n (os_l (so_get (C := R_Pr) (T := F_Pr) (N := 18) (j := 16) in_Pr rfl (by decide) mw_470 d_Pr_isSensed_9)) (os_l (so_iload_n d_Pr_isSensed_12 rfl))))) (os_n (os_n (os_l (so_iaload d_Pr_isSensed_13)) (os_n (os_l (so_iconst d_Pr_isSensed_14 (by decide))) (os_l (so_icge d_Pr_isSensed_15 (by decide))))) (os_n (os_n (os_l (so_iconst d_Pr_isSensed_18 (by decide))) (os_l (so_goto d_Pr_isSensed_19 (by decide)))) (os_n (os_l (so_iconst d_Pr_isSensed_22 (by decide))) (os_l (so_zreturn rfl d_Pr_isSensed_23))))))
abbrev t_Pr_clearValues_31 : List UInt8 := 177 :: []
abbrev t_Pr_clearValues_28 : List UInt8 := 167 :: 255 :: 230 :: t_Pr_clearValues_31
abbrev t_Pr_clearValues_25 : List UInt8 := 132 :: 1 :: 1 :: t_Pr_clearValues_28
abbrev t_Pr_clearValues_24 : List UInt8 := 80 :: t_Pr_clearValues_25
abbrev t_Pr_clearValues_23 : List UInt8 := 9 :: t_Pr_clearValues_24
abbrev t_Pr_clearValues_22 : List UInt8 := 27 :: t_Pr_clearValues_23
abbrev t_Pr_clearValues_19 : List UInt8 := 180 :: 0 :: 50 :: t_Pr_clearValues_22
abbrev t_Pr_clearValues_18 : List UInt8 := 42 :: t_Pr_clearValues_19
abbrev t_Pr_clearValues_15 : List UInt8 := 154 :: 0 :: 10 :: t_Pr_clearValues_18
abbrev t_Pr_clearValues_12 : List UInt8 := 182 :: 0 :: 72 :: t_Pr_clearValues_15
abbrev t_Pr_clearValues_11 : List UInt8 := 27 :: t_Pr_clearValues_12
abbrev t_Pr_clearValues_10 : List UInt8 := 42 :: t_Pr_clearValues_11
abbrev t_Pr_clearValues_7 : List UInt8 := 162 :: 0 :: 24 :: t_Pr_clearValues_10
abbrev t_Pr_clearValues_4 : List UInt8 := 180 :: 0 :: 65 :: t_Pr_clearValues_7
abbrev t_Pr_clearValues_3 : List UInt8 := 42 :: t_Pr_clearValues_4
abbrev t_Pr_clearValues_2 : List UInt8 := 27 :: t_Pr_clearValues_3
abbrev t_Pr_clearValues_1 : List UInt8 := 60 :: t_Pr_clearValues_2
abbrev t_Pr_clearValues_0 : List UInt8 := 3 :: t_Pr_clearValues_1
theorem a_Pr_clearValues_0 : dk_at b_Pr_clearValues 0 t_Pr_clearValues_0 := dk_start (by decide +kernel)
theorem a_Pr_clearValues_1 : dk_at b_Pr_clearValues 1 t_Pr_clearValues_1 := dk_go 1 a_Pr_clearValues_0 rfl
theorem a_Pr_clearValues_2 : dk_at b_Pr_clearValues 2 t_Pr_clearValues_2 := dk_go 1 a_Pr_clearValues_1 rfl
theorem a_Pr_clearValues_3 : dk_at b_Pr_clearValues 3 t_Pr_clearValues_3 := dk_go 1 a_Pr_clearValues_2 rfl
theorem a_Pr_clearValues_4 : dk_at b_Pr_clearValues 4 t_Pr_clearValues_4 := dk_go 1 a_Pr_clearValues_3 rfl
theorem a_Pr_clearValues_7 : dk_at b_Pr_clearValues 7 t_Pr_clearValues_7 := dk_go 3 a_Pr_clearValues_4 rfl
theorem a_Pr_clearValues_10 : dk_at b_Pr_clearValues 10 t_Pr_clearValues_10 := dk_go 3 a_Pr_clearValues_7 rfl
theorem a_Pr_clearValues_11 : dk_at b_Pr_clearValues 11 t_Pr_clearValues_11 := dk_go 1 a_Pr_clearValues_10 rfl
theorem a_Pr_clearValues_12 : dk_at b_Pr_clearValues 12 t_Pr_clearValues_12 := dk_go 1 a_Pr_clearValues_11 rfl
theorem a_Pr_clearValues_15 : dk_at b_Pr_clearValues 15 t_Pr_clearValues_15 := dk_go 3 a_Pr_clearValues_12 rfl
theorem a_Pr_clearValues_18 : dk_at b_Pr_clearValues 18 t_Pr_clearValues_18 := dk_go 3 a_Pr_clearValues_15 rfl
theorem a_Pr_clearValues_19 : dk_at b_Pr_clearValues 19 t_Pr_clearValues_19 := dk_go 1 a_Pr_clearValues_18 rfl
theorem a_Pr_clearValues_22 : dk_at b_Pr_clearValues 22 t_Pr_clearValues_22 := dk_go 3 a_Pr_clearValues_19 rfl
theorem a_Pr_clearValues_23 : dk_at b_Pr_clearValues 23 t_Pr_clearValues_23 := dk_go 1 a_Pr_clearValues_22 rfl
theorem a_Pr_clearValues_24 : dk_at b_Pr_clearValues 24 t_Pr_clearValues_24 := dk_go 1 a_Pr_clearValues_23 rfl
theorem a_Pr_clearValues_25 : dk_at b_Pr_clearValues 25 t_Pr_clearValues_25 := dk_go 1 a_Pr_clearValues_24 rfl
theorem a_Pr_clearValues_28 : dk_at b_Pr_clearValues 28 t_Pr_clearValues_28 := dk_go 3 a_Pr_clearValues_25 rfl
theorem a_Pr_clearValues_31 : dk_at b_Pr_clearValues 31 t_Pr_clearValues_31 := dk_go 3 a_Pr_clearValues_28 rfl
theorem d_Pr_clearValues_0 : decode b_Pr_clearValues 0 = .ok (.iconst 0, 1) := dk_0 a_Pr_clearValues_0 (dko_3 _)
theorem d_Pr_clearValues_1 : decode b_Pr_clearValues 1 = .ok (.istore_n 1, 1) := dk_0 a_Pr_clearValues_1 (dko_60 _)
theorem d_Pr_clearValues_2 : decode b_Pr_clearValues 2 = .ok (.iload_n 1, 1) := dk_0 a_Pr_clearValues_2 (dko_27 _)
theorem d_Pr_clearValues_3 : decode b_Pr_clearValues 3 = .ok (.aload_n 0, 1) := dk_0 a_Pr_clearValues_3 (dko_42 _)
theorem d_Pr_clearValues_4 : decode b_Pr_clearValues 4 = .ok (.getfield 65, 3) := dk_U2 a_Pr_clearValues_4 (dko_180 _) rfl
theorem d_Pr_clearValues_7 : decode b_Pr_clearValues 7 = .ok (.if_icmp .ge 24, 3) := dk_S2 a_Pr_clearValues_7 (dko_162 _) (by decide +kernel)
theorem d_Pr_clearValues_10 : decode b_Pr_clearValues 10 = .ok (.aload_n 0, 1) := dk_0 a_Pr_clearValues_10 (dko_42 _)
theorem d_Pr_clearValues_11 : decode b_Pr_clearValues 11 = .ok (.iload_n 1, 1) := dk_0 a_Pr_clearValues_11 (dko_27 _)
theorem d_Pr_clearValues_12 : decode b_Pr_clearValues 12 = .ok (.invokevirtual 72, 3) := dk_U2 a_Pr_clearValues_12 (dko_182 _) rfl
theorem d_Pr_clearValues_15 : decode b_Pr_clearValues 15 = .ok (.ifCond .ne 10, 3) := dk_S2 a_Pr_clearValues_15 (dko_154 _) (by decide +kernel)
theorem d_Pr_clearValues_18 : decode b_Pr_clearValues 18 = .ok (.aload_n 0, 1) := dk_0 a_Pr_clearValues_18 (dko_42 _)
theorem d_Pr_clearValues_19 : decode b_Pr_clearValues 19 = .ok (.getfield 50, 3) := dk_U2 a_Pr_clearValues_19 (dko_180 _) rfl
theorem d_Pr_clearValues_22 : decode b_Pr_clearValues 22 = .ok (.iload_n 1, 1) := dk_0 a_Pr_clearValues_22 (dko_27 _)
theorem d_Pr_clearValues_23 : decode b_Pr_clearValues 23 = .ok (.lconst 0, 1) := dk_0 a_Pr_clearValues_23 (dko_9 _)
theorem d_Pr_clearValues_24 : decode b_Pr_clearValues 24 = .ok (.lastore, 1) := dk_0 a_Pr_clearValues_24 (dko_80 _)
theorem d_Pr_clearValues_25 : decode b_Pr_clearValues 25 = .ok (.iinc 1 1, 3) := dk_US a_Pr_clearValues_25 (dko_132 _) (by decide +kernel)
theorem d_Pr_clearValues_28 : decode b_Pr_clearValues 28 = .ok (.goto (-26), 3) := dk_S2 a_Pr_clearValues_28 (dko_167 _) (by decide +kernel)
theorem d_Pr_clearValues_31 : decode b_Pr_clearValues 31 = .ok (.return_, 1) := dk_0 a_Pr_clearValues_31 (dko_177 _)
set_option maxHeartbeats 4000000 in
set_option maxRecDepth 100000 in
theorem ok_Pr_clearValues (pc : Nat) : OpS mt mi_Pr_clearValues pc (cs_Pr_clearValues pc) := (os_n (os_n (os_n (os_n (os_l (so_iconst d_Pr_clearValues_0 (by decide))) (os_l (so_istore_n d_Pr_clearValues_1 rfl (by decide)))) (os_n (os_l (so_iload_n d_Pr_clearValues_2 rfl)) (os_l (so_aload_n d_Pr_clearValues_3 rfl)))) (os_n (os_n (os_l (so_get (C := R_Pr) (T := F_Pr) (N := 18) (j := 10) in_Pr rfl (by decide) mw_457 d_Pr_clearValues_4)) (os_l (so_icge d_Pr_clearValues_7 (by decide)))) (os_n (os_l (so_aload_n d_Pr_clearValues_10 rfl)) (os_n (os_l (so_iload_n d_Pr_clearValues_11 rfl)) (os_l (so_callV (iv := mi_Pr_isSensed) rfl rfl rfl mw_1305 mw_1306 mw_1307 mw_12 mw_1308 ⟨by decide +kernel, by decide +kernel, by decide +kernel⟩ (by decide) d_Pr_clearValues_12)))))) (os_n (os_n (os_n (os_l (so_ifne d_Pr_clearValues_15 (by decide))) (os_l (so_aload_n d_Pr_clearValues_18 rfl))) (os_n (os_l (so_get (C := R_Pr) (T := F_Pr) (N := 18) (j := 15) in_Pr rfl (by decide) mw_467 d_Pr_clearValues_19)) (os_l (so_iload_n d_Pr_clearValues_22 rfl)))) (os_n (os_n (os_l (so_lconst d_Pr_clearValues_23 (by decide))) (os_l (so_lastore d_Pr_clearValues_24))) (os_n (os_l (so_iinc d_Pr_clearValues_25 (by decide) (by decide))) (os_n (os_l (so_goto d_Pr_clearValues_28 (by decide))) (os_l (so_return rfl d_Pr_clearValues_31)))))))
abbrev t_Pr_firstBlock_31 : List UInt8 := 172 :: []
abbrev t_Pr_firstBlock_30 : List UInt8 := 46 :: t_Pr_firstBlock_31
abbrev t_Pr_firstBlock_29 : List UInt8 := 27 :: t_Pr_firstBlock_30
abbrev t_Pr_firstBlock_26 : List UInt8 := 180 :: 0 :: 28 :: t_Pr_firstBlock_29
abbrev t_Pr_firstBlock_25 : List UInt8 := 42 :: t_Pr_firstBlock_26
abbrev t_Pr_firstBlock_22 : List UInt8 := 167 :: 0 :: 9 :: t_Pr_firstBlock_25
abbrev t_Pr_firstBlock_21 : List UInt8 := 46 :: t_Pr_firstBlock_22
abbrev t_Pr_firstBlock_20 : List UInt8 := 46 :: t_Pr_firstBlock_21
abbrev t_Pr_firstBlock_19 : List UInt8 := 27 :: t_Pr_firstBlock_20
abbrev t_Pr_firstBlock_16 : List UInt8 := 180 :: 0 :: 19 :: t_Pr_firstBlock_19
abbrev t_Pr_firstBlock_15 : List UInt8 := 42 :: t_Pr_firstBlock_16
abbrev t_Pr_firstBlock_12 : List UInt8 := 180 :: 0 :: 47 :: t_Pr_firstBlock_15
abbrev t_Pr_firstBlock_11 : List UInt8 := 42 :: t_Pr_firstBlock_12
abbrev t_Pr_firstBlock_8 : List UInt8 := 160 :: 0 :: 17 :: t_Pr_firstBlock_11
abbrev t_Pr_firstBlock_6 : List UInt8 := 16 :: 23 :: t_Pr_firstBlock_8
abbrev t_Pr_firstBlock_5 : List UInt8 := 46 :: t_Pr_firstBlock_6
abbrev t_Pr_firstBlock_4 : List UInt8 := 27 :: t_Pr_firstBlock_5
abbrev t_Pr_firstBlock_1 : List UInt8 := 180 :: 0 :: 15 :: t_Pr_firstBlock_4
abbrev t_Pr_firstBlock_0 : List UInt8 := 42 :: t_Pr_firstBlock_1
theorem a_Pr_firstBlock_0 : dk_at b_Pr_firstBlock 0 t_Pr_firstBlock_0 := dk_start (by decide +kernel)
theorem a_Pr_firstBlock_1 : dk_at b_Pr_firstBlock 1 t_Pr_firstBlock_1 := dk_go 1 a_Pr_firstBlock_0 rfl
theorem a_Pr_firstBlock_4 : dk_at b_Pr_firstBlock 4 t_Pr_firstBlock_4 := dk_go 3 a_Pr_firstBlock_1 rfl
theorem a_Pr_firstBlock_5 : dk_at b_Pr_firstBlock 5 t_Pr_firstBlock_5 := dk_go 1 a_Pr_firstBlock_4 rfl
theorem a_Pr_firstBlock_6 : dk_at b_Pr_firstBlock 6 t_Pr_firstBlock_6 := dk_go 1 a_Pr_firstBlock_5 rfl
theorem a_Pr_firstBlock_8 : dk_at b_Pr_firstBlock 8 t_Pr_firstBlock_8 := dk_go 2 a_Pr_firstBlock_6 rfl
theorem a_Pr_firstBlock_11 : dk_at b_Pr_firstBlock 11 t_Pr_firstBlock_11 := dk_go 3 a_Pr_firstBlock_8 rfl
theorem a_Pr_firstBlock_12 : dk_at b_Pr_firstBlock 12 t_Pr_firstBlock_12 := dk_go 1 a_Pr_firstBlock_11 rfl
theorem a_Pr_firstBlock_15 : dk_at b_Pr_firstBlock 15 t_Pr_firstBlock_15 := dk_go 3 a_Pr_firstBlock_12 rfl
theorem a_Pr_firstBlock_16 : dk_at b_Pr_firstBlock 16 t_Pr_firstBlock_16 := dk_go 1 a_Pr_firstBlock_15 rfl
theorem a_Pr_firstBlock_19 : dk_at b_Pr_firstBlock 19 t_Pr_firstBlock_19 := dk_go 3 a_Pr_firstBlock_16 rfl
theorem a_Pr_firstBlock_20 : dk_at b_Pr_firstBlock 20 t_Pr_firstBlock_20 := dk_go 1 a_Pr_firstBlock_19 rfl
theorem a_Pr_firstBlock_21 : dk_at b_Pr_firstBlock 21 t_Pr_firstBlock_21 := dk_go 1 a_Pr_firstBlock_20 rfl
theorem a_Pr_firstBlock_22 : dk_at b_Pr_firstBlock 22 t_Pr_firstBlock_22 := dk_go 1 a_Pr_firstBlock_21 rfl
theorem a_Pr_firstBlock_25 : dk_at b_Pr_firstBlock 25 t_Pr_firstBlock_25 := dk_go 3 a_Pr_firstBlock_22 rfl
theorem a_Pr_firstBlock_26 : dk_at b_Pr_firstBlock 26 t_Pr_firstBlock_26 := dk_go 1 a_Pr_firstBlock_25 rfl
theorem a_Pr_firstBlock_29 : dk_at b_Pr_firstBlock 29 t_Pr_firstBlock_29 := dk_go 3 a_Pr_firstBlock_26 rfl
theorem a_Pr_firstBlock_30 : dk_at b_Pr_firstBlock 30 t_Pr_firstBlock_30 := dk_go 1 a_Pr_firstBlock_29 rfl
theorem a_Pr_firstBlock_31 : dk_at b_Pr_firstBlock 31 t_Pr_firstBlock_31 := dk_go 1 a_Pr_firstBlock_30 rfl
theorem d_Pr_firstBlock_0 : decode b_Pr_firstBlock 0 = .ok (.aload_n 0, 1) := dk_0 a_Pr_firstBlock_0 (dko_42 _)
theorem d_Pr_firstBlock_1 : decode b_Pr_firstBlock 1 = .ok (.getfield 15, 3) := dk_U2 a_Pr_firstBlock_1 (dko_180 _) rfl
theorem d_Pr_firstBlock_4 : decode b_Pr_firstBlock 4 = .ok (.iload_n 1, 1) := dk_0 a_Pr_firstBlock_4 (dko_27 _)
theorem d_Pr_firstBlock_5 : decode b_Pr_firstBlock 5 = .ok (.iaload, 1) := dk_0 a_Pr_firstBlock_5 (dko_46 _)
theorem d_Pr_firstBlock_6 : decode b_Pr_firstBlock 6 = .ok (.bipush 23, 2) := dk_S1 a_Pr_firstBlock_6 (dko_16 _) (by decide +kernel)
theorem d_Pr_firstBlock_8 : decode b_Pr_firstBlock 8 = .ok (.if_icmp .ne 17, 3) := dk_S2 a_Pr_firstBlock_8 (dko_160 _) (by decide +kernel)
theorem d_Pr_firstBlock_11 : decode b_Pr_firstBlock 11 = .ok (.aload_n 0, 1) := dk_0 a_Pr_firstBlock_11 (dko_42 _)
theorem d_Pr_firstBlock_12 : decode b_Pr_firstBlock 12 = .ok (.getfield 47, 3) := dk_U2 a_Pr_firstBlock_12 (dko_180 _) rfl
theorem d_Pr_firstBlock_15 : decode b_Pr_firstBlock 15 = .ok (.aload_n 0, 1) := dk_0 a_Pr_firstBlock_15 (dko_42 _)
theorem d_Pr_firstBlock_16 : decode b_Pr_firstBlock 16 = .ok (.getfield 19, 3) := dk_U2 a_Pr_firstBlock_16 (dko_180 _) rfl
theorem d_Pr_firstBlock_19 : decode b_Pr_firstBlock 19 = .ok (.iload_n 1, 1) := dk_0 a_Pr_firstBlock_19 (dko_27 _)
theorem d_Pr_firstBlock_20 : decode b_Pr_firstBlock 20 = .ok (.iaload, 1) := dk_0 a_Pr_firstBlock_20 (dko_46 _)
theorem d_Pr_firstBlock_21 : decode b_Pr_firstBlock 21 = .ok (.iaload, 1) := dk_0 a_Pr_firstBlock_21 (dko_46 _)
theorem d_Pr_firstBlock_22 : decode b_Pr_firstBlock 22 = .ok (.goto 9, 3) := dk_S2 a_Pr_firstBlock_22 (dko_167 _) (by decide +kernel)
theorem d_Pr_firstBlock_25 : decode b_Pr_firstBlock 25 = .ok (.aload_n 0, 1) := dk_0 a_Pr_firstBlock_25 (dko_42 _)
theorem d_Pr_firstBlock_26 : decode b_Pr_firstBlock 26 = .ok (.getfield 28, 3) := dk_U2 a_Pr_firstBlock_26 (dko_180 _) rfl
theorem d_Pr_firstBlock_29 : decode b_Pr_firstBlock 29 = .ok (.iload_n 1, 1) := dk_0 a_Pr_firstBlock_29 (dko_27 _)
theorem d_Pr_firstBlock_30 : decode b_Pr_firstBlock 30 = .ok (.iaload, 1) := dk_0 a_Pr_firstBlock_30 (dko_46 _)
theorem d_Pr_firstBlock_31 : decode b_Pr_firstBlock 31 = .ok (.ireturn, 1) := dk_0 a_Pr_firstBlock_31 (dko_172 _)
set_option maxHeartbeats 4000000 in
set_option maxRecDepth 100000 in
theorem ok_Pr_firstBlock (pc : Nat) : OpS mt mi_Pr_firstBlock pc (cs_Pr_firstBlock pc) := (os_n (os_n (os_n (os_n (os_l (so_aload_n d_Pr_firstBlock_0 rfl)) (os_l (so_get (C := R_Pr) (T := F_Pr) (N := 18) (j := 3) in_Pr rfl (by decide) mw_437 d_Pr_firstBlock_1))) (os_n (os_l (so_iload_n d_Pr_firstBlock_4 rfl)) (os_l (so_iaload d_Pr_firstBlock_5)))) (os_n (os_n (os_l (so_bipush d_Pr_firstBlock_6 (by decide))) (os_l (so_icne d_Pr_firstBlock_8 (by decide)))) (os_n (os_l (so_aload_n d_Pr_firstBlock_11 rfl)) (os_n (os_l (so_get (C := R_Pr) (T := F_Pr) (N := 18) (j := 14) in_Pr rfl (by decide) mw_465 d_Pr_firstBlock_12)) (os_l (so_aload_n d_Pr_firstBlock_15 rfl)))))) (os_n (os_n (os_n (os_l (so_get (C := R_Pr) (T := F_Pr) (N := 18) (j := 4) in_Pr rfl (by decide) mw_440 d_Pr_firstBlock_16)) (os_l (so_iload_n d_Pr_firstBlock_19 rfl))) (os_n (os_l (so_iaload d_Pr_firstBlock_20)) (os_n (os_l (so_iaload d_Pr_firstBlock_21)) (os_l (so_goto d_Pr_firstBlock_22 (by decide)))))) (os_n (os_n (os_l (so_aload_n d_Pr_firstBlock_25 rfl)) (os_l (so_get (C := R_Pr) (T := F_Pr) (N := 18) (j := 7) in_Pr rfl (by decide) mw_449 d_Pr_firstBlock_26))) (os_n (os_l (so_iload_n d_Pr_firstBlock_29 rfl)) (os_n (os_l (so_iaload d_Pr_firstBlock_30)) (os_l (so_ireturn rfl d_Pr_firstBlock_31)))))))
abbrev t_Rd_read_300 : List UInt8 := 172 :: []
abbrev t_Rd_read_297 : List UInt8 := 180 :: 0 :: 60 :: t_Rd_read_300
abbrev t_Rd_read_296 : List UInt8 := 42 :: t_Rd_read_297
abbrev t_Rd_read_293 : List UInt8 := 182 :: 0 :: 108 :: t_Rd_read_296
abbrev t_Rd_read_292 : List UInt8 := 42 :: t_Rd_read_293
abbrev t_Rd_read_289 : List UInt8 := 164 :: 0 :: 7 :: t_Rd_read_292
abbrev t_Rd_read_287 : List UInt8 := 16 :: 40 :: t_Rd_read_289
abbrev t_Rd_read_285 : List UInt8 := 21 :: 4 :: t_Rd_read_287
abbrev t_Rd_read_282 : List UInt8 := 163 :: 0 :: 10 :: t_Rd_read_285
abbrev t_Rd_read_279 : List UInt8 := 17 :: 1 :: 244 :: t_Rd_read_282
abbrev t_Rd_read_278 : List UInt8 := 29 :: t_Rd_read_279
abbrev t_Rd_read_275 : List UInt8 := 156 :: 0 :: 21 :: t_Rd_read_278
abbrev t_Rd_read_272 : List UInt8 := 180 :: 0 :: 60 :: t_Rd_read_275
abbrev t_Rd_read_271 : List UInt8 := 42 :: t_Rd_read_272
abbrev t_Rd_read_268 : List UInt8 := 167 :: 255 :: 160 :: t_Rd_read_271
abbrev t_Rd_read_265 : List UInt8 := 132 :: 6 :: 1 :: t_Rd_read_268
abbrev t_Rd_read_263 : List UInt8 := 54 :: 5 :: t_Rd_read_265
abbrev t_Rd_read_261 : List UInt8 := 21 :: 7 :: t_Rd_read_263
abbrev t_Rd_read_260 : List UInt8 := 79 :: t_Rd_read_261
abbrev t_Rd_read_258 : List UInt8 := 21 :: 7 :: t_Rd_read_260
abbrev t_Rd_read_256 : List UInt8 := 21 :: 5 :: t_Rd_read_258
abbrev t_Rd_read_253 : List UInt8 := 180 :: 0 :: 105 :: t_Rd_read_256
abbrev t_Rd_read_250 : List UInt8 := 180 :: 0 :: 44 :: t_Rd_read_253
abbrev t_Rd_read_249 : List UInt8 := 42 :: t_Rd_read_250
abbrev t_Rd_read_246 : List UInt8 := 167 :: 0 :: 15 :: t_Rd_read_249
abbrev t_Rd_read_243 : List UInt8 := 181 :: 0 :: 102 :: t_Rd_read_246
abbrev t_Rd_read_241 : List UInt8 := 21 :: 7 :: t_Rd_read_243
abbrev t_Rd_read_238 : List UInt8 := 180 :: 0 :: 44 :: t_Rd_read_241
abbrev t_Rd_read_237 : List UInt8 := 42 :: t_Rd_read_238
abbrev t_Rd_read_234 : List UInt8 := 156 :: 0 :: 15 :: t_Rd_read_237
abbrev t_Rd_read_232 : List UInt8 := 21 :: 5 :: t_Rd_read_234
abbrev t_Rd_read_230 : List UInt8 := 54 :: 4 :: t_Rd_read_232
abbrev t_Rd_read_227 : List UInt8 := 184 :: 0 :: 99 :: t_Rd_read_230
abbrev t_Rd_read_226 : List UInt8 := 46 :: t_Rd_read_227
abbrev t_Rd_read_224 : List UInt8 := 21 :: 7 :: t_Rd_read_226
abbrev t_Rd_read_221 : List UInt8 := 180 :: 0 :: 15 :: t_Rd_read_224
abbrev t_Rd_read_220 : List UInt8 := 42 :: t_Rd_read_221
abbrev t_Rd_read_218 : List UInt8 := 21 :: 4 :: t_Rd_read_220
abbrev t_Rd_read_217 : List UInt8 := 62 :: t_Rd_read_218
abbrev t_Rd_read_214 : List UInt8 := 184 :: 0 :: 94 :: t_Rd_read_217
abbrev t_Rd_read_211 : List UInt8 := 17 :: 1 :: 245 :: t_Rd_read_214
abbrev t_Rd_read_210 : List UInt8 := 96 :: t_Rd_read_211
abbrev t_Rd_read_209 : List UInt8 := 46 :: t_Rd_read_210
abbrev t_Rd_read_207 : List UInt8 := 21 :: 7 :: t_Rd_read_209
abbrev t_Rd_read_204 : List UInt8 := 180 :: 0 :: 9 :: t_Rd_read_207
abbrev t_Rd_read_203 : List UInt8 := 42 :: t_Rd_read_204
abbrev t_Rd_read_202 : List UInt8 := 29 :: t_Rd_read_203
abbrev t_Rd_read_200 : List UInt8 := 54 :: 7 :: t_Rd_read_202
abbrev t_Rd_read_197 : List UInt8 := 182 :: 0 :: 91 :: t_Rd_read_200
abbrev t_Rd_read_196 : List UInt8 := 42 :: t_Rd_read_197
abbrev t_Rd_read_193 : List UInt8 := 159 :: 0 :: 78 :: t_Rd_read_196
abbrev t_Rd_read_191 : List UInt8 := 16 :: 32 :: t_Rd_read_193
abbrev t_Rd_read_188 : List UInt8 := 180 :: 0 :: 66 :: t_Rd_read_191
abbrev t_Rd_read_187 : List UInt8 := 42 :: t_Rd_read_188
abbrev t_Rd_read_184 : List UInt8 := 156 :: 0 :: 87 :: t_Rd_read_187
abbrev t_Rd_read_181 : List UInt8 := 180 :: 0 :: 60 :: t_Rd_read_184
abbrev t_Rd_read_180 : List UInt8 := 42 :: t_Rd_read_181
abbrev t_Rd_read_177 : List UInt8 := 163 :: 0 :: 94 :: t_Rd_read_180
abbrev t_Rd_read_174 : List UInt8 := 17 :: 15 :: 160 :: t_Rd_read_177
abbrev t_Rd_read_172 : List UInt8 := 21 :: 6 :: t_Rd_read_174
abbrev t_Rd_read_170 : List UInt8 := 54 :: 6 :: t_Rd_read_172
abbrev t_Rd_read_169 : List UInt8 := 3 :: t_Rd_read_170
abbrev t_Rd_read_167 : List UInt8 := 54 :: 5 :: t_Rd_read_169
abbrev t_Rd_read_166 : List UInt8 := 2 :: t_Rd_read_167
abbrev t_Rd_read_164 : List UInt8 := 54 :: 4 :: t_Rd_read_166
abbrev t_Rd_read_163 : List UInt8 := 3 :: t_Rd_read_164
abbrev t_Rd_read_162 : List UInt8 := 62 :: t_Rd_read_163
abbrev t_Rd_read_161 : List UInt8 := 3 :: t_Rd_read_162
abbrev t_Rd_read_158 : List UInt8 := 167 :: 255 :: 136 :: t_Rd_read_161
abbrev t_Rd_read_155 : List UInt8 := 132 :: 3 :: 1 :: t_Rd_read_158
abbrev t_Rd_read_152 : List UInt8 := 182 :: 0 :: 87 :: t_Rd_read_155
abbrev t_Rd_read_150 : List UInt8 := 21 :: 7 :: t_Rd_read_152
abbrev t_Rd_read_148 : List UInt8 := 21 :: 8 :: t_Rd_read_150
abbrev t_Rd_read_146 : List UInt8 := 21 :: 4 :: t_Rd_read_148
abbrev t_Rd_read_144 : List UInt8 := 22 :: 5 :: t_Rd_read_146
abbrev t_Rd_read_141 : List UInt8 := 180 :: 0 :: 44 :: t_Rd_read_144
abbrev t_Rd_read_140 : List UInt8 := 42 :: t_Rd_read_141
abbrev t_Rd_read_137 : List UInt8 := 182 :: 0 :: 83 :: t_Rd_read_140
abbrev t_Rd_read_135 : List UInt8 := 16 :: 59 :: t_Rd_read_137
abbrev t_Rd_read_134 : List UInt8 := 42 :: t_Rd_read_135
abbrev t_Rd_read_131 : List UInt8 := 167 :: 0 :: 9 :: t_Rd_read_134
abbrev t_Rd_read_130 : List UInt8 := 87 :: t_Rd_read_131
abbrev t_Rd_read_127 : List UInt8 := 182 :: 0 :: 79 :: t_Rd_read_130
abbrev t_Rd_read_126 : List UInt8 := 3 :: t_Rd_read_127
abbrev t_Rd_read_124 : List UInt8 := 16 :: 10 :: t_Rd_read_126
abbrev t_Rd_read_123 : List UInt8 := 42 :: t_Rd_read_124
abbrev t_Rd_read_120 : List UInt8 := 160 :: 0 :: 14 :: t_Rd_read_123
abbrev t_Rd_read_118 : List UInt8 := 16 :: 10 :: t_Rd_read_120
abbrev t_Rd_read_116 : List UInt8 := 21 :: 4 :: t_Rd_read_118
abbrev t_Rd_read_114 : List UInt8 := 54 :: 8 :: t_Rd_read_116
abbrev t_Rd_read_111 : List UInt8 := 182 :: 0 :: 76 :: t_Rd_read_114
abbrev t_Rd_read_110 : List UInt8 := 42 :: t_Rd_read_111
abbrev t_Rd_read_107 : List UInt8 := 167 :: 0 :: 7 :: t_Rd_read_110
abbrev t_Rd_read_106 : List UInt8 := 3 :: t_Rd_read_107
abbrev t_Rd_read_103 : List UInt8 := 160 :: 0 :: 7 :: t_Rd_read_106
abbrev t_Rd_read_101 : List UInt8 := 16 :: 10 :: t_Rd_read_103
abbrev t_Rd_read_99 : List UInt8 := 21 :: 4 :: t_Rd_read_101
abbrev t_Rd_read_97 : List UInt8 := 54 :: 7 :: t_Rd_read_99
abbrev t_Rd_read_96 : List UInt8 := 2 :: t_Rd_read_97
abbrev t_Rd_read_93 : List UInt8 := 167 :: 0 :: 4 :: t_Rd_read_96
abbrev t_Rd_read_90 : List UInt8 := 182 :: 0 :: 73 :: t_Rd_read_93
abbrev t_Rd_read_89 : List UInt8 := 42 :: t_Rd_read_90
abbrev t_Rd_read_86 : List UInt8 := 160 :: 0 :: 10 :: t_Rd_read_89
abbrev t_Rd_read_84 : List UInt8 := 16 :: 10 :: t_Rd_read_86
abbrev t_Rd_read_82 : List UInt8 := 21 :: 4 :: t_Rd_read_84
abbrev t_Rd_read_80 : List UInt8 := 55 :: 5 :: t_Rd_read_82
abbrev t_Rd_read_77 : List UInt8 := 182 :: 0 :: 69 :: t_Rd_read_80
abbrev t_Rd_read_76 : List UInt8 := 42 :: t_Rd_read_77
abbrev t_Rd_read_74 : List UInt8 := 54 :: 4 :: t_Rd_read_76
abbrev t_Rd_read_71 : List UInt8 := 180 :: 0 :: 66 :: t_Rd_read_74
abbrev t_Rd_read_70 : List UInt8 := 42 :: t_Rd_read_71
abbrev t_Rd_read_67 : List UInt8 := 163 :: 0 :: 94 :: t_Rd_read_70
abbrev t_Rd_read_65 : List UInt8 := 16 :: 10 :: t_Rd_read_67
abbrev t_Rd_read_62 : List UInt8 := 180 :: 0 :: 66 :: t_Rd_read_65
abbrev t_Rd_read_61 : List UInt8 := 42 :: t_Rd_read_62
abbrev t_Rd_read_58 : List UInt8 := 161 :: 0 :: 103 :: t_Rd_read_61
abbrev t_Rd_read_56 : List UInt8 := 16 :: 8 :: t_Rd_read_58
abbrev t_Rd_read_53 : List UInt8 := 180 :: 0 :: 66 :: t_Rd_read_56
abbrev t_Rd_read_52 : List UInt8 := 42 :: t_Rd_read_53
abbrev t_Rd_read_49 : List UInt8 := 156 :: 0 :: 112 :: t_Rd_read_52
abbrev t_Rd_read_46 : List UInt8 := 180 :: 0 :: 60 :: t_Rd_read_49
abbrev t_Rd_read_45 : List UInt8 := 42 :: t_Rd_read_46
abbrev t_Rd_read_42 : List UInt8 := 163 :: 0 :: 119 :: t_Rd_read_45
abbrev t_Rd_read_39 : List UInt8 := 17 :: 15 :: 160 :: t_Rd_read_42
abbrev t_Rd_read_38 : List UInt8 := 29 :: t_Rd_read_39
abbrev t_Rd_read_37 : List UInt8 := 62 :: t_Rd_read_38
abbrev t_Rd_read_36 : List UInt8 := 3 :: t_Rd_read_37
abbrev t_Rd_read_33 : List UInt8 := 182 :: 0 :: 63 :: t_Rd_read_36
abbrev t_Rd_read_32 : List UInt8 := 42 :: t_Rd_read_33
abbrev t_Rd_read_29 : List UInt8 := 181 :: 0 :: 60 :: t_Rd_read_32
abbrev t_Rd_read_28 : List UInt8 := 2 :: t_Rd_read_29
abbrev t_Rd_read_27 : List UInt8 := 42 :: t_Rd_read_28
abbrev t_Rd_read_24 : List UInt8 := 181 :: 0 :: 57 :: t_Rd_read_27
abbrev t_Rd_read_23 : List UInt8 := 3 :: t_Rd_read_24
abbrev t_Rd_read_22 : List UInt8 := 42 :: t_Rd_read_23
abbrev t_Rd_read_19 : List UInt8 := 181 :: 0 :: 53 :: t_Rd_read_22
abbrev t_Rd_read_18 : List UInt8 := 3 :: t_Rd_read_19
abbrev t_Rd_read_17 : List UInt8 := 42 :: t_Rd_read_18
abbrev t_Rd_read_14 : List UInt8 := 182 :: 0 :: 48 :: t_Rd_read_17
abbrev t_Rd_read_11 : List UInt8 := 180 :: 0 :: 44 :: t_Rd_read_14
abbrev t_Rd_read_10 : List UInt8 := 42 :: t_Rd_read_11
abbrev t_Rd_read_7 : List UInt8 := 181 :: 0 :: 44 :: t_Rd_read_10
abbrev t_Rd_read_6 : List UInt8 := 44 :: t_Rd_read_7
abbrev t_Rd_read_5 : List UInt8 := 42 :: t_Rd_read_6
abbrev t_Rd_read_2 : List UInt8 := 181 :: 0 :: 40 :: t_Rd_read_5
abbrev t_Rd_read_1 : List UInt8 := 43 :: t_Rd_read_2
abbrev t_Rd_read_0 : List UInt8 := 42 :: t_Rd_read_1
theorem a_Rd_read_0 : dk_at b_Rd_read 0 t_Rd_read_0 := dk_start (by decide +kernel)
theorem a_Rd_read_1 : dk_at b_Rd_read 1 t_Rd_read_1 := dk_go 1 a_Rd_read_0 rfl
theorem a_Rd_read_2 : dk_at b_Rd_read 2 t_Rd_read_2 := dk_go 1 a_Rd_read_1 rfl
theorem a_Rd_read_5 : dk_at b_Rd_read 5 t_Rd_read_5 := dk_go 3 a_Rd_read_2 rfl
theorem a_Rd_read_6 : dk_at b_Rd_read 6 t_Rd_read_6 := dk_go 1 a_Rd_read_5 rfl
theorem a_Rd_read_7 : dk_at b_Rd_read 7 t_Rd_read_7 := dk_go 1 a_Rd_read_6 rfl
theorem a_Rd_read_10 : dk_at b_Rd_read 10 t_Rd_read_10 := dk_go 3 a_Rd_read_7 rfl
theorem a_Rd_read_11 : dk_at b_Rd_read 11 t_Rd_read_11 := dk_go 1 a_Rd_read_10 rfl
theorem a_Rd_read_14 : dk_at b_Rd_read 14 t_Rd_read_14 := dk_go 3 a_Rd_read_11 rfl
theorem a_Rd_read_17 : dk_at b_Rd_read 17 t_Rd_read_17 := dk_go 3 a_Rd_read_14 rfl
theorem a_Rd_read_18 : dk_at b_Rd_read 18 t_Rd_read_18 := dk_go 1 a_Rd_read_17 rfl
theorem a_Rd_read_19 : dk_at b_Rd_read 19 t_Rd_read_19 := dk_go 1 a_Rd_read_18 rfl
theorem a_Rd_read_22 : dk_at b_Rd_read 22 t_Rd_read_22 := dk_go 3 a_Rd_read_19 rfl
theorem a_Rd_read_23 : dk_at b_Rd_read 23 t_Rd_read_23 := dk_go 1 a_Rd_read_22 rfl
theorem a_Rd_read_24 : dk_at b_Rd_read 24 t_Rd_read_24 := dk_go 1 a_Rd_read_23 rfl
theorem a_Rd_read_27 : dk_at b_Rd_read 27 t_Rd_read_27 := dk_go 3 a_Rd_read_24 rfl
theorem a_Rd_read_28 : dk_at b_Rd_read 28 t_Rd_read_28 := dk_go 1 a_Rd_read_27 rfl
theorem a_Rd_read_29 : dk_at b_Rd_read 29 t_Rd_read_29 := dk_go 1 a_Rd_read_28 rfl
theorem a_Rd_read_32 : dk_at b_Rd_read 32 t_Rd_read_32 := dk_go 3 a_Rd_read_29 rfl
theorem a_Rd_read_33 : dk_at b_Rd_read 33 t_Rd_read_33 := dk_go 1 a_Rd_read_32 rfl
theorem a_Rd_read_36 : dk_at b_Rd_read 36 t_Rd_read_36 := dk_go 3 a_Rd_read_33 rfl
theorem a_Rd_read_37 : dk_at b_Rd_read 37 t_Rd_read_37 := dk_go 1 a_Rd_read_36 rfl
theorem a_Rd_read_38 : dk_at b_Rd_read 38 t_Rd_read_38 := dk_go 1 a_Rd_read_37 rfl
theorem a_Rd_read_39 : dk_at b_Rd_read 39 t_Rd_read_39 := dk_go 1 a_Rd_read_38 rfl
theorem a_Rd_read_42 : dk_at b_Rd_read 42 t_Rd_read_42 := dk_go 3 a_Rd_read_39 rfl
theorem a_Rd_read_45 : dk_at b_Rd_read 45 t_Rd_read_45 := dk_go 3 a_Rd_read_42 rfl
theorem a_Rd_read_46 : dk_at b_Rd_read 46 t_Rd_read_46 := dk_go 1 a_Rd_read_45 rfl
theorem a_Rd_read_49 : dk_at b_Rd_read 49 t_Rd_read_49 := dk_go 3 a_Rd_read_46 rfl
theorem a_Rd_read_52 : dk_at b_Rd_read 52 t_Rd_read_52 := dk_go 3 a_Rd_read_49 rfl
theorem a_Rd_read_53 : dk_at b_Rd_read 53 t_Rd_read_53 := dk_go 1 a_Rd_read_52 rfl
theorem a_Rd_read_56 : dk_at b_Rd_read 56 t_Rd_read_56 := dk_go 3 a_Rd_read_53 rfl
theorem a_Rd_read_58 : dk_at b_Rd_read 58 t_Rd_read_58 := dk_go 2 a_Rd_read_56 rfl
theorem a_Rd_read_61 : dk_at b_Rd_read 61 t_Rd_read_61 := dk_go 3 a_Rd_read_58 rfl
theorem a_Rd_read_62 : dk_at b_Rd_read 62 t_Rd_read_62 := dk_go 1 a_Rd_read_61 rfl
theorem a_Rd_read_65 : dk_at b_Rd_read 65 t_Rd_read_65 := dk_go 3 a_Rd_read_62 rfl
theorem a_Rd_read_67 : dk_at b_Rd_read 67 t_Rd_read_67 := dk_go 2 a_Rd_read_65 rfl
theorem a_Rd_read_70 : dk_at b_Rd_read 70 t_Rd_read_70 := dk_go 3 a_Rd_read_67 rfl
theorem a_Rd_read_71 : dk_at b_Rd_read 71 t_Rd_read_71 := dk_go 1 a_Rd_read_70 rfl
theorem a_Rd_read_74 : dk_at b_Rd_read 74 t_Rd_read_74 := dk_go 3 a_Rd_read_71 rfl
theorem a_Rd_read_76 : dk_at b_Rd_read 76 t_Rd_read_76 := dk_go 2 a_Rd_read_74 rfl
theorem a_Rd_read_77 : dk_at b_Rd_read 77 t_Rd_read_77 := dk_go 1 a_Rd_read_76 rfl
theorem a_Rd_read_80 : dk_at b_Rd_read 80 t_Rd_read_80 := dk_go 3 a_Rd_read_77 rfl
theorem a_Rd_read_82 : dk_at b_Rd_read 82 t_Rd_read_82 := dk_go 2 a_Rd_read_80 rfl
theorem a_Rd_read_84 : dk_at b_Rd_read 84 t_Rd_read_84 := dk_go 2 a_Rd_read_82 rfl
theorem a_Rd_read_86 : dk_at b_Rd_read 86 t_Rd_read_86 := dk_go 2 a_Rd_read_84 rfl
theorem a_Rd_read_89 : dk_at b_Rd_read 89 t_Rd_read_89 := dk_go 3 a_Rd_read_86 rfl
theorem a_Rd_read_90 : dk_at b_Rd_read 90 t_Rd_read_90 := dk_go 1 a_Rd_read_89 rfl
theorem a_Rd_read_93 : dk_at b_Rd_read 93 t_Rd_read_93 := dk_go 3 a_Rd_read_90 rfl
theorem a_Rd_read_96 : dk_at b_Rd_read 96 t_Rd_read_96 := dk_go 3 a_Rd_read_93 rfl
theorem a_Rd_read_97 : dk_at b_Rd_read 97 t_Rd_read_97 := dk_go 1 a_Rd_read_96 rfl
theorem a_Rd_read_99 : dk_at b_Rd_read 99 t_Rd_read_99 := dk_go 2 a_Rd_read_97 rfl
theorem a_Rd_read_101 : dk_at b_Rd_read 101 t_Rd_read_101 := dk_go 2 a_Rd_read_99 rfl
theorem a_Rd_read_103 : dk_at b_Rd_read 103 t_Rd_read_103 := dk_go 2 a_Rd_read_101 rfl
theorem a_Rd_read_106 : dk_at b_Rd_read 106 t_Rd_read_106 := dk_go 3 a_Rd_read_103 rfl
theorem a_Rd_read_107 : dk_at b_Rd_read 107 t_Rd_read_107 := dk_go 1 a_Rd_read_106 rfl
theorem a_Rd_read_110 : dk_at b_Rd_read 110 t_Rd_read_110 := dk_go 3 a_Rd_read_107 rfl
theorem a_Rd_read_111 : dk_at b_Rd_read 111 t_Rd_read_111 := dk_go 1 a_Rd_read_110 rfl
theorem a_Rd_read_114 : dk_at b_Rd_read 114 t_Rd_read_114 := dk_go 3 a_Rd_read_111 rfl
theorem a_Rd_read_116 : dk_at b_Rd_read 116 t_Rd_read_116 := dk_go 2 a_Rd_read_114 rfl
theorem a_Rd_read_118 : dk_at b_Rd_read 118 t_Rd_read_118 := dk_go 2 a_Rd_read_116 rfl
theorem a_Rd_read_120 : dk_at b_Rd_read 120 t_Rd_read_120 := dk_go 2 a_Rd_read_118 rfl
theorem a_Rd_read_123 : dk_at b_Rd_read 123 t_Rd_read_123 := dk_go 3 a_Rd_read_120 rfl
theorem a_Rd_read_124 : dk_at b_Rd_read 124 t_Rd_read_124 := dk_go 1 a_Rd_read_123 rfl
theorem a_Rd_read_126 : dk_at b_Rd_read 126 t_Rd_read_126 := dk_go 2 a_Rd_read_124 rfl
theorem a_Rd_read_127 : dk_at b_Rd_read 127 t_Rd_read_127 := dk_go 1 a_Rd_read_126 rfl
theorem a_Rd_read_130 : dk_at b_Rd_read 130 t_Rd_read_130 := dk_go 3 a_Rd_read_127 rfl
theorem a_Rd_read_131 : dk_at b_Rd_read 131 t_Rd_read_131 := dk_go 1 a_Rd_read_130 rfl
theorem a_Rd_read_134 : dk_at b_Rd_read 134 t_Rd_read_134 := dk_go 3 a_Rd_read_131 rfl
theorem a_Rd_read_135 : dk_at b_Rd_read 135 t_Rd_read_135 := dk_go 1 a_Rd_read_134 rfl
theorem a_Rd_read_137 : dk_at b_Rd_read 137 t_Rd_read_137 := dk_go 2 a_Rd_read_135 rfl
theorem a_Rd_read_140 : dk_at b_Rd_read 140 t_Rd_read_140 := dk_go 3 a_Rd_read_137 rfl
theorem a_Rd_read_141 : dk_at b_Rd_read 141 t_Rd_read_141 := dk_go 1 a_Rd_read_140 rfl
theorem a_Rd_read_144 : dk_at b_Rd_read 144 t_Rd_read_144 := dk_go 3 a_Rd_read_141 rfl
theorem a_Rd_read_146 : dk_at b_Rd_read 146 t_Rd_read_146 := dk_go 2 a_Rd_read_144 rfl
theorem a_Rd_read_148 : dk_at b_Rd_read 148 t_Rd_read_148 := dk_go 2 a_Rd_read_146 rfl
theorem a_Rd_read_150 : dk_at b_Rd_read 150 t_Rd_read_150 := dk_go 2 a_Rd_read_148 rfl
theorem a_Rd_read_152 : dk_at b_Rd_read 152 t_Rd_read_152 := dk_go 2 a_Rd_read_150 rfl
theorem a_Rd_read_155 : dk_at b_Rd_read 155 t_Rd_read_155 := dk_go 3 a_Rd_read_152 rfl
theorem a_Rd_read_158 : dk_at b_Rd_read 158 t_Rd_read_158 := dk_go 3 a_Rd_read_155 rfl
theorem a_Rd_read_161 : dk_at b_Rd_read 161 t_Rd_read_161 := dk_go 3 a_Rd_read_158 rfl
theorem a_Rd_read_162 : dk_at b_Rd_read 162 t_Rd_read_162 := dk_go 1 a_Rd_read_161 rfl
theorem a_Rd_read_163 : dk_at b_Rd_read 163 t_Rd_read_163 := dk_go 1 a_Rd_read_162 rfl
theorem a_Rd_read_164 : dk_at b_Rd_read 164 t_Rd_read_164 := dk_go 1 a_Rd_read_163 rfl
theorem a_Rd_read_166 : dk_at b_Rd_read 166 t_Rd_read_166 := dk_go 2 a_Rd_read_164 rfl
theorem a_Rd_read_167 : dk_at b_Rd_read 167 t_Rd_read_167 := dk_go 1 a_Rd_read_166 rfl
theorem a_Rd_read_169 : dk_at b_Rd_read 169 t_Rd_read_169 := dk_go 2 a_Rd_read_167 rfl
theorem a_Rd_read_170 : dk_at b_Rd_read 170 t_Rd_read_170 := dk_go 1 a_Rd_read_169 rfl
theorem a_Rd_read_172 : dk_at b_Rd_read 172 t_Rd_read_172 := dk_go 2 a_Rd_read_170 rfl
theorem a_Rd_read_174 : dk_at b_Rd_read 174 t_Rd_read_174 := dk_go 2 a_Rd_read_172 rfl
theorem a_Rd_read_177 : dk_at b_Rd_read 177 t_Rd_read_177 := dk_go 3 a_Rd_read_174 rfl
theorem a_Rd_read_180 : dk_at b_Rd_read 180 t_Rd_read_180 := dk_go 3 a_Rd_read_177 rfl
theorem a_Rd_read_181 : dk_at b_Rd_read 181 t_Rd_read_181 := dk_go 1 a_Rd_read_180 rfl
theorem a_Rd_read_184 : dk_at b_Rd_read 184 t_Rd_read_184 := dk_go 3 a_Rd_read_181 rfl
theorem a_Rd_read_187 : dk_at b_Rd_read 187 t_Rd_read_187 := dk_go 3 a_Rd_read_184 rfl
theorem a_Rd_read_188 : dk_at b_Rd_read 188 t_Rd_read_188 := dk_go 1 a_Rd_read_187 rfl
theorem a_Rd_read_191 : dk_at b_Rd_read 191 t_Rd_read_191 := dk_go 3 a_Rd_read_188 rfl
theorem a_Rd_read_193 : dk_at b_Rd_read 193 t_Rd_read_193 := dk_go 2 a_Rd_read_191 rfl
theorem a_Rd_read_196 : dk_at b_Rd_read 196 t_Rd_read_196 := dk_go 3 a_Rd_read_193 rfl
theorem a_Rd_read_197 : dk_at b_Rd_read 197 t_Rd_read_197 := dk_go 1 a_Rd_read_196 rfl
theorem a_Rd_read_200 : dk_at b_Rd_read 200 t_Rd_read_200 := dk_go 3 a_Rd_read_197 rfl
theorem a_Rd_read_202 : dk_at b_Rd_read 202 t_Rd_read_202 := dk_go 2 a_Rd_read_200 rfl
theorem a_Rd_read_203 : dk_at b_Rd_read 203 t_Rd_read_203 := dk_go 1 a_Rd_read_202 rfl
theorem a_Rd_read_204 : dk_at b_Rd_read 204 t_Rd_read_204 := dk_go 1 a_Rd_read_203 rfl
theorem a_Rd_read_207 : dk_at b_Rd_read 207 t_Rd_read_207 := dk_go 3 a_Rd_read_204 rfl
theorem a_Rd_read_209 : dk_at b_Rd_read 209 t_Rd_read_209 := dk_go 2 a_Rd_read_207 rfl
theorem a_Rd_read_210 : dk_at b_Rd_read 210 t_Rd_read_210 := dk_go 1 a_Rd_read_209 rfl
theorem a_Rd_read_211 : dk_at b_Rd_read 211 t_Rd_read_211 := dk_go 1 a_Rd_read_210 rfl
theorem a_Rd_read_214 : dk_at b_Rd_read 214 t_Rd_read_214 := dk_go 3 a_Rd_read_211 rfl
theorem a_Rd_read_217 : dk_at b_Rd_read 217 t_Rd_read_217 := dk_go 3 a_Rd_read_214 rfl
theorem a_Rd_read_218 : dk_at b_Rd_read 218 t_Rd_read_218 := dk_go 1 a_Rd_read_217 rfl
theorem a_Rd_read_220 : dk_at b_Rd_read 220 t_Rd_read_220 := dk_go 2 a_Rd_read_218 rfl
theorem a_Rd_read_221 : dk_at b_Rd_read 221 t_Rd_read_221 := dk_go 1 a_Rd_read_220 rfl
theorem a_Rd_read_224 : dk_at b_Rd_read 224 t_Rd_read_224 := dk_go 3 a_Rd_read_221 rfl
theorem a_Rd_read_226 : dk_at b_Rd_read 226 t_Rd_read_226 := dk_go 2 a_Rd_read_224 rfl
theorem a_Rd_read_227 : dk_at b_Rd_read 227 t_Rd_read_227 := dk_go 1 a_Rd_read_226 rfl
theorem a_Rd_read_230 : dk_at b_Rd_read 230 t_Rd_read_230 := dk_go 3 a_Rd_read_227 rfl
theorem a_Rd_read_232 : dk_at b_Rd_read 232 t_Rd_read_232 := dk_go 2 a_Rd_read_230 rfl
theorem a_Rd_read_234 : dk_at b_Rd_read 234 t_Rd_read_234 := dk_go 2 a_Rd_read_232 rfl
theorem a_Rd_read_237 : dk_at b_Rd_read 237 t_Rd_read_237 := dk_go 3 a_Rd_read_234 rfl
theorem a_Rd_read_238 : dk_at b_Rd_read 238 t_Rd_read_238 := dk_go 1 a_Rd_read_237 rfl
theorem a_Rd_read_241 : dk_at b_Rd_read 241 t_Rd_read_241 := dk_go 3 a_Rd_read_238 rfl
theorem a_Rd_read_243 : dk_at b_Rd_read 243 t_Rd_read_243 := dk_go 2 a_Rd_read_241 rfl
theorem a_Rd_read_246 : dk_at b_Rd_read 246 t_Rd_read_246 := dk_go 3 a_Rd_read_243 rfl
theorem a_Rd_read_249 : dk_at b_Rd_read 249 t_Rd_read_249 := dk_go 3 a_Rd_read_246 rfl
theorem a_Rd_read_250 : dk_at b_Rd_read 250 t_Rd_read_250 := dk_go 1 a_Rd_read_249 rfl
theorem a_Rd_read_253 : dk_at b_Rd_read 253 t_Rd_read_253 := dk_go 3 a_Rd_read_250 rfl
theorem a_Rd_read_256 : dk_at b_Rd_read 256 t_Rd_read_256 := dk_go 3 a_Rd_read_253 rfl
theorem a_Rd_read_258 : dk_at b_Rd_read 258 t_Rd_read_258 := dk_go 2 a_Rd_read_256 rfl
theorem a_Rd_read_260 : dk_at b_Rd_read 260 t_Rd_read_260 := dk_go 2 a_Rd_read_258 rfl
theorem a_Rd_read_261 : dk_at b_Rd_read 261 t_Rd_read_261 := dk_go 1 a_Rd_read_260 rfl
theorem a_Rd_read_263 : dk_at b_Rd_read 263 t_Rd_read_263 := dk_go 2 a_Rd_read_261 rfl
theorem a_Rd_read_265 : dk_at b_Rd_read 265 t_Rd_read_265 := dk_go 2 a_Rd_read_263 rfl
theorem a_Rd_read_268 : dk_at b_Rd_read 268 t_Rd_read_268 := dk_go 3 a_Rd_read_265 rfl
theorem a_Rd_read_271 : dk_at b_Rd_read 271 t_Rd_read_271 := dk_go 3 a_Rd_read_268 rfl
theorem a_Rd_read_272 : dk_at b_Rd_read 272 t_Rd_read_272 := dk_go 1 a_Rd_read_271 rfl
theorem a_Rd_read_275 : dk_at b_Rd_read 275 t_Rd_read_275 := dk_go 3 a_Rd_read_272 rfl
theorem a_Rd_read_278 : dk_at b_Rd_read 278 t_Rd_read_278 := dk_go 3 a_Rd_read_275 rfl
theorem a_Rd_read_279 : dk_at b_Rd_read 279 t_Rd_read_279 := dk_go 1 a_Rd_read_278 rfl
theorem a_Rd_read_282 : dk_at b_Rd_read 282 t_Rd_read_282 := dk_go 3 a_Rd_read_279 rfl
theorem a_Rd_read_285 : dk_at b_Rd_read 285 t_Rd_read_285 := dk_go 3 a_Rd_read_282 rfl
theorem a_Rd_read_287 : dk_at b_Rd_read 287 t_Rd_read_287 := dk_go 2 a_Rd_read_285 rfl
theorem a_Rd_read_289 : dk_at b_Rd_read 289 t_Rd_read_289 := dk_go 2 a_Rd_read_287 rfl
theorem a_Rd_read_292 : dk_at b_Rd_read 292 t_Rd_read_292 := dk_go 3 a_Rd_read_289 rfl
theorem a_Rd_read_293 : dk_at b_Rd_read 293 t_Rd_read_293 := dk_go 1 a_Rd_read_292 rfl
theorem a_Rd_read_296 : dk_at b_Rd_read 296 t_Rd_read_296 := dk_go 3 a_Rd_read_293 rfl
theorem a_Rd_read_297 : dk_at b_Rd_read 297 t_Rd_read_297 := dk_go 1 a_Rd_read_296 rfl
theorem a_Rd_read_300 : dk_at b_Rd_read 300 t_Rd_read_300 := dk_go 3 a_Rd_read_297 rfl
theorem d_Rd_read_0 : decode b_Rd_read 0 = .ok (.aload_n 0, 1) := dk_0 a_Rd_read_0 (dko_42 _)
theorem d_Rd_read_1 : decode b_Rd_read 1 = .ok (.aload_n 1, 1) := dk_0 a_Rd_read_1 (dko_43 _)
theorem d_Rd_read_2 : decode b_Rd_read 2 = .ok (.putfield 40, 3) := dk_U2 a_Rd_read_2 (dko_181 _) rfl
theorem d_Rd_read_5 : decode b_Rd_read 5 = .ok (.aload_n 0, 1) := dk_0 a_Rd_read_5 (dko_42 _)
theorem d_Rd_read_6 : decode b_Rd_read 6 = .ok (.aload_n 2, 1) := dk_0 a_Rd_read_6 (dko_44 _)
theorem d_Rd_read_7 : decode b_Rd_read 7 = .ok (.putfield 44, 3) := dk_U2 a_Rd_read_7 (dko_181 _) rfl
theorem d_Rd_read_10 : decode b_Rd_read 10 = .ok (.aload_n 0, 1) := dk_0 a_Rd_read_10 (dko_42 _)
theorem d_Rd_read_11 : decode b_Rd_read 11 = .ok (.getfield 44, 3) := dk_U2 a_Rd_read_11 (dko_180 _) rfl
theorem d_Rd_read_14 : decode b_Rd_read 14 = .ok (.invokevirtual 48, 3) := dk_U2 a_Rd_read_14 (dko_182 _) rfl
theorem d_Rd_read_17 : decode b_Rd_read 17 = .ok (.aload_n 0, 1) := dk_0 a_Rd_read_17 (dko_42 _)
theorem d_Rd_read_18 : decode b_Rd_read 18 = .ok (.iconst 0, 1) := dk_0 a_Rd_read_18 (dko_3 _)
theorem d_Rd_read_19 : decode b_Rd_read 19 = .ok (.putfield 53, 3) := dk_U2 a_Rd_read_19 (dko_181 _) rfl
theorem d_Rd_read_22 : decode b_Rd_read 22 = .ok (.aload_n 0, 1) := dk_0 a_Rd_read_22 (dko_42 _)
theorem d_Rd_read_23 : decode b_Rd_read 23 = .ok (.iconst 0, 1) := dk_0 a_Rd_read_23 (dko_3 _)
theorem d_Rd_read_24 : decode b_Rd_read 24 = .ok (.putfield 57, 3) := dk_U2 a_Rd_read_24 (dko_181 _) rfl
theorem d_Rd_read_27 : decode b_Rd_read 27 = .ok (.aload_n 0, 1) := dk_0 a_Rd_read_27 (dko_42 _)
theorem d_Rd_read_28 : decode b_Rd_read 28 = .ok (.iconst (-1), 1) := dk_0 a_Rd_read_28 (dko_2 _)
theorem d_Rd_read_29 : decode b_Rd_read 29 = .ok (.putfield 60, 3) := dk_U2 a_Rd_read_29 (dko_181 _) rfl
theorem d_Rd_read_32 : decode b_Rd_read 32 = .ok (.aload_n 0, 1) := dk_0 a_Rd_read_32 (dko_42 _)
theorem d_Rd_read_33 : decode b_Rd_read 33 = .ok (.invokevirtual 63, 3) := dk_U2 a_Rd_read_33 (dko_182 _) rfl
theorem d_Rd_read_36 : decode b_Rd_read 36 = .ok (.iconst 0, 1) := dk_0 a_Rd_read_36 (dko_3 _)
theorem d_Rd_read_37 : decode b_Rd_read 37 = .ok (.istore_n 3, 1) := dk_0 a_Rd_read_37 (dko_62 _)
theorem d_Rd_read_38 : decode b_Rd_read 38 = .ok (.iload_n 3, 1) := dk_0 a_Rd_read_38 (dko_29 _)
theorem d_Rd_read_39 : decode b_Rd_read 39 = .ok (.sipush 4000, 3) := dk_S2 a_Rd_read_39 (dko_17 _) (by decide +kernel)
theorem d_Rd_read_42 : decode b_Rd_read 42 = .ok (.if_icmp .gt 119, 3) := dk_S2 a_Rd_read_42 (dko_163 _) (by decide +kernel)
theorem d_Rd_read_45 : decode b_Rd_read 45 = .ok (.aload_n 0, 1) := dk_0 a_Rd_read_45 (dko_42 _)
theorem d_Rd_read_46 : decode b_Rd_read 46 = .ok (.getfield 60, 3) := dk_U2 a_Rd_read_46 (dko_180 _) rfl
theorem d_Rd_read_49 : decode b_Rd_read 49 = .ok (.ifCond .ge 112, 3) := dk_S2 a_Rd_read_49 (dko_156 _) (by decide +kernel)
theorem d_Rd_read_52 : decode b_Rd_read 52 = .ok (.aload_n 0, 1) := dk_0 a_Rd_read_52 (dko_42 _)
theorem d_Rd_read_53 : decode b_Rd_read 53 = .ok (.getfield 66, 3) := dk_U2 a_Rd_read_53 (dko_180 _) rfl
theorem d_Rd_read_56 : decode b_Rd_read 56 = .ok (.bipush 8, 2) := dk_S1 a_Rd_read_56 (dko_16 _) (by decide +kernel)
theorem d_Rd_read_58 : decode b_Rd_read 58 = .ok (.if_icmp .lt 103, 3) := dk_S2 a_Rd_read_58 (dko_161 _) (by decide +kernel)
theorem d_Rd_read_61 : decode b_Rd_read 61 = .ok (.aload_n 0, 1) := dk_0 a_Rd_read_61 (dko_42 _)
theorem d_Rd_read_62 : decode b_Rd_read 62 = .ok (.getfield 66, 3) := dk_U2 a_Rd_read_62 (dko_180 _) rfl
theorem d_Rd_read_65 : decode b_Rd_read 65 = .ok (.bipush 10, 2) := dk_S1 a_Rd_read_65 (dko_16 _) (by decide +kernel)
theorem d_Rd_read_67 : decode b_Rd_read 67 = .ok (.if_icmp .gt 94, 3) := dk_S2 a_Rd_read_67 (dko_163 _) (by decide +kernel)
theorem d_Rd_read_70 : decode b_Rd_read 70 = .ok (.aload_n 0, 1) := dk_0 a_Rd_read_70 (dko_42 _)
theorem d_Rd_read_71 : decode b_Rd_read 71 = .ok (.getfield 66, 3) := dk_U2 a_Rd_read_71 (dko_180 _) rfl
theorem d_Rd_read_74 : decode b_Rd_read 74 = .ok (.istore 4, 2) := dk_U1 a_Rd_read_74 (dko_54 _) rfl
theorem d_Rd_read_76 : decode b_Rd_read 76 = .ok (.aload_n 0, 1) := dk_0 a_Rd_read_76 (dko_42 _)
theorem d_Rd_read_77 : decode b_Rd_read 77 = .ok (.invokevirtual 69, 3) := dk_U2 a_Rd_read_77 (dko_182 _) rfl
theorem d_Rd_read_80 : decode b_Rd_read 80 = .ok (.lstore 5, 2) := dk_U1 a_Rd_read_80 (dko_55 _) rfl
theorem d_Rd_read_82 : decode b_Rd_read 82 = .ok (.iload 4, 2) := dk_U1 a_Rd_read_82 (dko_21 _) rfl
theorem d_Rd_read_84 : decode b_Rd_read 84 = .ok (.bipush 10, 2) := dk_S1 a_Rd_read_84 (dko_16 _) (by decide +kernel)
theorem d_Rd_read_86 : decode b_Rd_read 86 = .ok (.if_icmp .ne 10, 3) := dk_S2 a_Rd_read_86 (dko_160 _) (by decide +kernel)
theorem d_Rd_read_89 : decode b_Rd_read 89 = .ok (.aload_n 0, 1) := dk_0 a_Rd_read_89 (dko_42 _)
theorem d_Rd_read_90 : decode b_Rd_read 90 = .ok (.invokevirtual 73, 3) := dk_U2 a_Rd_read_90 (dko_182 _) rfl
theorem d_Rd_read_93 : decode b_Rd_read 93 = .ok (.goto 4, 3) := dk_S2 a_Rd_read_93 (dko_167 _) (by decide +kernel)
theorem d_Rd_read_96 : decode b_Rd_read 96 = .ok (.iconst (-1), 1) := dk_0 a_Rd_read_96 (dko_2 _)
theorem d_Rd_read_97 : decode b_Rd_read 97 = .ok (.istore 7, 2) := dk_U1 a_Rd_read_97 (dko_54 _) rfl
theorem d_Rd_read_99 : decode b_Rd_read 99 = .ok (.iload 4, 2) := dk_U1 a_Rd_read_99 (dko_21 _) rfl
theorem d_Rd_read_101 : decode b_Rd_read 101 = .ok (.bipush 10, 2) := dk_S1 a_Rd_read_101 (dko_16 _) (by decide +kernel)
theorem d_Rd_read_103 : decode b_Rd_read 103 = .ok (.if_icmp .ne 7, 3) := dk_S2 a_Rd_read_103 (dko_160 _) (by decide +kernel)
theorem d_Rd_read_106 : decode b_Rd_read 106 = .ok (.iconst 0, 1) := dk_0 a_Rd_read_106 (dko_3 _)
theorem d_Rd_read_107 : decode b_Rd_read 107 = .ok (.goto 7, 3) := dk_S2 a_Rd_read_107 (dko_167 _) (by decide +kernel)
theorem d_Rd_read_110 : decode b_Rd_read 110 = .ok (.aload_n 0, 1) := dk_0 a_Rd_read_110 (dko_42 _)
theorem d_Rd_read_111 : decode b_Rd_read 111 = .ok (.invokevirtual 76, 3) := dk_U2 a_Rd_read_111 (dko_182 _) rfl
theorem d_Rd_read_114 : decode b_Rd_read 114 = .ok (.istore 8, 2) := dk_U1 a_Rd_read_114 (dko_54 _) rfl
theorem d_Rd_read_116 : decode b_Rd_read 116 = .ok (.iload 4, 2) := dk_U1 a_Rd_read_116 (dko_21 _) rfl
theorem d_Rd_read_118 : decode b_Rd_read 118 = .ok (.bipush 10, 2) := dk_S1 a_Rd_read_118 (dko_16 _) (by decide +kernel)
theorem d_Rd_read_120 : decode b_Rd_read 120 = .ok (.if_icmp .ne 14, 3) := dk_S2 a_Rd_read_120 (dko_160 _) (by decide +kernel)
theorem d_Rd_read_123 : decode b_Rd_read 123 = .ok (.aload_n 0, 1) := dk_0 a_Rd_read_123 (dko_42 _)
theorem d_Rd_read_124 : decode b_Rd_read 124 = .ok (.bipush 10, 2) := dk_S1 a_Rd_read_124 (dko_16 _) (by decide +kernel)
theorem d_Rd_read_126 : decode b_Rd_read 126 = .ok (.iconst 0, 1) := dk_0 a_Rd_read_126 (dko_3 _)
theorem d_Rd_read_127 : decode b_Rd_read 127 = .ok (.invokevirtual 79, 3) := dk_U2 a_Rd_read_127 (dko_182 _) rfl
theorem d_Rd_read_130 : decode b_Rd_read 130 = .ok (.pop, 1) := dk_0 a_Rd_read_130 (dko_87 _)
theorem d_Rd_read_131 : decode b_Rd_read 131 = .ok (.goto 9, 3) := dk_S2 a_Rd_read_131 (dko_167 _) (by decide +kernel)
theorem d_Rd_read_134 : decode b_Rd_read 134 = .ok (.aload_n 0, 1) := dk_0 a_Rd_read_134 (dko_42 _)
theorem d_Rd_read_135 : decode b_Rd_read 135 = .ok (.bipush 59, 2) := dk_S1 a_Rd_read_135 (dko_16 _) (by decide +kernel)
theorem d_Rd_read_137 : decode b_Rd_read 137 = .ok (.invokevirtual 83, 3) := dk_U2 a_Rd_read_137 (dko_182 _) rfl
theorem d_Rd_read_140 : decode b_Rd_read 140 = .ok (.aload_n 0, 1) := dk_0 a_Rd_read_140 (dko_42 _)
theorem d_Rd_read_141 : decode b_Rd_read 141 = .ok (.getfield 44, 3) := dk_U2 a_Rd_read_141 (dko_180 _) rfl
theorem d_Rd_read_144 : decode b_Rd_read 144 = .ok (.lload 5, 2) := dk_U1 a_Rd_read_144 (dko_22 _) rfl
theorem d_Rd_read_146 : decode b_Rd_read 146 = .ok (.iload 4, 2) := dk_U1 a_Rd_read_146 (dko_21 _) rfl
theorem d_Rd_read_148 : decode b_Rd_read 148 = .ok (.iload 8, 2) := dk_U1 a_Rd_read_148 (dko_21 _) rfl
theorem d_Rd_read_150 : decode b_Rd_read 150 = .ok (.iload 7, 2) := dk_U1 a_Rd_read_150 (dko_21 _) rfl
theorem d_Rd_read_152 : decode b_Rd_read 152 = .ok (.invokevirtual 87, 3) := dk_U2 a_Rd_read_152 (dko_182 _) rfl
theorem d_Rd_read_155 : decode b_Rd_read 155 = .ok (.iinc 3 1, 3) := dk_US a_Rd_read_155 (dko_132 _) (by decide +kernel)
theorem d_Rd_read_158 : decode b_Rd_read 158 = .ok (.goto (-120), 3) := dk_S2 a_Rd_read_158 (dko_167 _) (by decide +kernel)
theorem d_Rd_read_161 : decode b_Rd_read 161 = .ok (.iconst 0, 1) := dk_0 a_Rd_read_161 (dko_3 _)
theorem d_Rd_read_162 : decode b_Rd_read 162 = .ok (.istore_n 3, 1) := dk_0 a_Rd_read_162 (dko_62 _)
theorem d_Rd_read_163 : decode b_Rd_read 163 = .ok (.iconst 0, 1) := dk_0 a_Rd_read_163 (dko_3 _)
theorem d_Rd_read_164 : decode b_Rd_read 164 = .ok (.istore 4, 2) := dk_U1 a_Rd_read_164 (dko_54 _) rfl
theorem d_Rd_read_166 : decode b_Rd_read 166 = .ok (.iconst (-1), 1) := dk_0 a_Rd_read_166 (dko_2 _)
theorem d_Rd_read_167 : decode b_Rd_read 167 = .ok (.istore 5, 2) := dk_U1 a_Rd_read_167 (dko_54 _) rfl
theorem d_Rd_read_169 : decode b_Rd_read 169 = .ok (.iconst 0, 1) := dk_0 a_Rd_read_169 (dko_3 _)
theorem d_Rd_read_170 : decode b_Rd_read 170 = .ok (.istore 6, 2) := dk_U1 a_Rd_read_170 (dko_54 _) rfl
theorem d_Rd_read_172 : decode b_Rd_read 172 = .ok (.iload 6, 2) := dk_U1 a_Rd_read_172 (dko_21 _) rfl
theorem d_Rd_read_174 : decode b_Rd_read 174 = .ok (.sipush 4000, 3) := dk_S2 a_Rd_read_174 (dko_17 _) (by decide +kernel)
theorem d_Rd_read_177 : decode b_Rd_read 177 = .ok (.if_icmp .gt 94, 3) := dk_S2 a_Rd_read_177 (dko_163 _) (by decide +kernel)
theorem d_Rd_read_180 : decode b_Rd_read 180 = .ok (.aload_n 0, 1) := dk_0 a_Rd_read_180 (dko_42 _)
theorem d_Rd_read_181 : decode b_Rd_read 181 = .ok (.getfield 60, 3) := dk_U2 a_Rd_read_181 (dko_180 _) rfl
theorem d_Rd_read_184 : decode b_Rd_read 184 = .ok (.ifCond .ge 87, 3) := dk_S2 a_Rd_read_184 (dko_156 _) (by decide +kernel)
theorem d_Rd_read_187 : decode b_Rd_read 187 = .ok (.aload_n 0, 1) := dk_0 a_Rd_read_187 (dko_42 _)
theorem d_Rd_read_188 : decode b_Rd_read 188 = .ok (.getfield 66, 3) := dk_U2 a_Rd_read_188 (dko_180 _) rfl
theorem d_Rd_read_191 : decode b_Rd_read 191 = .ok (.bipush 32, 2) := dk_S1 a_Rd_read_191 (dko_16 _) (by decide +kernel)
theorem d_Rd_read_193 : decode b_Rd_read 193 = .ok (.if_icmp .eq 78, 3) := dk_S2 a_Rd_read_193 (dko_159 _) (by decide +kernel)
theorem d_Rd_read_196 : decode b_Rd_read 196 = .ok (.aload_n 0, 1) := dk_0 a_Rd_read_196 (dko_42 _)
theorem d_Rd_read_197 : decode b_Rd_read 197 = .ok (.invokevirtual 91, 3) := dk_U2 a_Rd_read_197 (dko_182 _) rfl
theorem d_Rd_read_200 : decode b_Rd_read 200 = .ok (.istore 7, 2) := dk_U1 a_Rd_read_200 (dko_54 _) rfl
theorem d_Rd_read_202 : decode b_Rd_read 202 = .ok (.iload_n 3, 1) := dk_0 a_Rd_read_202 (dko_29 _)
theorem d_Rd_read_203 : decode b_Rd_read 203 = .ok (.aload_n 0, 1) := dk_0 a_Rd_read_203 (dko_42 _)
theorem d_Rd_read_204 : decode b_Rd_read 204 = .ok (.getfield 9, 3) := dk_U2 a_Rd_read_204 (dko_180 _) rfl
theorem d_Rd_read_207 : decode b_Rd_read 207 = .ok (.iload 7, 2) := dk_U1 a_Rd_read_207 (dko_21 _) rfl
theorem d_Rd_read_209 : decode b_Rd_read 209 = .ok (.iaload, 1) := dk_0 a_Rd_read_209 (dko_46 _)
theorem d_Rd_read_210 : decode b_Rd_read 210 = .ok (.iadd, 1) := dk_0 a_Rd_read_210 (dko_96 _)
theorem d_Rd_read_211 : decode b_Rd_read 211 = .ok (.sipush 501, 3) := dk_S2 a_Rd_read_211 (dko_17 _) (by decide +kernel)
theorem d_Rd_read_214 : decode b_Rd_read 214 = .ok (.invokestatic 94, 3) := dk_U2 a_Rd_read_214 (dko_184 _) rfl
theorem d_Rd_read_217 : decode b_Rd_read 217 = .ok (.istore_n 3, 1) := dk_0 a_Rd_read_217 (dko_62 _)
theorem d_Rd_read_218 : decode b_Rd_read 218 = .ok (.iload 4, 2) := dk_U1 a_Rd_read_218 (dko_21 _) rfl
theorem d_Rd_read_220 : decode b_Rd_read 220 = .ok (.aload_n 0, 1) := dk_0 a_Rd_read_220 (dko_42 _)
theorem d_Rd_read_221 : decode b_Rd_read 221 = .ok (.getfield 15, 3) := dk_U2 a_Rd_read_221 (dko_180 _) rfl
theorem d_Rd_read_224 : decode b_Rd_read 224 = .ok (.iload 7, 2) := dk_U1 a_Rd_read_224 (dko_21 _) rfl
theorem d_Rd_read_226 : decode b_Rd_read 226 = .ok (.iaload, 1) := dk_0 a_Rd_read_226 (dko_46 _)
theorem d_Rd_read_227 : decode b_Rd_read 227 = .ok (.invokestatic 99, 3) := dk_U2 a_Rd_read_227 (dko_184 _) rfl
theorem d_Rd_read_230 : decode b_Rd_read 230 = .ok (.istore 4, 2) := dk_U1 a_Rd_read_230 (dko_54 _) rfl
theorem d_Rd_read_232 : decode b_Rd_read 232 = .ok (.iload 5, 2) := dk_U1 a_Rd_read_232 (dko_21 _) rfl
theorem d_Rd_read_234 : decode b_Rd_read 234 = .ok (.ifCond .ge 15, 3) := dk_S2 a_Rd_read_234 (dko_156 _) (by decide +kernel)
theorem d_Rd_read_237 : decode b_Rd_read 237 = .ok (.aload_n 0, 1) := dk_0 a_Rd_read_237 (dko_42 _)
theorem d_Rd_read_238 : decode b_Rd_read 238 = .ok (.getfield 44, 3) := dk_U2 a_Rd_read_238 (dko_180 _) rfl
theorem d_Rd_read_241 : decode b_Rd_read 241 = .ok (.iload 7, 2) := dk_U1 a_Rd_read_241 (dko_21 _) rfl
theorem d_Rd_read_243 : decode b_Rd_read 243 = .ok (.putfield 102, 3) := dk_U2 a_Rd_read_243 (dko_181 _) rfl
theorem d_Rd_read_246 : decode b_Rd_read 246 = .ok (.goto 15, 3) := dk_S2 a_Rd_read_246 (dko_167 _) (by decide +kernel)
theorem d_Rd_read_249 : decode b_Rd_read 249 = .ok (.aload_n 0, 1) := dk_0 a_Rd_read_249 (dko_42 _)
theorem d_Rd_read_250 : decode b_Rd_read 250 = .ok (.getfield 44, 3) := dk_U2 a_Rd_read_250 (dko_180 _) rfl
theorem d_Rd_read_253 : decode b_Rd_read 253 = .ok (.getfield 105, 3) := dk_U2 a_Rd_read_253 (dko_180 _) rfl
theorem d_Rd_read_256 : decode b_Rd_read 256 = .ok (.iload 5, 2) := dk_U1 a_Rd_read_256 (dko_21 _) rfl
theorem d_Rd_read_258 : decode b_Rd_read 258 = .ok (.iload 7, 2) := dk_U1 a_Rd_read_258 (dko_21 _) rfl
theorem d_Rd_read_260 : decode b_Rd_read 260 = .ok (.iastore, 1) := dk_0 a_Rd_read_260 (dko_79 _)
theorem d_Rd_read_261 : decode b_Rd_read 261 = .ok (.iload 7, 2) := dk_U1 a_Rd_read_261 (dko_21 _) rfl
theorem d_Rd_read_263 : decode b_Rd_read 263 = .ok (.istore 5, 2) := dk_U1 a_Rd_read_263 (dko_54 _) rfl
theorem d_Rd_read_265 : decode b_Rd_read 265 = .ok (.iinc 6 1, 3) := dk_US a_Rd_read_265 (dko_132 _) (by decide +kernel)
theorem d_Rd_read_268 : decode b_Rd_read 268 = .ok (.goto (-96), 3) := dk_S2 a_Rd_read_268 (dko_167 _) (by decide +kernel)
theorem d_Rd_read_271 : decode b_Rd_read 271 = .ok (.aload_n 0, 1) := dk_0 a_Rd_read_271 (dko_42 _)
theorem d_Rd_read_272 : decode b_Rd_read 272 = .ok (.getfield 60, 3) := dk_U2 a_Rd_read_272 (dko_180 _) rfl
theorem d_Rd_read_275 : decode b_Rd_read 275 = .ok (.ifCond .ge 21, 3) := dk_S2 a_Rd_read_275 (dko_156 _) (by decide +kernel)
theorem d_Rd_read_278 : decode b_Rd_read 278 = .ok (.iload_n 3, 1) := dk_0 a_Rd_read_278 (dko_29 _)
theorem d_Rd_read_279 : decode b_Rd_read 279 = .ok (.sipush 500, 3) := dk_S2 a_Rd_read_279 (dko_17 _) (by decide +kernel)
theorem d_Rd_read_282 : decode b_Rd_read 282 = .ok (.if_icmp .gt 10, 3) := dk_S2 a_Rd_read_282 (dko_163 _) (by decide +kernel)
theorem d_Rd_read_285 : decode b_Rd_read 285 = .ok (.iload 4, 2) := dk_U1 a_Rd_read_285 (dko_21 _) rfl
theorem d_Rd_read_287 : decode b_Rd_read 287 = .ok (.bipush 40, 2) := dk_S1 a_Rd_read_287 (dko_16 _) (by decide +kernel)
theorem d_Rd_read_289 : decode b_Rd_read 289 = .ok (.if_icmp .le 7, 3) := dk_S2 a_Rd_read_289 (dko_164 _) (by decide +kernel)
theorem d_Rd_read_292 : decode b_Rd_read 292 = .ok (.aload_n 0, 1) := dk_0 a_Rd_read_292 (dko_42 _)
theorem d_Rd_read_293 : decode b_Rd_read 293 = .ok (.invokevirtual 108, 3) := dk_U2 a_Rd_read_293 (dko_182 _) rfl
theorem d_Rd_read_296 : decode b_Rd_read 296 = .ok (.aload_n 0, 1) := dk_0 a_Rd_read_296 (dko_42 _)
theorem d_Rd_read_297 : decode b_Rd_read 297 = .ok (.getfield 60, 3) := dk_U2 a_Rd_read_297 (dko_180 _) rfl
theorem d_Rd_read_300 : decode b_Rd_read 300 = .ok (.ireturn, 1) := dk_0 a_Rd_read_300 (dko_172 _)
set_option maxHeartbeats 4000000 in
set_option maxRecDepth 100000 in
theorem ok_Rd_read (pc : Nat) : OpS mt mi_Rd_read pc (cs_Rd_read pc) := (os_n (os_n (os_n (os_n (os_n (os_n (os_n (os_l (so_aload_n d_Rd_read_0 rfl)) (os_l (so_aload_n d_Rd_read_1 rfl))) (os_n (os_l (so_putR (D := "BreweryHouse$Tape") (C := R_Rd) (T := F_Rd) (N := 13) (j := 0) in_Rd t_Rd_ok n_Rd rfl (by decide) mw_636 rfl (by decide +kernel) d_Rd_read_2)) (os_l (so_aload_n d_Rd_read_5 rfl)))) (os_n (os_n (os_l (so_aload_n d_Rd_read_6 rfl)) (os_l (so_putR (D := "BreweryHouse$Program") (C := R_Rd) (T := F_Rd) (N := 13) (j := 1) in_Rd t_Rd_ok n_Rd rfl (by decide) mw_637 rfl (by decide +kernel) d_Rd_read_7))) (os_n (os_l (so_aload_n d_Rd_read_10 rfl)) (os_n (os_l (so_get (C := R_Rd) (T := F_Rd) (N := 13) (j := 1) in_Rd rfl (by decide) mw_637 d_Rd_read_11)) (os_l (so_callV (iv := mi_Pr_clear) rfl rfl rfl mw_883 mw_884 mw_885 mw_12 mw_886 ⟨by decide +kernel, by decide +kernel, by decide +kernel⟩ (by decide) d_Rd_read_14)))))) (os_n (os_n (os_n (os_l (so_aload_n d_Rd_read_17 rfl)) (os_l (so_iconst d_Rd_read_18 (by decide)))) (os_n (os_l (so_putI (C := R_Rd) (T := F_Rd) (N := 13) (j := 2) in_Rd t_Rd_ok n_Rd rfl (by decide) mw_638 rfl (by decide +kernel) d_Rd_read_19)) (os_l (so_aload_n d_Rd_read_22 rfl)))) (os_n (os_n (os_l (so_iconst d_Rd_read_23 (by decide))) (os_l (so_putI (C := R_Rd) (T := F_Rd) (N := 13) (j := 8) in_Rd t_Rd_ok n_Rd rfl (by decide) mw_644 rfl (by decide +kernel) d_Rd_read_24))) (os_n (os_l (so_aload_n d_Rd_read_27 rfl)) (os_n (os_l (so_iconst d_Rd_read_28 (by decide))) (os_l (so_putI (C := R_Rd) (T := F_Rd) (N := 13) (j := 9) in_Rd t_Rd_ok n_Rd rfl (by decide) mw_645 rfl (by decide +kernel) d_Rd_read_29))))))) (os_n (os_n (os_n (os_n (os_l (so_aload_n d_Rd_read_32 rfl)) (os_l (so_callV (iv := mi_Rd_nextWord) rfl rfl rfl mw_887 mw_889 sl_20 mw_13 mw_890 ⟨by decide +kernel, by decide +kernel, by decide +kernel⟩ (by decide) d_Rd_read_33))) (os_n (os_l (so_iconst d_Rd_read_36 (by decide))) (os_l (so_istore_n d_Rd_read_37 rfl (by decide))))) (os_n (os_n (os_l (so_iload_n d_Rd_read_38 rfl)) (os_l (so_sipush d_Rd_read_39 (by decide)))) (os_n (os_l (so_icgt d_Rd_read_42 (by decide))) (os_n (os_l (so_aload_n d_Rd_read_45 rfl)) (os_l (so_get (C := R_Rd) (T := F_Rd) (N := 13) (j := 9) in_Rd rfl (by decide) mw_645 d_Rd_read_46)))))) (os_n (os_n (os_n (os_l (so_ifge d_Rd_read_49 (by decide))) (os_l (so_aload_n d_Rd_read_52 rfl))) (os_n (os_l (so_get (C := R_Rd) (T := F_Rd) (N := 13) (j := 3) in_Rd rfl (by decide) mw_639 d_Rd_read_53)) (os_l (so_bipush d_Rd_read_56 (by decide))))) (os_n (os_n (os_l (so_iclt d_Rd_read_58 (by decide))) (os_l (so_aload_n d_Rd_read_61 rfl))) (os_n (os_l (so_get (C := R_Rd) (T := F_Rd) (N := 13) (j := 3) in_Rd rfl (by decide) mw_639 d_Rd_read_62)) (os_n (os_l (so_bipush d_Rd_read_65 (by decide))) (os_l (so_icgt d_Rd_read_67 (by decide))))))))) (os_n (os_n (os_n (os_n (os_n (os_l (so_aload_n d_Rd_read_70 rfl)) (os_l (so_get (C := R_Rd) (T := F_Rd) (N := 13) (j := 3) in_Rd rfl (by decide) mw_639 d_Rd_read_71))) (os_n (os_l (so_istore d_Rd_read_74 (by decide))) (os_l (so_aload_n d_Rd_read_76 rfl)))) (os_n (os_n (os_l (so_callV (iv := mi_Rd_takeNewName) rfl rfl rfl mw_919 mw_921 sl_25 mw_13 mw_922 ⟨by decide +kernel, by decide +kernel, by decide +kernel⟩ (by decide) d_Rd_read_77)) (os_l (so_lstore d_Rd_read_80 (by decide)))) (os_n (os_l (so_iload d_Rd_read_82)) (os_n (os_l (so_bipush d_Rd_read_84 (by decide))) (os_l (so_icne d_Rd_read_86 (by decide))))))) (os_n (os_n (os_n (os_l (so_aload_n d_Rd_read_89 rfl)) (os_l (so_callV (iv := mi_Rd_readBlock) rfl rfl rfl mw_927 mw_929 sl_26 mw_13 mw_930 ⟨by decide +kernel, by decide +kernel, by decide +kernel⟩ (by decide) d_Rd_read_90))) (os_n (os_l (so_goto d_Rd_read_93 (by decide))) (os_l (so_iconst d_Rd_read_96 (by decide))))) (os_n (os_n (os_l (so_istore d_Rd_read_97 (by decide))) (os_l (so_iload d_Rd_read_99))) (os_n (os_l (so_bipush d_Rd_read_101 (by decide))) (os_n (os_l (so_icne d_Rd_read_103 (by decide))) (os_l (so_iconst d_Rd_read_106 (by decide)))))))) (os_n (os_n (os_n (os_n (os_l (so_goto d_Rd_read_107 (by decide))) (os_l (so_aload_n d_Rd_read_110 rfl))) (os_n (os_l (so_callV (iv := mi_Rd_takeUnit) rfl rfl rfl mw_1004 mw_1006 sl_41 mw_13 mw_1007 ⟨by decide +kernel, by decide +kernel, by decide +kernel⟩ (by decide) d_Rd_read_111)) (os_l (so_istore d_Rd_read_114 (by decide))))) (os_n (os_n (os_l (so_iload d_Rd_read_116)) (os_l (so_bipush d_Rd_read_118 (by decide)))) (os_n (os_l (so_icne d_Rd_read_120 (by decide))) (os_n (os_l (so_aload_n d_Rd_read_123 rfl)) (os_l (so_bipush d_Rd_read_124 (by decide))))))) (os_n (os_n (os_n (os_l (so_iconst d_Rd_read_126 (by decide))) (os_l (so_callV (iv := mi_Rd_makeNode) rfl rfl rfl mw_958 mw_960 sl_32 mw_13 mw_961 ⟨by decide +kernel, by decide +kernel, by decide +kernel⟩ (by decide) d_Rd_read_127))) (os_n (os_l (so_pop d_Rd_read_130)) (os_n (os_l (so_goto d_Rd_read_131 (by decide))) (os_l (so_aload_n d_Rd_read_134 rfl))))) (os_n (os_n (os_l (so_bipush d_Rd_read_135 (by decide))) (os_l (so_callV (iv := mi_Rd_take) rfl rfl rfl mw_979 mw_981 sl_35 mw_13 mw_982 ⟨by decide +kernel, by decide +kernel, by decide +kernel⟩ (by decide) d_Rd_read_137))) (os_n (os_l (so_aload_n d_Rd_read_140 rfl)) (os_n (os_l (so_get (C := R_Rd) (T := F_Rd) (N := 13) (j := 1) in_Rd rfl (by decide) mw_637 d_Rd_read_141)) (os_l (so_lload d_Rd_read_144))))))))) (os_n (os_n (os_n (os_n (os_n (os_n (os_l (so_iload d_Rd_read_146)) (os_l (so_iload d_Rd_read_148))) (os_n (os_l (so_iload d_Rd_read_150)) (os_l (so_callV (iv := mi_Pr_addName) rfl rfl rfl mw_1008 mw_1009 mw_1010 mw_12 mw_1011 ⟨by decide +kernel, by decide +kernel, by decide +kernel⟩ (by decide) d_Rd_read_152)))) (os_n (os_n (os_l (so_iinc d_Rd_read_155 (by decide) (by decide))) (os_l (so_goto d_Rd_read_158 (by decide)))) (os_n (os_l (so_iconst d_Rd_read_161 (by decide))) (os_n (os_l (so_istore_n d_Rd_read_162 rfl (by decide))) (os_l (so_iconst d_Rd_read_163 (by decide))))))) (os_n (os_n (os_n (os_l (so_istore d_Rd_read_164 (by decide))) (os_l (so_iconst d_Rd_read_166 (by decide)))) (os_n (os_l (so_istore d_Rd_read_167 (by decide))) (os_l (so_iconst d_Rd_read_169 (by decide))))) (os_n (os_n (os_l (so_istore d_Rd_read_170 (by decide))) (os_l (so_iload d_Rd_read_172))) (os_n (os_l (so_sipush d_Rd_read_174 (by decide))) (os_n (os_l (so_icgt d_Rd_read_177 (by decide))) (os_l (so_aload_n d_Rd_read_180 rfl))))))) (os_n (os_n (os_n (os_n (os_l (so_get (C := R_Rd) (T := F_Rd) (N := 13) (j := 9) in_Rd rfl (by decide) mw_645 d_Rd_read_181)) (os_l (so_ifge d_Rd_read_184 (by decide)))) (os_n (os_l (so_aload_n d_Rd_read_187 rfl)) (os_l (so_get (C := R_Rd) (T := F_Rd) (N := 13) (j := 3) in_Rd rfl (by decide) mw_639 d_Rd_read_188)))) (os_n (os_n (os_l (so_bipush d_Rd_read_191 (by decide))) (os_l (so_iceq d_Rd_read_193 (by decide)))) (os_n (os_l (so_aload_n d_Rd_read_196 rfl)) (os_n (os_l (so_callV (iv := mi_Rd_readStatement) rfl rfl rfl mw_931 mw_933 sl_27 mw_13 mw_934 ⟨by decide +kernel, by decide +kernel, by decide +kernel⟩ (by decide) d_Rd_read_197)) (os_l (so_istore d_Rd_read_200 (by decide))))))) (os_n (os_n (os_n (os_l (so_iload_n d_Rd_read_202 rfl)) (os_l (so_aload_n d_Rd_read_203 rfl))) (os_n (os_l (so_get (C := R_Rd) (T := F_Rd) (N := 13) (j := 10) in_Rd rfl (by decide) mw_646 d_Rd_read_204)) (os_n (os_l (so_iload d_Rd_read_207)) (os_l (so_iaload d_Rd_read_209))))) (os_n (os_n (os_l (so_iadd d_Rd_read_210)) (os_l (so_sipush d_Rd_read_211 (by decide)))) (os_n (os_l (so_callS (iv := mi_Ma_min) rfl mw_962 mw_963 mw_21 mw_964 ⟨by decide +kernel, by decide +kernel, by decide +kernel⟩ (by decide) d_Rd_read_214)) (os_n (os_l (so_istore_n d_Rd_read_217 rfl (by decide))) (os_l (so_iload d_Rd_read_218)))))))) (os_n (os_n (os_n (os_n (os_n (os_l (so_aload_n d_Rd_read_220 rfl)) (os_l (so_get (C := R_Rd) (T := F_Rd) (N := 13) (j := 11) in_Rd rfl (by decide) mw_647 d_Rd_read_221))) (os_n (os_l (so_iload d_Rd_read_224)) (os_l (so_iaload d_Rd_read_226)))) (os_n (os_n (os_l (so_callS (iv := mi_Ma_max) rfl mw_972 mw_973 mw_21 mw_974 ⟨by decide +kernel, by decide +kernel, by decide +kernel⟩ (by decide) d_Rd_read_227)) (os_l (so_istore d_Rd_read_230 (by decide)))) (os_n (os_l (so_iload d_Rd_read_232)) (os_n (os_l (so_ifge d_Rd_read_234 (by decide))) (os_l (so_aload_n d_Rd_read_237 rfl)))))) (os_n (os_n (os_n (os_l (so_get (C := R_Rd) (T := F_Rd) (N := 13) (j := 1) in_Rd rfl (by decide) mw_637 d_Rd_read_238)) (os_l (so_iload d_Rd_read_241))) (os_n (os_l (so_putI (C := R_Pr) (T := F_Pr) (N := 18) (j := 2) in_Pr t_Pr_ok n_Pr rfl (by decide) mw_434 rfl (by decide +kernel) d_Rd_read_243)) (os_l (so_goto d_Rd_read_246 (by decide))))) (os_n (os_n (os_l (so_aload_n d_Rd_read_249 rfl)) (os_l (so_get (C := R_Rd) (T := F_Rd) (N := 13) (j := 1) in_Rd rfl (by decide) mw_637 d_Rd_read_250))) (os_n (os_l (so_get (C := R_Pr) (T := F_Pr) (N := 18) (j := 8) in_Pr rfl (by decide) mw_452 d_Rd_read_253)) (os_n (os_l (so_iload d_Rd_read_256)) (os_l (so_iload d_Rd_read_258))))))) (os_n (os_n (os_n (os_n (os_l (so_iastore d_Rd_read_260)) (os_l (so_iload d_Rd_read_261))) (os_n (os_l (so_istore d_Rd_read_263 (by decide))) (os_l (so_iinc d_Rd_read_265 (by decide) (by decide))))) (os_n (os_n (os_l (so_goto d_Rd_read_268 (by decide))) (os_l (so_aload_n d_Rd_read_271 rfl))) (os_n (os_l (so_get (C := R_Rd) (T := F_Rd) (N := 13) (j := 9) in_Rd rfl (by decide) mw_645 d_Rd_read_272)) (os_n (os_l (so_ifge d_Rd_read_275 (by decide))) (os_l (so_iload_n d_Rd_read_278 rfl)))))) (os_n (os_n (os_n (os_l (so_sipush d_Rd_read_279 (by decide))) (os_l (so_icgt d_Rd_read_282 (by decide)))) (os_n (os_l (so_iload d_Rd_read_285)) (os_n (os_l (so_bipush d_Rd_read_287 (by decide))) (os_l (so_icle d_Rd_read_289 (by decide)))))) (os_n (os_n (os_l (so_aload_n d_Rd_read_292 rfl)) (os_l (so_callV (iv := mi_Rd_fail) rfl rfl rfl mw_915 mw_917 sl_24 mw_13 mw_918 ⟨by decide +kernel, by decide +kernel, by decide +kernel⟩ (by decide) d_Rd_read_293))) (os_n (os_l (so_aload_n d_Rd_read_296 rfl)) (os_n (os_l (so_get (C := R_Rd) (T := F_Rd) (N := 13) (j := 9) in_Rd rfl (by decide) mw_645 d_Rd_read_297)) (os_l (so_ireturn rfl d_Rd_read_300))))))))))
abbrev t_Rd_fail_15 : List UInt8 := 177 :: []
abbrev t_Rd_fail_12 : List UInt8 := 181 :: 0 :: 60 :: t_Rd_fail_15
abbrev t_Rd_fail_9 : List UInt8 := 180 :: 0 :: 111 :: t_Rd_fail_12
abbrev t_Rd_fail_8 : List UInt8 := 42 :: t_Rd_fail_9
abbrev t_Rd_fail_7 : List UInt8 := 42 :: t_Rd_fail_8
abbrev t_Rd_fail_4 : List UInt8 := 156 :: 0 :: 11 :: t_Rd_fail_7
abbrev t_Rd_fail_1 : List UInt8 := 180 :: 0 :: 60 :: t_Rd_fail_4
abbrev t_Rd_fail_0 : List UInt8 := 42 :: t_Rd_fail_1
theorem a_Rd_fail_0 : dk_at b_Rd_fail 0 t_Rd_fail_0 := dk_start (by decide +kernel)
theorem a_Rd_fail_1 : dk_at b_Rd_fail 1 t_Rd_fail_1 := dk_go 1 a_Rd_fail_0 rfl
theorem a_Rd_fail_4 : dk_at b_Rd_fail 4 t_Rd_fail_4 := dk_go 3 a_Rd_fail_1 rfl
theorem a_Rd_fail_7 : dk_at b_Rd_fail 7 t_Rd_fail_7 := dk_go 3 a_Rd_fail_4 rfl
theorem a_Rd_fail_8 : dk_at b_Rd_fail 8 t_Rd_fail_8 := dk_go 1 a_Rd_fail_7 rfl
theorem a_Rd_fail_9 : dk_at b_Rd_fail 9 t_Rd_fail_9 := dk_go 1 a_Rd_fail_8 rfl
theorem a_Rd_fail_12 : dk_at b_Rd_fail 12 t_Rd_fail_12 := dk_go 3 a_Rd_fail_9 rfl
theorem a_Rd_fail_15 : dk_at b_Rd_fail 15 t_Rd_fail_15 := dk_go 3 a_Rd_fail_12 rfl
theorem d_Rd_fail_0 : decode b_Rd_fail 0 = .ok (.aload_n 0, 1) := dk_0 a_Rd_fail_0 (dko_42 _)
theorem d_Rd_fail_1 : decode b_Rd_fail 1 = .ok (.getfield 60, 3) := dk_U2 a_Rd_fail_1 (dko_180 _) rfl
theorem d_Rd_fail_4 : decode b_Rd_fail 4 = .ok (.ifCond .ge 11, 3) := dk_S2 a_Rd_fail_4 (dko_156 _) (by decide +kernel)
theorem d_Rd_fail_7 : decode b_Rd_fail 7 = .ok (.aload_n 0, 1) := dk_0 a_Rd_fail_7 (dko_42 _)
theorem d_Rd_fail_8 : decode b_Rd_fail 8 = .ok (.aload_n 0, 1) := dk_0 a_Rd_fail_8 (dko_42 _)
theorem d_Rd_fail_9 : decode b_Rd_fail 9 = .ok (.getfield 111, 3) := dk_U2 a_Rd_fail_9 (dko_180 _) rfl
theorem d_Rd_fail_12 : decode b_Rd_fail 12 = .ok (.putfield 60, 3) := dk_U2 a_Rd_fail_12 (dko_181 _) rfl
theorem d_Rd_fail_15 : decode b_Rd_fail 15 = .ok (.return_, 1) := dk_0 a_Rd_fail_15 (dko_177 _)
set_option maxHeartbeats 4000000 in
set_option maxRecDepth 100000 in
theorem ok_Rd_fail (pc : Nat) : OpS mt mi_Rd_fail pc (cs_Rd_fail pc) := (os_n (os_n (os_n (os_l (so_aload_n d_Rd_fail_0 rfl)) (os_l (so_get (C := R_Rd) (T := F_Rd) (N := 13) (j := 9) in_Rd rfl (by decide) mw_645 d_Rd_fail_1))) (os_n (os_l (so_ifge d_Rd_fail_4 (by decide))) (os_l (so_aload_n d_Rd_fail_7 rfl)))) (os_n (os_n (os_l (so_aload_n d_Rd_fail_8 rfl)) (os_l (so_get (C := R_Rd) (T := F_Rd) (N := 13) (j := 4) in_Rd rfl (by decide) mw_640 d_Rd_fail_9))) (os_n (os_l (so_putI (C := R_Rd) (T := F_Rd) (N := 13) (j := 9) in_Rd t_Rd_ok n_Rd rfl (by decide) mw_645 rfl (by decide +kernel) d_Rd_fail_12)) (os_l (so_return rfl d_Rd_fail_15)))))
abbrev t_Rd_nextWord_184 : List UInt8 := 177 :: []
abbrev t_Rd_nextWord_181 : List UInt8 := 182 :: 0 :: 140 :: t_Rd_nextWord_184
abbrev t_Rd_nextWord_178 : List UInt8 := 180 :: 0 :: 53 :: t_Rd_nextWord_181
abbrev t_Rd_nextWord_177 : List UInt8 := 42 :: t_Rd_nextWord_178
abbrev t_Rd_nextWord_176 : List UInt8 := 42 :: t_Rd_nextWord_177
abbrev t_Rd_nextWord_173 : List UInt8 := 160 :: 0 :: 11 :: t_Rd_nextWord_176
abbrev t_Rd_nextWord_171 : List UInt8 := 16 :: 46 :: t_Rd_nextWord_173
abbrev t_Rd_nextWord_170 : List UInt8 := 27 :: t_Rd_nextWord_171
abbrev t_Rd_nextWord_167 : List UInt8 := 154 :: 0 :: 9 :: t_Rd_nextWord_170
abbrev t_Rd_nextWord_164 : List UInt8 := 184 :: 0 :: 131 :: t_Rd_nextWord_167
abbrev t_Rd_nextWord_163 : List UInt8 := 27 :: t_Rd_nextWord_164
abbrev t_Rd_nextWord_160 : List UInt8 := 154 :: 0 :: 16 :: t_Rd_nextWord_163
abbrev t_Rd_nextWord_157 : List UInt8 := 184 :: 0 :: 125 :: t_Rd_nextWord_160
abbrev t_Rd_nextWord_156 : List UInt8 := 27 :: t_Rd_nextWord_157
abbrev t_Rd_nextWord_155 : List UInt8 := 60 :: t_Rd_nextWord_156
abbrev t_Rd_nextWord_152 : List UInt8 := 182 :: 0 :: 119 :: t_Rd_nextWord_155
abbrev t_Rd_nextWord_149 : List UInt8 := 180 :: 0 :: 53 :: t_Rd_nextWord_152
abbrev t_Rd_nextWord_148 : List UInt8 := 42 :: t_Rd_nextWord_149
abbrev t_Rd_nextWord_145 : List UInt8 := 180 :: 0 :: 40 :: t_Rd_nextWord_148
abbrev t_Rd_nextWord_144 : List UInt8 := 42 :: t_Rd_nextWord_145
abbrev t_Rd_nextWord_143 : List UInt8 := 177 :: t_Rd_nextWord_144
abbrev t_Rd_nextWord_140 : List UInt8 := 182 :: 0 :: 140 :: t_Rd_nextWord_143
abbrev t_Rd_nextWord_137 : List UInt8 := 180 :: 0 :: 111 :: t_Rd_nextWord_140
abbrev t_Rd_nextWord_136 : List UInt8 := 42 :: t_Rd_nextWord_137
abbrev t_Rd_nextWord_135 : List UInt8 := 42 :: t_Rd_nextWord_136
abbrev t_Rd_nextWord_132 : List UInt8 := 154 :: 0 :: 11 :: t_Rd_nextWord_135
abbrev t_Rd_nextWord_129 : List UInt8 := 184 :: 0 :: 137 :: t_Rd_nextWord_132
abbrev t_Rd_nextWord_128 : List UInt8 := 27 :: t_Rd_nextWord_129
abbrev t_Rd_nextWord_125 : List UInt8 := 181 :: 0 :: 53 :: t_Rd_nextWord_128
abbrev t_Rd_nextWord_124 : List UInt8 := 96 :: t_Rd_nextWord_125
abbrev t_Rd_nextWord_123 : List UInt8 := 4 :: t_Rd_nextWord_124
abbrev t_Rd_nextWord_120 : List UInt8 := 180 :: 0 :: 53 :: t_Rd_nextWord_123
abbrev t_Rd_nextWord_119 : List UInt8 := 89 :: t_Rd_nextWord_120
abbrev t_Rd_nextWord_118 : List UInt8 := 42 :: t_Rd_nextWord_119
abbrev t_Rd_nextWord_115 : List UInt8 := 181 :: 0 :: 66 :: t_Rd_nextWord_118
abbrev t_Rd_nextWord_114 : List UInt8 := 27 :: t_Rd_nextWord_115
abbrev t_Rd_nextWord_113 : List UInt8 := 42 :: t_Rd_nextWord_114
abbrev t_Rd_nextWord_110 : List UInt8 := 167 :: 0 :: 34 :: t_Rd_nextWord_113
abbrev t_Rd_nextWord_107 : List UInt8 := 182 :: 0 :: 134 :: t_Rd_nextWord_110
abbrev t_Rd_nextWord_106 : List UInt8 := 42 :: t_Rd_nextWord_107
abbrev t_Rd_nextWord_103 : List UInt8 := 153 :: 0 :: 10 :: t_Rd_nextWord_106
abbrev t_Rd_nextWord_100 : List UInt8 := 184 :: 0 :: 131 :: t_Rd_nextWord_103
abbrev t_Rd_nextWord_99 : List UInt8 := 27 :: t_Rd_nextWord_100
abbrev t_Rd_nextWord_96 : List UInt8 := 167 :: 0 :: 48 :: t_Rd_nextWord_99
abbrev t_Rd_nextWord_93 : List UInt8 := 182 :: 0 :: 128 :: t_Rd_nextWord_96
abbrev t_Rd_nextWord_92 : List UInt8 := 42 :: t_Rd_nextWord_93
abbrev t_Rd_nextWord_89 : List UInt8 := 153 :: 0 :: 10 :: t_Rd_nextWord_92
abbrev t_Rd_nextWord_86 : List UInt8 := 184 :: 0 :: 125 :: t_Rd_nextWord_89
abbrev t_Rd_nextWord_85 : List UInt8 := 27 :: t_Rd_nextWord_86
abbrev t_Rd_nextWord_84 : List UInt8 := 177 :: t_Rd_nextWord_85
abbrev t_Rd_nextWord_81 : List UInt8 := 181 :: 0 :: 66 :: t_Rd_nextWord_84
abbrev t_Rd_nextWord_79 : List UInt8 := 16 :: 32 :: t_Rd_nextWord_81
abbrev t_Rd_nextWord_78 : List UInt8 := 42 :: t_Rd_nextWord_79
abbrev t_Rd_nextWord_75 : List UInt8 := 161 :: 0 :: 10 :: t_Rd_nextWord_78
abbrev t_Rd_nextWord_72 : List UInt8 := 180 :: 0 :: 114 :: t_Rd_nextWord_75
abbrev t_Rd_nextWord_69 : List UInt8 := 180 :: 0 :: 40 :: t_Rd_nextWord_72
abbrev t_Rd_nextWord_68 : List UInt8 := 42 :: t_Rd_nextWord_69
abbrev t_Rd_nextWord_65 : List UInt8 := 180 :: 0 :: 53 :: t_Rd_nextWord_68
abbrev t_Rd_nextWord_64 : List UInt8 := 42 :: t_Rd_nextWord_65
abbrev t_Rd_nextWord_63 : List UInt8 := 60 :: t_Rd_nextWord_64
abbrev t_Rd_nextWord_60 : List UInt8 := 182 :: 0 :: 119 :: t_Rd_nextWord_63
abbrev t_Rd_nextWord_57 : List UInt8 := 180 :: 0 :: 53 :: t_Rd_nextWord_60
abbrev t_Rd_nextWord_56 : List UInt8 := 42 :: t_Rd_nextWord_57
abbrev t_Rd_nextWord_53 : List UInt8 := 180 :: 0 :: 40 :: t_Rd_nextWord_56
abbrev t_Rd_nextWord_52 : List UInt8 := 42 :: t_Rd_nextWord_53
abbrev t_Rd_nextWord_49 : List UInt8 := 181 :: 0 :: 111 :: t_Rd_nextWord_52
abbrev t_Rd_nextWord_46 : List UInt8 := 180 :: 0 :: 53 :: t_Rd_nextWord_49
abbrev t_Rd_nextWord_45 : List UInt8 := 42 :: t_Rd_nextWord_46
abbrev t_Rd_nextWord_44 : List UInt8 := 42 :: t_Rd_nextWord_45
abbrev t_Rd_nextWord_41 : List UInt8 := 167 :: 255 :: 215 :: t_Rd_nextWord_44
abbrev t_Rd_nextWord_38 : List UInt8 := 181 :: 0 :: 53 :: t_Rd_nextWord_41
abbrev t_Rd_nextWord_37 : List UInt8 := 96 :: t_Rd_nextWord_38
abbrev t_Rd_nextWord_36 : List UInt8 := 4 :: t_Rd_nextWord_37
abbrev t_Rd_nextWord_33 : List UInt8 := 180 :: 0 :: 53 :: t_Rd_nextWord_36
abbrev t_Rd_nextWord_32 : List UInt8 := 89 :: t_Rd_nextWord_33
abbrev t_Rd_nextWord_31 : List UInt8 := 42 :: t_Rd_nextWord_32
abbrev t_Rd_nextWord_28 : List UInt8 := 153 :: 0 :: 16 :: t_Rd_nextWord_31
abbrev t_Rd_nextWord_25 : List UInt8 := 184 :: 0 :: 121 :: t_Rd_nextWord_28
abbrev t_Rd_nextWord_22 : List UInt8 := 182 :: 0 :: 119 :: t_Rd_nextWord_25
abbrev t_Rd_nextWord_19 : List UInt8 := 180 :: 0 :: 53 :: t_Rd_nextWord_22
abbrev t_Rd_nextWord_18 : List UInt8 := 42 :: t_Rd_nextWord_19
abbrev t_Rd_nextWord_15 : List UInt8 := 180 :: 0 :: 40 :: t_Rd_nextWord_18
abbrev t_Rd_nextWord_14 : List UInt8 := 42 :: t_Rd_nextWord_15
abbrev t_Rd_nextWord_11 : List UInt8 := 162 :: 0 :: 33 :: t_Rd_nextWord_14
abbrev t_Rd_nextWord_8 : List UInt8 := 180 :: 0 :: 114 :: t_Rd_nextWord_11
abbrev t_Rd_nextWord_5 : List UInt8 := 180 :: 0 :: 40 :: t_Rd_nextWord_8
abbrev t_Rd_nextWord_4 : List UInt8 := 42 :: t_Rd_nextWord_5
abbrev t_Rd_nextWord_1 : List UInt8 := 180 :: 0 :: 53 :: t_Rd_nextWord_4
abbrev t_Rd_nextWord_0 : List UInt8 := 42 :: t_Rd_nextWord_1
theorem a_Rd_nextWord_0 : dk_at b_Rd_nextWord 0 t_Rd_nextWord_0 := dk_start (by decide +kernel)
theorem a_Rd_nextWord_1 : dk_at b_Rd_nextWord 1 t_Rd_nextWord_1 := dk_go 1 a_Rd_nextWord_0 rfl
theorem a_Rd_nextWord_4 : dk_at b_Rd_nextWord 4 t_Rd_nextWord_4 := dk_go 3 a_Rd_nextWord_1 rfl
theorem a_Rd_nextWord_5 : dk_at b_Rd_nextWord 5 t_Rd_nextWord_5 := dk_go 1 a_Rd_nextWord_4 rfl
theorem a_Rd_nextWord_8 : dk_at b_Rd_nextWord 8 t_Rd_nextWord_8 := dk_go 3 a_Rd_nextWord_5 rfl
theorem a_Rd_nextWord_11 : dk_at b_Rd_nextWord 11 t_Rd_nextWord_11 := dk_go 3 a_Rd_nextWord_8 rfl
theorem a_Rd_nextWord_14 : dk_at b_Rd_nextWord 14 t_Rd_nextWord_14 := dk_go 3 a_Rd_nextWord_11 rfl
theorem a_Rd_nextWord_15 : dk_at b_Rd_nextWord 15 t_Rd_nextWord_15 := dk_go 1 a_Rd_nextWord_14 rfl
theorem a_Rd_nextWord_18 : dk_at b_Rd_nextWord 18 t_Rd_nextWord_18 := dk_go 3 a_Rd_nextWord_15 rfl
theorem a_Rd_nextWord_19 : dk_at b_Rd_nextWord 19 t_Rd_nextWord_19 := dk_go 1 a_Rd_nextWord_18 rfl
theorem a_Rd_nextWord_22 : dk_at b_Rd_nextWord 22 t_Rd_nextWord_22 := dk_go 3 a_Rd_nextWord_19 rfl
theorem a_Rd_nextWord_25 : dk_at b_Rd_nextWord 25 t_Rd_nextWord_25 := dk_go 3 a_Rd_nextWord_22 rfl
theorem a_Rd_nextWord_28 : dk_at b_Rd_nextWord 28 t_Rd_nextWord_28 := dk_go 3 a_Rd_nextWord_25 rfl
theorem a_Rd_nextWord_31 : dk_at b_Rd_nextWord 31 t_Rd_nextWord_31 := dk_go 3 a_Rd_nextWord_28 rfl
theorem a_Rd_nextWord_32 : dk_at b_Rd_nextWord 32 t_Rd_nextWord_32 := dk_go 1 a_Rd_nextWord_31 rfl
theorem a_Rd_nextWord_33 : dk_at b_Rd_nextWord 33 t_Rd_nextWord_33 := dk_go 1 a_Rd_nextWord_32 rfl
theorem a_Rd_nextWord_36 : dk_at b_Rd_nextWord 36 t_Rd_nextWord_36 := dk_go 3 a_Rd_nextWord_33 rfl
theorem a_Rd_nextWord_37 : dk_at b_Rd_nextWord 37 t_Rd_nextWord_37 := dk_go 1 a_Rd_nextWord_36 rfl
theorem a_Rd_nextWord_38 : dk_at b_Rd_nextWord 38 t_Rd_nextWord_38 := dk_go 1 a_Rd_nextWord_37 rfl
theorem a_Rd_nextWord_41 : dk_at b_Rd_nextWord 41 t_Rd_nextWord_41 := dk_go 3 a_Rd_nextWord_38 rfl
theorem a_Rd_nextWord_44 : dk_at b_Rd_nextWord 44 t_Rd_nextWord_44 := dk_go 3 a_Rd_nextWord_41 rfl
theorem a_Rd_nextWord_45 : dk_at b_Rd_nextWord 45 t_Rd_nextWord_45 := dk_go 1 a_Rd_nextWord_44 rfl
theorem a_Rd_nextWord_46 : dk_at b_Rd_nextWord 46 t_Rd_nextWord_46 := dk_go 1 a_Rd_nextWord_45 rfl
theorem a_Rd_nextWord_49 : dk_at b_Rd_nextWord 49 t_Rd_nextWord_49 := dk_go 3 a_Rd_nextWord_46 rfl
theorem a_Rd_nextWord_52 : dk_at b_Rd_nextWord 52 t_Rd_nextWord_52 := dk_go 3 a_Rd_nextWord_49 rfl
theorem a_Rd_nextWord_53 : dk_at b_Rd_nextWord 53 t_Rd_nextWord_53 := dk_go 1 a_Rd_nextWord_52 rfl
theorem a_Rd_nextWord_56 : dk_at b_Rd_nextWord 56 t_Rd_nextWord_56 := dk_go 3 a_Rd_nextWord_53 rfl
theorem a_Rd_nextWord_57 : dk_at b_Rd_nextWord 57 t_Rd_nextWord_57 := dk_go 1 a_Rd_nextWord_56 rfl
theorem a_Rd_nextWord_60 : dk_at b_Rd_nextWord 60 t_Rd_nextWord_60 := dk_go 3 a_Rd_nextWord_57 rfl
theorem a_Rd_nextWord_63 : dk_at b_Rd_nextWord 63 t_Rd_nextWord_63 := dk_go 3 a_Rd_nextWord_60 rfl
theorem a_Rd_nextWord_64 : dk_at b_Rd_nextWord 64 t_Rd_nextWord_64 := dk_go 1 a_Rd_nextWord_63 rfl
theorem a_Rd_nextWord_65 : dk_at b_Rd_nextWord 65 t_Rd_nextWord_65 := dk_go 1 a_Rd_nextWord_64 rfl
theorem a_Rd_nextWord_68 : dk_at b_Rd_nextWord 68 t_Rd_nextWord_68 := dk_go 3 a_Rd_nextWord_65 rfl
theorem a_Rd_nextWord_69 : dk_at b_Rd_nextWord 69 t_Rd_nextWord_69 := dk_go 1 a_Rd_nextWord_68 rfl
theorem a_Rd_nextWord_72 : dk_at b_Rd_nextWord 72 t_Rd_nextWord_72 := dk_go 3 a_Rd_nextWord_69 rfl
theorem a_Rd_nextWord_75 : dk_at b_Rd_nextWord 75 t_Rd_nextWord_75 := dk_go 3 a_Rd_nextWord_72 rfl
theorem a_Rd_nextWord_78 : dk_at b_Rd_nextWord 78 t_Rd_nextWord_78 := dk_go 3 a_Rd_nextWord_75 rfl
theorem a_Rd_nextWord_79 : dk_at b_Rd_nextWord 79 t_Rd_nextWord_79 := dk_go 1 a_Rd_nextWord_78 rfl
theorem a_Rd_nextWord_81 : dk_at b_Rd_nextWord 81 t_Rd_nextWord_81 := dk_go 2 a_Rd_nextWord_79 rfl
theorem a_Rd_nextWord_84 : dk_at b_Rd_nextWord 84 t_Rd_nextWord_84 := dk_go 3 a_Rd_nextWord_81 rfl
theorem a_Rd_nextWord_85 : dk_at b_Rd_nextWord 85 t_Rd_nextWord_85 := dk_go 1 a_Rd_nextWord_84 rfl
theorem a_Rd_nextWord_86 : dk_at b_Rd_nextWord 86 t_Rd_nextWord_86 := dk_go 1 a_Rd_nextWord_85 rfl
theorem a_Rd_nextWord_89 : dk_at b_Rd_nextWord 89 t_Rd_nextWord_89 := dk_go 3 a_Rd_nextWord_86 rfl
theorem a_Rd_nextWord_92 : dk_at b_Rd_nextWord 92 t_Rd_nextWord_92 := dk_go 3 a_Rd_nextWord_89 rfl
theorem a_Rd_nextWord_93 : dk_at b_Rd_nextWord 93 t_Rd_nextWord_93 := dk_go 1 a_Rd_nextWord_92 rfl
theorem a_Rd_nextWord_96 : dk_at b_Rd_nextWord 96 t_Rd_nextWord_96 := dk_go 3 a_Rd_nextWord_93 rfl
theorem a_Rd_nextWord_99 : dk_at b_Rd_nextWord 99 t_Rd_nextWord_99 := dk_go 3 a_Rd_nextWord_96 rfl
theorem a_Rd_nextWord_100 : dk_at b_Rd_nextWord 100 t_Rd_nextWord_100 := dk_go 1 a_Rd_nextWord_99 rfl
theorem a_Rd_nextWord_103 : dk_at b_Rd_nextWord 103 t_Rd_nextWord_103 := dk_go 3 a_Rd_nextWord_100 rfl
theorem a_Rd_nextWord_106 : dk_at b_Rd_nextWord 106 t_Rd_nextWord_106 := dk_go 3 a_Rd_nextWord_103 rfl
theorem a_Rd_nextWord_107 : dk_at b_Rd_nextWord 107 t_Rd_nextWord_107 := dk_go 1 a_Rd_nextWord_106 rfl
theorem a_Rd_nextWord_110 : dk_at b_Rd_nextWord 110 t_Rd_nextWord_110 := dk_go 3 a_Rd_nextWord_107 rfl
theorem a_Rd_nextWord_113 : dk_at b_Rd_nextWord 113 t_Rd_nextWord_113 := dk_go 3 a_Rd_nextWord_110 rfl
theorem a_Rd_nextWord_114 : dk_at b_Rd_nextWord 114 t_Rd_nextWord_114 := dk_go 1 a_Rd_nextWord_113 rfl
theorem a_Rd_nextWord_115 : dk_at b_Rd_nextWord 115 t_Rd_nextWord_115 := dk_go 1 a_Rd_nextWord_114 rfl
theorem a_Rd_nextWord_118 : dk_at b_Rd_nextWord 118 t_Rd_nextWord_118 := dk_go 3 a_Rd_nextWord_115 rfl
theorem a_Rd_nextWord_119 : dk_at b_Rd_nextWord 119 t_Rd_nextWord_119 := dk_go 1 a_Rd_nextWord_118 rfl
theorem a_Rd_nextWord_120 : dk_at b_Rd_nextWord 120 t_Rd_nextWord_120 := dk_go 1 a_Rd_nextWord_119 rfl
theorem a_Rd_nextWord_123 : dk_at b_Rd_nextWord 123 t_Rd_nextWord_123 := dk_go 3 a_Rd_nextWord_120 rfl
theorem a_Rd_nextWord_124 : dk_at b_Rd_nextWord 124 t_Rd_nextWord_124 := dk_go 1 a_Rd_nextWord_123 rfl
theorem a_Rd_nextWord_125 : dk_at b_Rd_nextWord 125 t_Rd_nextWord_125 := dk_go 1 a_Rd_nextWord_124 rfl
theorem a_Rd_nextWord_128 : dk_at b_Rd_nextWord 128 t_Rd_nextWord_128 := dk_go 3 a_Rd_nextWord_125 rfl
theorem a_Rd_nextWord_129 : dk_at b_Rd_nextWord 129 t_Rd_nextWord_129 := dk_go 1 a_Rd_nextWord_128 rfl
theorem a_Rd_nextWord_132 : dk_at b_Rd_nextWord 132 t_Rd_nextWord_132 := dk_go 3 a_Rd_nextWord_129 rfl
theorem a_Rd_nextWord_135 : dk_at b_Rd_nextWord 135 t_Rd_nextWord_135 := dk_go 3 a_Rd_nextWord_132 rfl
theorem a_Rd_nextWord_136 : dk_at b_Rd_nextWord 136 t_Rd_nextWord_136 := dk_go 1 a_Rd_nextWord_135 rfl
theorem a_Rd_nextWord_137 : dk_at b_Rd_nextWord 137 t_Rd_nextWord_137 := dk_go 1 a_Rd_nextWord_136 rfl
theorem a_Rd_nextWord_140 : dk_at b_Rd_nextWord 140 t_Rd_nextWord_140 := dk_go 3 a_Rd_nextWord_137 rfl
theorem a_Rd_nextWord_143 : dk_at b_Rd_nextWord 143 t_Rd_nextWord_143 := dk_go 3 a_Rd_nextWord_140 rfl
theorem a_Rd_nextWord_144 : dk_at b_Rd_nextWord 144 t_Rd_nextWord_144 := dk_go 1 a_Rd_nextWord_143 rfl
theorem a_Rd_nextWord_145 : dk_at b_Rd_nextWord 145 t_Rd_nextWord_145 := dk_go 1 a_Rd_nextWord_144 rfl
theorem a_Rd_nextWord_148 : dk_at b_Rd_nextWord 148 t_Rd_nextWord_148 := dk_go 3 a_Rd_nextWord_145 rfl
theorem a_Rd_nextWord_149 : dk_at b_Rd_nextWord 149 t_Rd_nextWord_149 := dk_go 1 a_Rd_nextWord_148 rfl
theorem a_Rd_nextWord_152 : dk_at b_Rd_nextWord 152 t_Rd_nextWord_152 := dk_go 3 a_Rd_nextWord_149 rfl
theorem a_Rd_nextWord_155 : dk_at b_Rd_nextWord 155 t_Rd_nextWord_155 := dk_go 3 a_Rd_nextWord_152 rfl
theorem a_Rd_nextWord_156 : dk_at b_Rd_nextWord 156 t_Rd_nextWord_156 := dk_go 1 a_Rd_nextWord_155 rfl
theorem a_Rd_nextWord_157 : dk_at b_Rd_nextWord 157 t_Rd_nextWord_157 := dk_go 1 a_Rd_nextWord_156 rfl
theorem a_Rd_nextWord_160 : dk_at b_Rd_nextWord 160 t_Rd_nextWord_160 := dk_go 3 a_Rd_nextWord_157 rfl
theorem a_Rd_nextWord_163 : dk_at b_Rd_nextWord 163 t_Rd_nextWord_163 := dk_go 3 a_Rd_nextWord_160 rfl
theorem a_Rd_nextWord_164 : dk_at b_Rd_nextWord 164 t_Rd_nextWord_164 := dk_go 1 a_Rd_nextWord_163 rfl
theorem a_Rd_nextWord_167 : dk_at b_Rd_nextWord 167 t_Rd_nextWord_167 := dk_go 3 a_Rd_nextWord_164 rfl
theorem a_Rd_nextWord_170 : dk_at b_Rd_nextWord 170 t_Rd_nextWord_170 := dk_go 3 a_Rd_nextWord_167 rfl
theorem a_Rd_nextWord_171 : dk_at b_Rd_nextWord 171 t_Rd_nextWord_171 := dk_go 1 a_Rd_nextWord_170 rfl
theorem a_Rd_nextWord_173 : dk_at b_Rd_nextWord 173 t_Rd_nextWord_173 := dk_go 2 a_Rd_nextWord_171 rfl
theorem a_Rd_nextWord_176 : dk_at b_Rd_nextWord 176 t_Rd_nextWord_176 := dk_go 3 a_Rd_nextWord_173 rfl
theorem a_Rd_nextWord_177 : dk_at b_Rd_nextWord 177 t_Rd_nextWord_177 := dk_go 1 a_Rd_nextWord_176 rfl
theorem a_Rd_nextWord_178 : dk_at b_Rd_nextWord 178 t_Rd_nextWord_178 := dk_go 1 a_Rd_nextWord_177 rfl
theorem a_Rd_nextWord_181 : dk_at b_Rd_nextWord 181 t_Rd_nextWord_181 := dk_go 3 a_Rd_nextWord_178 rfl
theorem a_Rd_nextWord_184 : dk_at b_Rd_nextWord 184 t_Rd_nextWord_184 := dk_go 3 a_Rd_nextWord_181 rfl
theorem d_Rd_nextWord_0 : decode b_Rd_nextWord 0 = .ok (.aload_n 0, 1) := dk_0 a_Rd_nextWord_0 (dko_42 _)
theorem d_Rd_nextWord_1 : decode b_Rd_nextWord 1 = .ok (.getfield 53, 3) := dk_U2 a_Rd_nextWord_1 (dko_180 _) rfl
theorem d_Rd_nextWord_4 : decode b_Rd_nextWord 4 = .ok (.aload_n 0, 1) := dk_0 a_Rd_nextWord_4 (dko_42 _)
theorem d_Rd_nextWord_5 : decode b_Rd_nextWord 5 = .ok (.getfield 40, 3) := dk_U2 a_Rd_nextWord_5 (dko_180 _) rfl
theorem d_Rd_nextWord_8 : decode b_Rd_nextWord 8 = .ok (.getfield 114, 3) := dk_U2 a_Rd_nextWord_8 (dko_180 _) rfl
theorem d_Rd_nextWord_11 : decode b_Rd_nextWord 11 = .ok (.if_icmp .ge 33, 3) := dk_S2 a_Rd_nextWord_11 (dko_162 _) (by decide +kernel)
theorem d_Rd_nextWord_14 : decode b_Rd_nextWord 14 = .ok (.aload_n 0, 1) := dk_0 a_Rd_nextWord_14 (dko_42 _)
theorem d_Rd_nextWord_15 : decode b_Rd_nextWord 15 = .ok (.getfield 40, 3) := dk_U2 a_Rd_nextWord_15 (dko_180 _) rfl
theorem d_Rd_nextWord_18 : decode b_Rd_nextWord 18 = .ok (.aload_n 0, 1) := dk_0 a_Rd_nextWord_18 (dko_42 _)
theorem d_Rd_nextWord_19 : decode b_Rd_nextWord 19 = .ok (.getfield 53, 3) := dk_U2 a_Rd_nextWord_19 (dko_180 _) rfl
theorem d_Rd_nextWord_22 : decode b_Rd_nextWord 22 = .ok (.invokevirtual 119, 3) := dk_U2 a_Rd_nextWord_22 (dko_182 _) rfl
theorem d_Rd_nextWord_25 : decode b_Rd_nextWord 25 = .ok (.invokestatic 121, 3) := dk_U2 a_Rd_nextWord_25 (dko_184 _) rfl
theorem d_Rd_nextWord_28 : decode b_Rd_nextWord 28 = .ok (.ifCond .eq 16, 3) := dk_S2 a_Rd_nextWord_28 (dko_153 _) (by decide +kernel)
theorem d_Rd_nextWord_31 : decode b_Rd_nextWord 31 = .ok (.aload_n 0, 1) := dk_0 a_Rd_nextWord_31 (dko_42 _)
theorem d_Rd_nextWord_32 : decode b_Rd_nextWord 32 = .ok (.dup, 1) := dk_0 a_Rd_nextWord_32 (dko_89 _)
theorem d_Rd_nextWord_33 : decode b_Rd_nextWord 33 = .ok (.getfield 53, 3) := dk_U2 a_Rd_nextWord_33 (dko_180 _) rfl
theorem d_Rd_nextWord_36 : decode b_Rd_nextWord 36 = .ok (.iconst 1, 1) := dk_0 a_Rd_nextWord_36 (dko_4 _)
theorem d_Rd_nextWord_37 : decode b_Rd_nextWord 37 = .ok (.iadd, 1) := dk_0 a_Rd_nextWord_37 (dko_96 _)
theorem d_Rd_nextWord_38 : decode b_Rd_nextWord 38 = .ok (.putfield 53, 3) := dk_U2 a_Rd_nextWord_38 (dko_181 _) rfl
theorem d_Rd_nextWord_41 : decode b_Rd_nextWord 41 = .ok (.goto (-41), 3) := dk_S2 a_Rd_nextWord_41 (dko_167 _) (by decide +kernel)
theorem d_Rd_nextWord_44 : decode b_Rd_nextWord 44 = .ok (.aload_n 0, 1) := dk_0 a_Rd_nextWord_44 (dko_42 _)
theorem d_Rd_nextWord_45 : decode b_Rd_nextWord 45 = .ok (.aload_n 0, 1) := dk_0 a_Rd_nextWord_45 (dko_42 _)
theorem d_Rd_nextWord_46 : decode b_Rd_nextWord 46 = .ok (.getfield 53, 3) := dk_U2 a_Rd_nextWord_46 (dko_180 _) rfl
theorem d_Rd_nextWord_49 : decode b_Rd_nextWord 49 = .ok (.putfield 111, 3) := dk_U2 a_Rd_nextWord_49 (dko_181 _) rfl
theorem d_Rd_nextWord_52 : decode b_Rd_nextWord 52 = .ok (.aload_n 0, 1) := dk_0 a_Rd_nextWord_52 (dko_42 _)
theorem d_Rd_nextWord_53 : decode b_Rd_nextWord 53 = .ok (.getfield 40, 3) := dk_U2 a_Rd_nextWord_53 (dko_180 _) rfl
theorem d_Rd_nextWord_56 : decode b_Rd_nextWord 56 = .ok (.aload_n 0, 1) := dk_0 a_Rd_nextWord_56 (dko_42 _)
theorem d_Rd_nextWord_57 : decode b_Rd_nextWord 57 = .ok (.getfield 53, 3) := dk_U2 a_Rd_nextWord_57 (dko_180 _) rfl
theorem d_Rd_nextWord_60 : decode b_Rd_nextWord 60 = .ok (.invokevirtual 119, 3) := dk_U2 a_Rd_nextWord_60 (dko_182 _) rfl
theorem d_Rd_nextWord_63 : decode b_Rd_nextWord 63 = .ok (.istore_n 1, 1) := dk_0 a_Rd_nextWord_63 (dko_60 _)
theorem d_Rd_nextWord_64 : decode b_Rd_nextWord 64 = .ok (.aload_n 0, 1) := dk_0 a_Rd_nextWord_64 (dko_42 _)
theorem d_Rd_nextWord_65 : decode b_Rd_nextWord 65 = .ok (.getfield 53, 3) := dk_U2 a_Rd_nextWord_65 (dko_180 _) rfl
theorem d_Rd_nextWord_68 : decode b_Rd_nextWord 68 = .ok (.aload_n 0, 1) := dk_0 a_Rd_nextWord_68 (dko_42 _)
theorem d_Rd_nextWord_69 : decode b_Rd_nextWord 69 = .ok (.getfield 40, 3) := dk_U2 a_Rd_nextWord_69 (dko_180 _) rfl
theorem d_Rd_nextWord_72 : decode b_Rd_nextWord 72 = .ok (.getfield 114, 3) := dk_U2 a_Rd_nextWord_72 (dko_180 _) rfl
theorem d_Rd_nextWord_75 : decode b_Rd_nextWord 75 = .ok (.if_icmp .lt 10, 3) := dk_S2 a_Rd_nextWord_75 (dko_161 _) (by decide +kernel)
theorem d_Rd_nextWord_78 : decode b_Rd_nextWord 78 = .ok (.aload_n 0, 1) := dk_0 a_Rd_nextWord_78 (dko_42 _)
theorem d_Rd_nextWord_79 : decode b_Rd_nextWord 79 = .ok (.bipush 32, 2) := dk_S1 a_Rd_nextWord_79 (dko_16 _) (by decide +kernel)
theorem d_Rd_nextWord_81 : decode b_Rd_nextWord 81 = .ok (.putfield 66, 3) := dk_U2 a_Rd_nextWord_81 (dko_181 _) rfl
theorem d_Rd_nextWord_84 : decode b_Rd_nextWord 84 = .ok (.return_, 1) := dk_0 a_Rd_nextWord_84 (dko_177 _)
theorem d_Rd_nextWord_85 : decode b_Rd_nextWord 85 = .ok (.iload_n 1, 1) := dk_0 a_Rd_nextWord_85 (dko_27 _)
theorem d_Rd_nextWord_86 : decode b_Rd_nextWord 86 = .ok (.invokestatic 125, 3) := dk_U2 a_Rd_nextWord_86 (dko_184 _) rfl
theorem d_Rd_nextWord_89 : decode b_Rd_nextWord 89 = .ok (.ifCond .eq 10, 3) := dk_S2 a_Rd_nextWord_89 (dko_153 _) (by decide +kernel)
theorem d_Rd_nextWord_92 : decode b_Rd_nextWord 92 = .ok (.aload_n 0, 1) := dk_0 a_Rd_nextWord_92 (dko_42 _)
theorem d_Rd_nextWord_93 : decode b_Rd_nextWord 93 = .ok (.invokevirtual 128, 3) := dk_U2 a_Rd_nextWord_93 (dko_182 _) rfl
theorem d_Rd_nextWord_96 : decode b_Rd_nextWord 96 = .ok (.goto 48, 3) := dk_S2 a_Rd_nextWord_96 (dko_167 _) (by decide +kernel)
theorem d_Rd_nextWord_99 : decode b_Rd_nextWord 99 = .ok (.iload_n 1, 1) := dk_0 a_Rd_nextWord_99 (dko_27 _)
theorem d_Rd_nextWord_100 : decode b_Rd_nextWord 100 = .ok (.invokestatic 131, 3) := dk_U2 a_Rd_nextWord_100 (dko_184 _) rfl
theorem d_Rd_nextWord_103 : decode b_Rd_nextWord 103 = .ok (.ifCond .eq 10, 3) := dk_S2 a_Rd_nextWord_103 (dko_153 _) (by decide +kernel)
theorem d_Rd_nextWord_106 : decode b_Rd_nextWord 106 = .ok (.aload_n 0, 1) := dk_0 a_Rd_nextWord_106 (dko_42 _)
theorem d_Rd_nextWord_107 : decode b_Rd_nextWord 107 = .ok (.invokevirtual 134, 3) := dk_U2 a_Rd_nextWord_107 (dko_182 _) rfl
theorem d_Rd_nextWord_110 : decode b_Rd_nextWord 110 = .ok (.goto 34, 3) := dk_S2 a_Rd_nextWord_110 (dko_167 _) (by decide +kernel)
theorem d_Rd_nextWord_113 : decode b_Rd_nextWord 113 = .ok (.aload_n 0, 1) := dk_0 a_Rd_nextWord_113 (dko_42 _)
theorem d_Rd_nextWord_114 : decode b_Rd_nextWord 114 = .ok (.iload_n 1, 1) := dk_0 a_Rd_nextWord_114 (dko_27 _)
theorem d_Rd_nextWord_115 : decode b_Rd_nextWord 115 = .ok (.putfield 66, 3) := dk_U2 a_Rd_nextWord_115 (dko_181 _) rfl
theorem d_Rd_nextWord_118 : decode b_Rd_nextWord 118 = .ok (.aload_n 0, 1) := dk_0 a_Rd_nextWord_118 (dko_42 _)
theorem d_Rd_nextWord_119 : decode b_Rd_nextWord 119 = .ok (.dup, 1) := dk_0 a_Rd_nextWord_119 (dko_89 _)
theorem d_Rd_nextWord_120 : decode b_Rd_nextWord 120 = .ok (.getfield 53, 3) := dk_U2 a_Rd_nextWord_120 (dko_180 _) rfl
theorem d_Rd_nextWord_123 : decode b_Rd_nextWord 123 = .ok (.iconst 1, 1) := dk_0 a_Rd_nextWord_123 (dko_4 _)
theorem d_Rd_nextWord_124 : decode b_Rd_nextWord 124 = .ok (.iadd, 1) := dk_0 a_Rd_nextWord_124 (dko_96 _)
theorem d_Rd_nextWord_125 : decode b_Rd_nextWord 125 = .ok (.putfield 53, 3) := dk_U2 a_Rd_nextWord_125 (dko_181 _) rfl
theorem d_Rd_nextWord_128 : decode b_Rd_nextWord 128 = .ok (.iload_n 1, 1) := dk_0 a_Rd_nextWord_128 (dko_27 _)
theorem d_Rd_nextWord_129 : decode b_Rd_nextWord 129 = .ok (.invokestatic 137, 3) := dk_U2 a_Rd_nextWord_129 (dko_184 _) rfl
theorem d_Rd_nextWord_132 : decode b_Rd_nextWord 132 = .ok (.ifCond .ne 11, 3) := dk_S2 a_Rd_nextWord_132 (dko_154 _) (by decide +kernel)
theorem d_Rd_nextWord_135 : decode b_Rd_nextWord 135 = .ok (.aload_n 0, 1) := dk_0 a_Rd_nextWord_135 (dko_42 _)
theorem d_Rd_nextWord_136 : decode b_Rd_nextWord 136 = .ok (.aload_n 0, 1) := dk_0 a_Rd_nextWord_136 (dko_42 _)
theorem d_Rd_nextWord_137 : decode b_Rd_nextWord 137 = .ok (.getfield 111, 3) := dk_U2 a_Rd_nextWord_137 (dko_180 _) rfl
theorem d_Rd_nextWord_140 : decode b_Rd_nextWord 140 = .ok (.invokevirtual 140, 3) := dk_U2 a_Rd_nextWord_140 (dko_182 _) rfl
theorem d_Rd_nextWord_143 : decode b_Rd_nextWord 143 = .ok (.return_, 1) := dk_0 a_Rd_nextWord_143 (dko_177 _)
theorem d_Rd_nextWord_144 : decode b_Rd_nextWord 144 = .ok (.aload_n 0, 1) := dk_0 a_Rd_nextWord_144 (dko_42 _)
theorem d_Rd_nextWord_145 : decode b_Rd_nextWord 145 = .ok (.getfield 40, 3) := dk_U2 a_Rd_nextWord_145 (dko_180 _) rfl
theorem d_Rd_nextWord_148 : decode b_Rd_nextWord 148 = .ok (.aload_n 0, 1) := dk_0 a_Rd_nextWord_148 (dko_42 _)
theorem d_Rd_nextWord_149 : decode b_Rd_nextWord 149 = .ok (.getfield 53, 3) := dk_U2 a_Rd_nextWord_149 (dko_180 _) rfl
theorem d_Rd_nextWord_152 : decode b_Rd_nextWord 152 = .ok (.invokevirtual 119, 3) := dk_U2 a_Rd_nextWord_152 (dko_182 _) rfl
theorem d_Rd_nextWord_155 : decode b_Rd_nextWord 155 = .ok (.istore_n 1, 1) := dk_0 a_Rd_nextWord_155 (dko_60 _)
theorem d_Rd_nextWord_156 : decode b_Rd_nextWord 156 = .ok (.iload_n 1, 1) := dk_0 a_Rd_nextWord_156 (dko_27 _)
theorem d_Rd_nextWord_157 : decode b_Rd_nextWord 157 = .ok (.invokestatic 125, 3) := dk_U2 a_Rd_nextWord_157 (dko_184 _) rfl
theorem d_Rd_nextWord_160 : decode b_Rd_nextWord 160 = .ok (.ifCond .ne 16, 3) := dk_S2 a_Rd_nextWord_160 (dko_154 _) (by decide +kernel)
theorem d_Rd_nextWord_163 : decode b_Rd_nextWord 163 = .ok (.iload_n 1, 1) := dk_0 a_Rd_nextWord_163 (dko_27 _)
theorem d_Rd_nextWord_164 : decode b_Rd_nextWord 164 = .ok (.invokestatic 131, 3) := dk_U2 a_Rd_nextWord_164 (dko_184 _) rfl
theorem d_Rd_nextWord_167 : decode b_Rd_nextWord 167 = .ok (.ifCond .ne 9, 3) := dk_S2 a_Rd_nextWord_167 (dko_154 _) (by decide +kernel)
theorem d_Rd_nextWord_170 : decode b_Rd_nextWord 170 = .ok (.iload_n 1, 1) := dk_0 a_Rd_nextWord_170 (dko_27 _)
theorem d_Rd_nextWord_171 : decode b_Rd_nextWord 171 = .ok (.bipush 46, 2) := dk_S1 a_Rd_nextWord_171 (dko_16 _) (by decide +kernel)
theorem d_Rd_nextWord_173 : decode b_Rd_nextWord 173 = .ok (.if_icmp .ne 11, 3) := dk_S2 a_Rd_nextWord_173 (dko_160 _) (by decide +kernel)
theorem d_Rd_nextWord_176 : decode b_Rd_nextWord 176 = .ok (.aload_n 0, 1) := dk_0 a_Rd_nextWord_176 (dko_42 _)
theorem d_Rd_nextWord_177 : decode b_Rd_nextWord 177 = .ok (.aload_n 0, 1) := dk_0 a_Rd_nextWord_177 (dko_42 _)
theorem d_Rd_nextWord_178 : decode b_Rd_nextWord 178 = .ok (.getfield 53, 3) := dk_U2 a_Rd_nextWord_178 (dko_180 _) rfl
theorem d_Rd_nextWord_181 : decode b_Rd_nextWord 181 = .ok (.invokevirtual 140, 3) := dk_U2 a_Rd_nextWord_181 (dko_182 _) rfl
theorem d_Rd_nextWord_184 : decode b_Rd_nextWord 184 = .ok (.return_, 1) := dk_0 a_Rd_nextWord_184 (dko_177 _)
set_option maxHeartbeats 4000000 in
set_option maxRecDepth 100000 in
theorem ok_Rd_nextWord (pc : Nat) : OpS mt mi_Rd_nextWord pc (cs_Rd_nextWord pc) := (os_n (os_n (os_n (os_n (os_n (os_n (os_l (so_aload_n d_Rd_nextWord_0 rfl)) (os_l (so_get (C := R_Rd) (T := F_Rd) (N := 13) (j := 2) in_Rd rfl (by decide) mw_638 d_Rd_nextWord_1))) (os_n (os_l (so_aload_n d_Rd_nextWord_4 rfl)) (os_n (os_l (so_get (C := R_Rd) (T := F_Rd) (N := 13) (j := 0) in_Rd rfl (by decide) mw_636 d_Rd_nextWord_5)) (os_l (so_get (C := R_Tp) (T := F_Tp) (N := 3) (j := 2) in_Tp rfl (by decide) mw_44 d_Rd_nextWord_8))))) (os_n (os_n (os_l (so_icge d_Rd_nextWord_11 (by decide))) (os_n (os_l (so_aload_n d_Rd_nextWord_14 rfl)) (os_l (so_get (C := R_Rd) (T := F_Rd) (N := 13) (j := 0) in_Rd rfl (by decide) mw_636 d_Rd_nextWord_15)))) (os_n (os_l (so_aload_n d_Rd_nextWord_18 rfl)) (os_n (os_l (so_get (C := R_Rd) (T := F_Rd) (N := 13) (j := 2) in_Rd rfl (by decide) mw_638 d_Rd_nextWord_19)) (os_l (so_callV (iv := mi_Tp_at) rfl rfl rfl mw_891 mw_754 mw_755 mw_2 mw_756 ⟨by decide +kernel, by decide +kernel, by decide +kernel⟩ (by decide) d_Rd_nextWord_22)))))) (os_n (os_n (os_n (os_l (so_callS (iv := mi_Tp_isBlank) rfl mw_892 mw_821 mw_2 mw_822 ⟨by decide +kernel, by decide +kernel, by decide +kernel⟩ (by decide) d_Rd_nextWord_25)) (os_l (so_ifeq d_Rd_nextWord_28 (by decide)))) (os_n (os_l (so_aload_n d_Rd_nextWord_31 rfl)) (os_n (os_l (so_dup d_Rd_nextWord_32)) (os_l (so_get (C := R_Rd) (T := F_Rd) (N := 13) (j := 2) in_Rd rfl (by decide) mw_638 d_Rd_nextWord_33))))) (os_n (os_n (os_l (so_iconst d_Rd_nextWord_36 (by decide))) (os_n (os_l (so_iadd d_Rd_nextWord_37)) (os_l (so_putI (C := R_Rd) (T := F_Rd) (N := 13) (j := 2) in_Rd t_Rd_ok n_Rd rfl (by decide) mw_638 rfl (by decide +kernel) d_Rd_nextWord_38)))) (os_n (os_l (so_goto d_Rd_nextWord_41 (by decide))) (os_n (os_l (so_aload_n d_Rd_nextWord_44 rfl)) (os_l (so_aload_n d_Rd_nextWord_45 rfl))))))) (os_n (os_n (os_n (os_n (os_l (so_get (C := R_Rd) (T := F_Rd) (N := 13) (j := 2) in_Rd rfl (by decide) mw_638 d_Rd_nextWord_46)) (os_l (so_putI (C := R_Rd) (T := F_Rd) (N := 13) (j := 4) in_Rd t_Rd_ok n_Rd rfl (by decide) mw_640 rfl (by decide +kernel) d_Rd_nextWord_49))) (os_n (os_l (so_aload_n d_Rd_nextWord_52 rfl)) (os_n (os_l (so_get (C := R_Rd) (T := F_Rd) (N := 13) (j := 0) in_Rd rfl (by decide) mw_636 d_Rd_nextWord_53)) (os_l (so_aload_n d_Rd_nextWord_56 rfl))))) (os_n (os_n (os_l (so_get (C := R_Rd) (T := F_Rd) (N := 13) (j := 2) in_Rd rfl (by decide) mw_638 d_Rd_nextWord_57)) (os_n (os_l (so_callV (iv := mi_Tp_at) rfl rfl rfl mw_891 mw_754 mw_755 mw_2 mw_756 ⟨by decide +kernel, by decide +kernel, by decide +kernel⟩ (by decide) d_Rd_nextWord_60)) (os_l (so_istore_n d_Rd_nextWord_63 rfl (by decide))))) (os_n (os_l (so_aload_n d_Rd_nextWord_64 rfl)) (os_n (os_l (so_get (C := R_Rd) (T := F_Rd) (N := 13) (j := 2) in_Rd rfl (by decide) mw_638 d_Rd_nextWord_65)) (os_l (so_aload_n d_Rd_nextWord_68 rfl)))))) (os_n (os_n (os_n (os_l (so_get (C := R_Rd) (T := F_Rd) (N := 13) (j := 0) in_Rd rfl (by decide) mw_636 d_Rd_nextWord_69)) (os_l (so_get (C := R_Tp) (T := F_Tp) (N := 3) (j := 2) in_Tp rfl (by decide) mw_44 d_Rd_nextWord_72))) (os_n (os_l (so_iclt d_Rd_nextWord_75 (by decide))) (os_n (os_l (so_aload_n d_Rd_nextWord_78 rfl)) (os_l (so_bipush d_Rd_nextWord_79 (by decide)))))) (os_n (os_n (os_l (so_putI (C := R_Rd) (T := F_Rd) (N := 13) (j := 3) in_Rd t_Rd_ok n_Rd rfl (by decide) mw_639 rfl (by decide +kernel) d_Rd_nextWord_81)) (os_n (os_l (so_return rfl d_Rd_nextWord_84)) (os_l (so_iload_n d_Rd_nextWord_85 rfl)))) (os_n (os_l (so_callS (iv := mi_Tp_isLetter) rfl mw_893 mw_894 mw_2 mw_895 ⟨by decide +kernel, by decide +kernel, by decide +kernel⟩ (by decide) d_Rd_nextWord_86)) (os_n (os_l (so_ifeq d_Rd_nextWord_89 (by decide))) (os_l (so_aload_n d_Rd_nextWord_92 rfl)))))))) (os_n (os_n (os_n (os_n (os_n (os_l (so_callV (iv := mi_Rd_scanLetters) rfl rfl rfl mw_896 mw_898 sl_21 mw_13 mw_899 ⟨by decide +kernel, by decide +kernel, by decide +kernel⟩ (by decide) d_Rd_nextWord_93)) (os_l (so_goto d_Rd_nextWord_96 (by decide)))) (os_n (os_l (so_iload_n d_Rd_nextWord_99 rfl)) (os_n (os_l (so_callS (iv := mi_Tp_isDigit) rfl mw_900 mw_778 mw_2 mw_779 ⟨by decide +kernel, by decide +kernel, by decide +kernel⟩ (by decide) d_Rd_nextWord_100)) (os_l (so_ifeq d_Rd_nextWord_103 (by decide)))))) (os_n (os_n (os_l (so_aload_n d_Rd_nextWord_106 rfl)) (os_n (os_l (so_callV (iv := mi_Rd_scanNumber) rfl rfl rfl mw_901 mw_903 sl_22 mw_13 mw_904 ⟨by decide +kernel, by decide +kernel, by decide +kernel⟩ (by decide) d_Rd_nextWord_107)) (os_l (so_goto d_Rd_nextWord_110 (by decide))))) (os_n (os_l (so_aload_n d_Rd_nextWord_113 rfl)) (os_n (os_l (so_iload_n d_Rd_nextWord_114 rfl)) (os_l (so_putI (C := R_Rd) (T := F_Rd) (N := 13) (j := 3) in_Rd t_Rd_ok n_Rd rfl (by decide) mw_639 rfl (by decide +kernel) d_Rd_nextWord_115)))))) (os_n (os_n (os_n (os_l (so_aload_n d_Rd_nextWord_118 rfl)) (os_l (so_dup d_Rd_nextWord_119))) (os_n (os_l (so_get (C := R_Rd) (T := F_Rd) (N := 13) (j := 2) in_Rd rfl (by decide) mw_638 d_Rd_nextWord_120)) (os_n (os_l (so_iconst d_Rd_nextWord_123 (by decide))) (os_l (so_iadd d_Rd_nextWord_124))))) (os_n (os_n (os_l (so_putI (C := R_Rd) (T := F_Rd) (N := 13) (j := 2) in_Rd t_Rd_ok n_Rd rfl (by decide) mw_638 rfl (by decide +kernel) d_Rd_nextWord_125)) (os_n (os_l (so_iload_n d_Rd_nextWord_128 rfl)) (os_l (so_callS (iv := mi_Rd_isMark) rfl mw_908 mw_909 mw_13 mw_910 ⟨by decide +kernel, by decide +kernel, by decide +kernel⟩ (by decide) d_Rd_nextWord_129)))) (os_n (os_l (so_ifne d_Rd_nextWord_132 (by decide))) (os_n (os_l (so_aload_n d_Rd_nextWord_135 rfl)) (os_l (so_aload_n d_Rd_nextWord_136 rfl))))))) (os_n (os_n (os_n (os_n (os_l (so_get (C := R_Rd) (T := F_Rd) (N := 13) (j := 4) in_Rd rfl (by decide) mw_640 d_Rd_nextWord_137)) (os_l (so_callV (iv := mi_Rd_refuseByte) rfl rfl rfl mw_911 mw_913 sl_23 mw_13 mw_914 ⟨by decide +kernel, by decide +kernel, by decide +kernel⟩ (by decide) d_Rd_nextWord_140))) (os_n (os_l (so_return rfl d_Rd_nextWord_143)) (os_n (os_l (so_aload_n d_Rd_nextWord_144 rfl)) (os_l (so_get (C := R_Rd) (T := F_Rd) (N := 13) (j := 0) in_Rd rfl (by decide) mw_636 d_Rd_nextWord_145))))) (os_n (os_n (os_l (so_aload_n d_Rd_nextWord_148 rfl)) (os_n (os_l (so_get (C := R_Rd) (T := F_Rd) (N := 13) (j := 2) in_Rd rfl (by decide) mw_638 d_Rd_nextWord_149)) (os_l (so_callV (iv := mi_Tp_at) rfl rfl rfl mw_891 mw_754 mw_755 mw_2 mw_756 ⟨by decide +kernel, by decide +kernel, by decide +kernel⟩ (by decide) d_Rd_nextWord_152)))) (os_n (os_l (so_istore_n d_Rd_nextWord_155 rfl (by decide))) (os_n (os_l (so_iload_n d_Rd_nextWord_156 rfl)) (os_l (so_callS (iv := mi_Tp_isLetter) rfl mw_893 mw_894 mw_2 mw_895 ⟨by decide +kernel, by decide +kernel, by decide +kernel⟩ (by decide) d_Rd_nextWord_157)))))) (os_n (os_n (os_n (os_l (so_ifne d_Rd_nextWord_160 (by decide))) (os_n (os_l (so_iload_n d_Rd_nextWord_163 rfl)) (os_l (so_callS (iv := mi_Tp_isDigit) rfl mw_900 mw_778 mw_2 mw_779 ⟨by decide +kernel, by decide +kernel, by decide +kernel⟩ (by decide) d_Rd_nextWord_164)))) (os_n (os_l (so_ifne d_Rd_nextWord_167 (by decide))) (os_n (os_l (so_iload_n d_Rd_nextWord_170 rfl)) (os_l (so_bipush d_Rd_nextWord_171 (by decide)))))) (os_n (os_n (os_l (so_icne d_Rd_nextWord_173 (by decide))) (os_n (os_l (so_aload_n d_Rd_nextWord_176 rfl)) (os_l (so_aload_n d_Rd_nextWord_177 rfl)))) (os_n (os_l (so_get (C := R_Rd) (T := F_Rd) (N := 13) (j := 2) in_Rd rfl (by decide) mw_638 d_Rd_nextWord_178)) (os_n (os_l (so_callV (iv := mi_Rd_refuseByte) rfl rfl rfl mw_911 mw_913 sl_23 mw_13 mw_914 ⟨by decide +kernel, by decide +kernel, by decide +kernel⟩ (by decide) d_Rd_nextWord_181)) (os_l (so_return rfl d_Rd_nextWord_184)))))))))
abbrev t_Rd_refuseByte_15 : List UInt8 := 177 :: []
abbrev t_Rd_refuseByte_12 : List UInt8 := 182 :: 0 :: 108 :: t_Rd_refuseByte_15
abbrev t_Rd_refuseByte_11 : List UInt8 := 42 :: t_Rd_refuseByte_12
abbrev t_Rd_refuseByte_8 : List UInt8 := 181 :: 0 :: 111 :: t_Rd_refuseByte_11
abbrev t_Rd_refuseByte_7 : List UInt8 := 27 :: t_Rd_refuseByte_8
abbrev t_Rd_refuseByte_6 : List UInt8 := 42 :: t_Rd_refuseByte_7
abbrev t_Rd_refuseByte_3 : List UInt8 := 181 :: 0 :: 66 :: t_Rd_refuseByte_6
abbrev t_Rd_refuseByte_1 : List UInt8 := 16 :: 33 :: t_Rd_refuseByte_3
abbrev t_Rd_refuseByte_0 : List UInt8 := 42 :: t_Rd_refuseByte_1
theorem a_Rd_refuseByte_0 : dk_at b_Rd_refuseByte 0 t_Rd_refuseByte_0 := dk_start (by decide +kernel)
theorem a_Rd_refuseByte_1 : dk_at b_Rd_refuseByte 1 t_Rd_refuseByte_1 := dk_go 1 a_Rd_refuseByte_0 rfl
theorem a_Rd_refuseByte_3 : dk_at b_Rd_refuseByte 3 t_Rd_refuseByte_3 := dk_go 2 a_Rd_refuseByte_1 rfl
theorem a_Rd_refuseByte_6 : dk_at b_Rd_refuseByte 6 t_Rd_refuseByte_6 := dk_go 3 a_Rd_refuseByte_3 rfl
theorem a_Rd_refuseByte_7 : dk_at b_Rd_refuseByte 7 t_Rd_refuseByte_7 := dk_go 1 a_Rd_refuseByte_6 rfl
theorem a_Rd_refuseByte_8 : dk_at b_Rd_refuseByte 8 t_Rd_refuseByte_8 := dk_go 1 a_Rd_refuseByte_7 rfl
theorem a_Rd_refuseByte_11 : dk_at b_Rd_refuseByte 11 t_Rd_refuseByte_11 := dk_go 3 a_Rd_refuseByte_8 rfl
theorem a_Rd_refuseByte_12 : dk_at b_Rd_refuseByte 12 t_Rd_refuseByte_12 := dk_go 1 a_Rd_refuseByte_11 rfl
theorem a_Rd_refuseByte_15 : dk_at b_Rd_refuseByte 15 t_Rd_refuseByte_15 := dk_go 3 a_Rd_refuseByte_12 rfl
theorem d_Rd_refuseByte_0 : decode b_Rd_refuseByte 0 = .ok (.aload_n 0, 1) := dk_0 a_Rd_refuseByte_0 (dko_42 _)
theorem d_Rd_refuseByte_1 : decode b_Rd_refuseByte 1 = .ok (.bipush 33, 2) := dk_S1 a_Rd_refuseByte_1 (dko_16 _) (by decide +kernel)
theorem d_Rd_refuseByte_3 : decode b_Rd_refuseByte 3 = .ok (.putfield 66, 3) := dk_U2 a_Rd_refuseByte_3 (dko_181 _) rfl
theorem d_Rd_refuseByte_6 : decode b_Rd_refuseByte 6 = .ok (.aload_n 0, 1) := dk_0 a_Rd_refuseByte_6 (dko_42 _)
theorem d_Rd_refuseByte_7 : decode b_Rd_refuseByte 7 = .ok (.iload_n 1, 1) := dk_0 a_Rd_refuseByte_7 (dko_27 _)
theorem d_Rd_refuseByte_8 : decode b_Rd_refuseByte 8 = .ok (.putfield 111, 3) := dk_U2 a_Rd_refuseByte_8 (dko_181 _) rfl
theorem d_Rd_refuseByte_11 : decode b_Rd_refuseByte 11 = .ok (.aload_n 0, 1) := dk_0 a_Rd_refuseByte_11 (dko_42 _)
theorem d_Rd_refuseByte_12 : decode b_Rd_refuseByte 12 = .ok (.invokevirtual 108, 3) := dk_U2 a_Rd_refuseByte_12 (dko_182 _) rfl
theorem d_Rd_refuseByte_15 : decode b_Rd_refuseByte 15 = .ok (.return_, 1) := dk_0 a_Rd_refuseByte_15 (dko_177 _)
set_option maxHeartbeats 4000000 in
set_option maxRecDepth 100000 in
theorem ok_Rd_refuseByte (pc : Nat) : OpS mt mi_Rd_refuseByte pc (cs_Rd_refuseByte pc) := (os_n (os_n (os_n (os_l (so_aload_n d_Rd_refuseByte_0 rfl)) (os_l (so_bipush d_Rd_refuseByte_1 (by decide)))) (os_n (os_l (so_putI (C := R_Rd) (T := F_Rd) (N := 13) (j := 3) in_Rd t_Rd_ok n_Rd rfl (by decide) mw_639 rfl (by decide +kernel) d_Rd_refuseByte_3)) (os_l (so_aload_n d_Rd_refuseByte_6 rfl)))) (os_n (os_n (os_l (so_iload_n d_Rd_refuseByte_7 rfl)) (os_l (so_putI (C := R_Rd) (T := F_Rd) (N := 13) (j := 4) in_Rd t_Rd_ok n_Rd rfl (by decide) mw_640 rfl (by decide +kernel) d_Rd_refuseByte_8))) (os_n (os_l (so_aload_n d_Rd_refuseByte_11 rfl)) (os_n (os_l (so_callV (iv := mi_Rd_fail) rfl rfl rfl mw_915 mw_917 sl_24 mw_13 mw_918 ⟨by decide +kernel, by decide +kernel, by decide +kernel⟩ (by decide) d_Rd_refuseByte_12)) (os_l (so_return rfl d_Rd_refuseByte_15))))))
abbrev t_Rd_isMark_77 : List UInt8 := 172 :: []
abbrev t_Rd_isMark_76 : List UInt8 := 3 :: t_Rd_isMark_77
abbrev t_Rd_isMark_73 : List UInt8 := 167 :: 0 :: 4 :: t_Rd_isMark_76
abbrev t_Rd_isMark_72 : List UInt8 := 4 :: t_Rd_isMark_73
abbrev t_Rd_isMark_69 : List UInt8 := 160 :: 0 :: 7 :: t_Rd_isMark_72
abbrev t_Rd_isMark_67 : List UInt8 := 16 :: 62 :: t_Rd_isMark_69
abbrev t_Rd_isMark_66 : List UInt8 := 26 :: t_Rd_isMark_67
abbrev t_Rd_isMark_63 : List UInt8 := 159 :: 0 :: 9 :: t_Rd_isMark_66
abbrev t_Rd_isMark_61 : List UInt8 := 16 :: 61 :: t_Rd_isMark_63
abbrev t_Rd_isMark_60 : List UInt8 := 26 :: t_Rd_isMark_61
abbrev t_Rd_isMark_57 : List UInt8 := 159 :: 0 :: 15 :: t_Rd_isMark_60
abbrev t_Rd_isMark_55 : List UInt8 := 16 :: 60 :: t_Rd_isMark_57
abbrev t_Rd_isMark_54 : List UInt8 := 26 :: t_Rd_isMark_55
abbrev t_Rd_isMark_51 : List UInt8 := 159 :: 0 :: 21 :: t_Rd_isMark_54
abbrev t_Rd_isMark_49 : List UInt8 := 16 :: 47 :: t_Rd_isMark_51
abbrev t_Rd_isMark_48 : List UInt8 := 26 :: t_Rd_isMark_49
abbrev t_Rd_isMark_45 : List UInt8 := 159 :: 0 :: 27 :: t_Rd_isMark_48
abbrev t_Rd_isMark_43 : List UInt8 := 16 :: 42 :: t_Rd_isMark_45
abbrev t_Rd_isMark_42 : List UInt8 := 26 :: t_Rd_isMark_43
abbrev t_Rd_isMark_39 : List UInt8 := 159 :: 0 :: 33 :: t_Rd_isMark_42
abbrev t_Rd_isMark_37 : List UInt8 := 16 :: 45 :: t_Rd_isMark_39
abbrev t_Rd_isMark_36 : List UInt8 := 26 :: t_Rd_isMark_37
abbrev t_Rd_isMark_33 : List UInt8 := 159 :: 0 :: 39 :: t_Rd_isMark_36
abbrev t_Rd_isMark_31 : List UInt8 := 16 :: 43 :: t_Rd_isMark_33
abbrev t_Rd_isMark_30 : List UInt8 := 26 :: t_Rd_isMark_31
abbrev t_Rd_isMark_27 : List UInt8 := 159 :: 0 :: 45 :: t_Rd_isMark_30
abbrev t_Rd_isMark_25 : List UInt8 := 16 :: 59 :: t_Rd_isMark_27
abbrev t_Rd_isMark_24 : List UInt8 := 26 :: t_Rd_isMark_25
abbrev t_Rd_isMark_21 : List UInt8 := 159 :: 0 :: 51 :: t_Rd_isMark_24
abbrev t_Rd_isMark_19 : List UInt8 := 16 :: 41 :: t_Rd_isMark_21
abbrev t_Rd_isMark_18 : List UInt8 := 26 :: t_Rd_isMark_19
abbrev t_Rd_isMark_15 : List UInt8 := 159 :: 0 :: 57 :: t_Rd_isMark_18
abbrev t_Rd_isMark_13 : List UInt8 := 16 :: 40 :: t_Rd_isMark_15
abbrev t_Rd_isMark_12 : List UInt8 := 26 :: t_Rd_isMark_13
abbrev t_Rd_isMark_9 : List UInt8 := 159 :: 0 :: 63 :: t_Rd_isMark_12
abbrev t_Rd_isMark_7 : List UInt8 := 16 :: 125 :: t_Rd_isMark_9
abbrev t_Rd_isMark_6 : List UInt8 := 26 :: t_Rd_isMark_7
abbrev t_Rd_isMark_3 : List UInt8 := 159 :: 0 :: 69 :: t_Rd_isMark_6
abbrev t_Rd_isMark_1 : List UInt8 := 16 :: 123 :: t_Rd_isMark_3
abbrev t_Rd_isMark_0 : List UInt8 := 26 :: t_Rd_isMark_1
theorem a_Rd_isMark_0 : dk_at b_Rd_isMark 0 t_Rd_isMark_0 := dk_start (by decide +kernel)
theorem a_Rd_isMark_1 : dk_at b_Rd_isMark 1 t_Rd_isMark_1 := dk_go 1 a_Rd_isMark_0 rfl
theorem a_Rd_isMark_3 : dk_at b_Rd_isMark 3 t_Rd_isMark_3 := dk_go 2 a_Rd_isMark_1 rfl
theorem a_Rd_isMark_6 : dk_at b_Rd_isMark 6 t_Rd_isMark_6 := dk_go 3 a_Rd_isMark_3 rfl
theorem a_Rd_isMark_7 : dk_at b_Rd_isMark 7 t_Rd_isMark_7 := dk_go 1 a_Rd_isMark_6 rfl
theorem a_Rd_isMark_9 : dk_at b_Rd_isMark 9 t_Rd_isMark_9 := dk_go 2 a_Rd_isMark_7 rfl
theorem a_Rd_isMark_12 : dk_at b_Rd_isMark 12 t_Rd_isMark_12 := dk_go 3 a_Rd_isMark_9 rfl
theorem a_Rd_isMark_13 : dk_at b_Rd_isMark 13 t_Rd_isMark_13 := dk_go 1 a_Rd_isMark_12 rfl
theorem a_Rd_isMark_15 : dk_at b_Rd_isMark 15 t_Rd_isMark_15 := dk_go 2 a_Rd_isMark_13 rfl
theorem a_Rd_isMark_18 : dk_at b_Rd_isMark 18 t_Rd_isMark_18 := dk_go 3 a_Rd_isMark_15 rfl
theorem a_Rd_isMark_19 : dk_at b_Rd_isMark 19 t_Rd_isMark_19 := dk_go 1 a_Rd_isMark_18 rfl
theorem a_Rd_isMark_21 : dk_at b_Rd_isMark 21 t_Rd_isMark_21 := dk_go 2 a_Rd_isMark_19 rfl
theorem a_Rd_isMark_24 : dk_at b_Rd_isMark 24 t_Rd_isMark_24 := dk_go 3 a_Rd_isMark_21 rfl
theorem a_Rd_isMark_25 : dk_at b_Rd_isMark 25 t_Rd_isMark_25 := dk_go 1 a_Rd_isMark_24 rfl
theorem a_Rd_isMark_27 : dk_at b_Rd_isMark 27 t_Rd_isMark_27 := dk_go 2 a_Rd_isMark_25 rfl
theorem a_Rd_isMark_30 : dk_at b_Rd_isMark 30 t_Rd_isMark_30 := dk_go 3 a_Rd_isMark_27 rfl
theorem a_Rd_isMark_31 : dk_at b_Rd_isMark 31 t_Rd_isMark_31 := dk_go 1 a_Rd_isMark_30 rfl
theorem a_Rd_isMark_33 : dk_at b_Rd_isMark 33 t_Rd_isMark_33 := dk_go 2 a_Rd_isMark_31 rfl
theorem a_Rd_isMark_36 : dk_at b_Rd_isMark 36 t_Rd_isMark_36 := dk_go 3 a_Rd_isMark_33 rfl
theorem a_Rd_isMark_37 : dk_at b_Rd_isMark 37 t_Rd_isMark_37 := dk_go 1 a_Rd_isMark_36 rfl
theorem a_Rd_isMark_39 : dk_at b_Rd_isMark 39 t_Rd_isMark_39 := dk_go 2 a_Rd_isMark_37 rfl
theorem a_Rd_isMark_42 : dk_at b_Rd_isMark 42 t_Rd_isMark_42 := dk_go 3 a_Rd_isMark_39 rfl
theorem a_Rd_isMark_43 : dk_at b_Rd_isMark 43 t_Rd_isMark_43 := dk_go 1 a_Rd_isMark_42 rfl
theorem a_Rd_isMark_45 : dk_at b_Rd_isMark 45 t_Rd_isMark_45 := dk_go 2 a_Rd_isMark_43 rfl
theorem a_Rd_isMark_48 : dk_at b_Rd_isMark 48 t_Rd_isMark_48 := dk_go 3 a_Rd_isMark_45 rfl
theorem a_Rd_isMark_49 : dk_at b_Rd_isMark 49 t_Rd_isMark_49 := dk_go 1 a_Rd_isMark_48 rfl
theorem a_Rd_isMark_51 : dk_at b_Rd_isMark 51 t_Rd_isMark_51 := dk_go 2 a_Rd_isMark_49 rfl
theorem a_Rd_isMark_54 : dk_at b_Rd_isMark 54 t_Rd_isMark_54 := dk_go 3 a_Rd_isMark_51 rfl
theorem a_Rd_isMark_55 : dk_at b_Rd_isMark 55 t_Rd_isMark_55 := dk_go 1 a_Rd_isMark_54 rfl
theorem a_Rd_isMark_57 : dk_at b_Rd_isMark 57 t_Rd_isMark_57 := dk_go 2 a_Rd_isMark_55 rfl
theorem a_Rd_isMark_60 : dk_at b_Rd_isMark 60 t_Rd_isMark_60 := dk_go 3 a_Rd_isMark_57 rfl
theorem a_Rd_isMark_61 : dk_at b_Rd_isMark 61 t_Rd_isMark_61 := dk_go 1 a_Rd_isMark_60 rfl
theorem a_Rd_isMark_63 : dk_at b_Rd_isMark 63 t_Rd_isMark_63 := dk_go 2 a_Rd_isMark_61 rfl
theorem a_Rd_isMark_66 : dk_at b_Rd_isMark 66 t_Rd_isMark_66 := dk_go 3 a_Rd_isMark_63 rfl
theorem a_Rd_isMark_67 : dk_at b_Rd_isMark 67 t_Rd_isMark_67 := dk_go 1 a_Rd_isMark_66 rfl
theorem a_Rd_isMark_69 : dk_at b_Rd_isMark 69 t_Rd_isMark_69 := dk_go 2 a_Rd_isMark_67 rfl
theorem a_Rd_isMark_72 : dk_at b_Rd_isMark 72 t_Rd_isMark_72 := dk_go 3 a_Rd_isMark_69 rfl
theorem a_Rd_isMark_73 : dk_at b_Rd_isMark 73 t_Rd_isMark_73 := dk_go 1 a_Rd_isMark_72 rfl
theorem a_Rd_isMark_76 : dk_at b_Rd_isMark 76 t_Rd_isMark_76 := dk_go 3 a_Rd_isMark_73 rfl
theorem a_Rd_isMark_77 : dk_at b_Rd_isMark 77 t_Rd_isMark_77 := dk_go 1 a_Rd_isMark_76 rfl
theorem d_Rd_isMark_0 : decode b_Rd_isMark 0 = .ok (.iload_n 0, 1) := dk_0 a_Rd_isMark_0 (dko_26 _)
theorem d_Rd_isMark_1 : decode b_Rd_isMark 1 = .ok (.bipush 123, 2) := dk_S1 a_Rd_isMark_1 (dko_16 _) (by decide +kernel)
theorem d_Rd_isMark_3 : decode b_Rd_isMark 3 = .ok (.if_icmp .eq 69, 3) := dk_S2 a_Rd_isMark_3 (dko_159 _) (by decide +kernel)
theorem d_Rd_isMark_6 : decode b_Rd_isMark 6 = .ok (.iload_n 0, 1) := dk_0 a_Rd_isMark_6 (dko_26 _)
theorem d_Rd_isMark_7 : decode b_Rd_isMark 7 = .ok (.bipush 125, 2) := dk_S1 a_Rd_isMark_7 (dko_16 _) (by decide +kernel)
theorem d_Rd_isMark_9 : decode b_Rd_isMark 9 = .ok (.if_icmp .eq 63, 3) := dk_S2 a_Rd_isMark_9 (dko_159 _) (by decide +kernel)
theorem d_Rd_isMark_12 : decode b_Rd_isMark 12 = .ok (.iload_n 0, 1) := dk_0 a_Rd_isMark_12 (dko_26 _)
theorem d_Rd_isMark_13 : decode b_Rd_isMark 13 = .ok (.bipush 40, 2) := dk_S1 a_Rd_isMark_13 (dko_16 _) (by decide +kernel)
theorem d_Rd_isMark_15 : decode b_Rd_isMark 15 = .ok (.if_icmp .eq 57, 3) := dk_S2 a_Rd_isMark_15 (dko_159 _) (by decide +kernel)
theorem d_Rd_isMark_18 : decode b_Rd_isMark 18 = .ok (.iload_n 0, 1) := dk_0 a_Rd_isMark_18 (dko_26 _)
theorem d_Rd_isMark_19 : decode b_Rd_isMark 19 = .ok (.bipush 41, 2) := dk_S1 a_Rd_isMark_19 (dko_16 _) (by decide +kernel)
theorem d_Rd_isMark_21 : decode b_Rd_isMark 21 = .ok (.if_icmp .eq 51, 3) := dk_S2 a_Rd_isMark_21 (dko_159 _) (by decide +kernel)
theorem d_Rd_isMark_24 : decode b_Rd_isMark 24 = .ok (.iload_n 0, 1) := dk_0 a_Rd_isMark_24 (dko_26 _)
theorem d_Rd_isMark_25 : decode b_Rd_isMark 25 = .ok (.bipush 59, 2) := dk_S1 a_Rd_isMark_25 (dko_16 _) (by decide +kernel)
theorem d_Rd_isMark_27 : decode b_Rd_isMark 27 = .ok (.if_icmp .eq 45, 3) := dk_S2 a_Rd_isMark_27 (dko_159 _) (by decide +kernel)
theorem d_Rd_isMark_30 : decode b_Rd_isMark 30 = .ok (.iload_n 0, 1) := dk_0 a_Rd_isMark_30 (dko_26 _)
theorem d_Rd_isMark_31 : decode b_Rd_isMark 31 = .ok (.bipush 43, 2) := dk_S1 a_Rd_isMark_31 (dko_16 _) (by decide +kernel)
theorem d_Rd_isMark_33 : decode b_Rd_isMark 33 = .ok (.if_icmp .eq 39, 3) := dk_S2 a_Rd_isMark_33 (dko_159 _) (by decide +kernel)
theorem d_Rd_isMark_36 : decode b_Rd_isMark 36 = .ok (.iload_n 0, 1) := dk_0 a_Rd_isMark_36 (dko_26 _)
theorem d_Rd_isMark_37 : decode b_Rd_isMark 37 = .ok (.bipush 45, 2) := dk_S1 a_Rd_isMark_37 (dko_16 _) (by decide +kernel)
theorem d_Rd_isMark_39 : decode b_Rd_isMark 39 = .ok (.if_icmp .eq 33, 3) := dk_S2 a_Rd_isMark_39 (dko_159 _) (by decide +kernel)
theorem d_Rd_isMark_42 : decode b_Rd_isMark 42 = .ok (.iload_n 0, 1) := dk_0 a_Rd_isMark_42 (dko_26 _)
theorem d_Rd_isMark_43 : decode b_Rd_isMark 43 = .ok (.bipush 42, 2) := dk_S1 a_Rd_isMark_43 (dko_16 _) (by decide +kernel)
theorem d_Rd_isMark_45 : decode b_Rd_isMark 45 = .ok (.if_icmp .eq 27, 3) := dk_S2 a_Rd_isMark_45 (dko_159 _) (by decide +kernel)
theorem d_Rd_isMark_48 : decode b_Rd_isMark 48 = .ok (.iload_n 0, 1) := dk_0 a_Rd_isMark_48 (dko_26 _)
theorem d_Rd_isMark_49 : decode b_Rd_isMark 49 = .ok (.bipush 47, 2) := dk_S1 a_Rd_isMark_49 (dko_16 _) (by decide +kernel)
theorem d_Rd_isMark_51 : decode b_Rd_isMark 51 = .ok (.if_icmp .eq 21, 3) := dk_S2 a_Rd_isMark_51 (dko_159 _) (by decide +kernel)
theorem d_Rd_isMark_54 : decode b_Rd_isMark 54 = .ok (.iload_n 0, 1) := dk_0 a_Rd_isMark_54 (dko_26 _)
theorem d_Rd_isMark_55 : decode b_Rd_isMark 55 = .ok (.bipush 60, 2) := dk_S1 a_Rd_isMark_55 (dko_16 _) (by decide +kernel)
theorem d_Rd_isMark_57 : decode b_Rd_isMark 57 = .ok (.if_icmp .eq 15, 3) := dk_S2 a_Rd_isMark_57 (dko_159 _) (by decide +kernel)
theorem d_Rd_isMark_60 : decode b_Rd_isMark 60 = .ok (.iload_n 0, 1) := dk_0 a_Rd_isMark_60 (dko_26 _)
theorem d_Rd_isMark_61 : decode b_Rd_isMark 61 = .ok (.bipush 61, 2) := dk_S1 a_Rd_isMark_61 (dko_16 _) (by decide +kernel)
theorem d_Rd_isMark_63 : decode b_Rd_isMark 63 = .ok (.if_icmp .eq 9, 3) := dk_S2 a_Rd_isMark_63 (dko_159 _) (by decide +kernel)
theorem d_Rd_isMark_66 : decode b_Rd_isMark 66 = .ok (.iload_n 0, 1) := dk_0 a_Rd_isMark_66 (dko_26 _)
theorem d_Rd_isMark_67 : decode b_Rd_isMark 67 = .ok (.bipush 62, 2) := dk_S1 a_Rd_isMark_67 (dko_16 _) (by decide +kernel)
theorem d_Rd_isMark_69 : decode b_Rd_isMark 69 = .ok (.if_icmp .ne 7, 3) := dk_S2 a_Rd_isMark_69 (dko_160 _) (by decide +kernel)
theorem d_Rd_isMark_72 : decode b_Rd_isMark 72 = .ok (.iconst 1, 1) := dk_0 a_Rd_isMark_72 (dko_4 _)
theorem d_Rd_isMark_73 : decode b_Rd_isMark 73 = .ok (.goto 4, 3) := dk_S2 a_Rd_isMark_73 (dko_167 _) (by decide +kernel)
theorem d_Rd_isMark_76 : decode b_Rd_isMark 76 = .ok (.iconst 0, 1) := dk_0 a_Rd_isMark_76 (dko_3 _)
theorem d_Rd_isMark_77 : decode b_Rd_isMark 77 = .ok (.ireturn, 1) := dk_0 a_Rd_isMark_77 (dko_172 _)
set_option maxHeartbeats 4000000 in
set_option maxRecDepth 100000 in
theorem ok_Rd_isMark (pc : Nat) : OpS mt mi_Rd_isMark pc (cs_Rd_isMark pc) := (os_n (os_n (os_n (os_n (os_n (os_l (so_iload_n d_Rd_isMark_0 rfl)) (os_l (so_bipush d_Rd_isMark_1 (by decide)))) (os_n (os_l (so_iceq d_Rd_isMark_3 (by decide))) (os_n (os_l (so_iload_n d_Rd_isMark_6 rfl)) (os_l (so_bipush d_Rd_isMark_7 (by decide)))))) (os_n (os_n (os_l (so_iceq d_Rd_isMark_9 (by decide))) (os_l (so_iload_n d_Rd_isMark_12 rfl))) (os_n (os_l (so_bipush d_Rd_isMark_13 (by decide))) (os_n (os_l (so_iceq d_Rd_isMark_15 (by decide))) (os_l (so_iload_n d_Rd_isMark_18 rfl)))))) (os_n (os_n (os_n (os_l (so_bipush d_Rd_isMark_19 (by decide))) (os_l (so_iceq d_Rd_isMark_21 (by decide)))) (os_n (os_l (so_iload_n d_Rd_isMark_24 rfl)) (os_n (os_l (so_bipush d_Rd_isMark_25 (by decide))) (os_l (so_iceq d_Rd_isMark_27 (by decide)))))) (os_n (os_n (os_l (so_iload_n d_Rd_isMark_30 rfl)) (os_l (so_bipush d_Rd_isMark_31 (by decide)))) (os_n (os_l (so_iceq d_Rd_isMark_33 (by decide))) (os_n (os_l (so_iload_n d_Rd_isMark_36 rfl)) (os_l (so_bipush d_Rd_isMark_37 (by decide)))))))) (os_n (os_n (os_n (os_n (os_l (so_iceq d_Rd_isMark_39 (by decide))) (os_l (so_iload_n d_Rd_isMark_42 rfl))) (os_n (os_l (so_bipush d_Rd_isMark_43 (by decide))) (os_n (os_l (so_iceq d_Rd_isMark_45 (by decide))) (os_l (so_iload_n d_Rd_isMark_48 rfl))))) (os_n (os_n (os_l (so_bipush d_Rd_isMark_49 (by decide))) (os_l (so_iceq d_Rd_isMark_51 (by decide)))) (os_n (os_l (so_iload_n d_Rd_isMark_54 rfl)) (os_n (os_l (so_bipush d_Rd_isMark_55 (by decide))) (os_l (so_iceq d_Rd_isMark_57 (by decide))))))) (os_n (os_n (os_n (os_l (so_iload_n d_Rd_isMark_60 rfl)) (os_l (so_bipush d_Rd_isMark_61 (by decide)))) (os_n (os_l (so_iceq d_Rd_isMark_63 (by decide))) (os_n (os_l (so_iload_n d_Rd_isMark_66 rfl)) (os_l (so_bipush d_Rd_isMark_67 (by decide)))))) (os_n (os_n (os_l (so_icne d_Rd_isMark_69 (by decide))) (os_l (so_iconst d_Rd_isMark_72 (by decide)))) (os_n (os_l (so_goto d_Rd_isMark_73 (by decide))) (os_n (os_l (so_iconst d_Rd_isMark_76 (by decide))) (os_l (so_zreturn rfl d_Rd_isMark_77))))))))
abbrev t_Rd_scanLetters_143 : List UInt8 := 177 :: []
abbrev t_Rd_scanLetters_140 : List UInt8 := 167 :: 255 :: 209 :: t_Rd_scanLetters_143
abbrev t_Rd_scanLetters_137 : List UInt8 := 132 :: 2 :: 1 :: t_Rd_scanLetters_140
abbrev t_Rd_scanLetters_134 : List UInt8 := 181 :: 0 :: 66 :: t_Rd_scanLetters_137
abbrev t_Rd_scanLetters_132 : List UInt8 := 16 :: 30 :: t_Rd_scanLetters_134
abbrev t_Rd_scanLetters_129 : List UInt8 := 167 :: 0 :: 5 :: t_Rd_scanLetters_132
abbrev t_Rd_scanLetters_128 : List UInt8 := 96 :: t_Rd_scanLetters_129
abbrev t_Rd_scanLetters_127 : List UInt8 := 4 :: t_Rd_scanLetters_128
abbrev t_Rd_scanLetters_126 : List UInt8 := 28 :: t_Rd_scanLetters_127
abbrev t_Rd_scanLetters_123 : List UInt8 := 154 :: 0 :: 9 :: t_Rd_scanLetters_126
abbrev t_Rd_scanLetters_122 : List UInt8 := 148 :: t_Rd_scanLetters_123
abbrev t_Rd_scanLetters_119 : List UInt8 := 180 :: 0 :: 143 :: t_Rd_scanLetters_122
abbrev t_Rd_scanLetters_118 : List UInt8 := 42 :: t_Rd_scanLetters_119
abbrev t_Rd_scanLetters_117 : List UInt8 := 47 :: t_Rd_scanLetters_118
abbrev t_Rd_scanLetters_116 : List UInt8 := 28 :: t_Rd_scanLetters_117
abbrev t_Rd_scanLetters_113 : List UInt8 := 180 :: 0 :: 18 :: t_Rd_scanLetters_116
abbrev t_Rd_scanLetters_112 : List UInt8 := 42 :: t_Rd_scanLetters_113
abbrev t_Rd_scanLetters_111 : List UInt8 := 42 :: t_Rd_scanLetters_112
abbrev t_Rd_scanLetters_108 : List UInt8 := 160 :: 0 :: 35 :: t_Rd_scanLetters_111
abbrev t_Rd_scanLetters_106 : List UInt8 := 16 :: 30 :: t_Rd_scanLetters_108
abbrev t_Rd_scanLetters_103 : List UInt8 := 180 :: 0 :: 66 :: t_Rd_scanLetters_106
abbrev t_Rd_scanLetters_102 : List UInt8 := 42 :: t_Rd_scanLetters_103
abbrev t_Rd_scanLetters_99 : List UInt8 := 162 :: 0 :: 44 :: t_Rd_scanLetters_102
abbrev t_Rd_scanLetters_98 : List UInt8 := 190 :: t_Rd_scanLetters_99
abbrev t_Rd_scanLetters_95 : List UInt8 := 180 :: 0 :: 18 :: t_Rd_scanLetters_98
abbrev t_Rd_scanLetters_94 : List UInt8 := 42 :: t_Rd_scanLetters_95
abbrev t_Rd_scanLetters_93 : List UInt8 := 28 :: t_Rd_scanLetters_94
abbrev t_Rd_scanLetters_92 : List UInt8 := 61 :: t_Rd_scanLetters_93
abbrev t_Rd_scanLetters_91 : List UInt8 := 3 :: t_Rd_scanLetters_92
abbrev t_Rd_scanLetters_88 : List UInt8 := 181 :: 0 :: 66 :: t_Rd_scanLetters_91
abbrev t_Rd_scanLetters_86 : List UInt8 := 16 :: 30 :: t_Rd_scanLetters_88
abbrev t_Rd_scanLetters_85 : List UInt8 := 42 :: t_Rd_scanLetters_86
abbrev t_Rd_scanLetters_82 : List UInt8 := 167 :: 255 :: 193 :: t_Rd_scanLetters_85
abbrev t_Rd_scanLetters_79 : List UInt8 := 132 :: 2 :: 1 :: t_Rd_scanLetters_82
abbrev t_Rd_scanLetters_78 : List UInt8 := 60 :: t_Rd_scanLetters_79
abbrev t_Rd_scanLetters_75 : List UInt8 := 182 :: 0 :: 119 :: t_Rd_scanLetters_78
abbrev t_Rd_scanLetters_72 : List UInt8 := 180 :: 0 :: 53 :: t_Rd_scanLetters_75
abbrev t_Rd_scanLetters_71 : List UInt8 := 42 :: t_Rd_scanLetters_72
abbrev t_Rd_scanLetters_68 : List UInt8 := 180 :: 0 :: 40 :: t_Rd_scanLetters_71
abbrev t_Rd_scanLetters_67 : List UInt8 := 42 :: t_Rd_scanLetters_68
abbrev t_Rd_scanLetters_64 : List UInt8 := 181 :: 0 :: 53 :: t_Rd_scanLetters_67
abbrev t_Rd_scanLetters_63 : List UInt8 := 96 :: t_Rd_scanLetters_64
abbrev t_Rd_scanLetters_62 : List UInt8 := 4 :: t_Rd_scanLetters_63
abbrev t_Rd_scanLetters_59 : List UInt8 := 180 :: 0 :: 53 :: t_Rd_scanLetters_62
abbrev t_Rd_scanLetters_58 : List UInt8 := 89 :: t_Rd_scanLetters_59
abbrev t_Rd_scanLetters_57 : List UInt8 := 42 :: t_Rd_scanLetters_58
abbrev t_Rd_scanLetters_54 : List UInt8 := 181 :: 0 :: 143 :: t_Rd_scanLetters_57
abbrev t_Rd_scanLetters_53 : List UInt8 := 97 :: t_Rd_scanLetters_54
abbrev t_Rd_scanLetters_52 : List UInt8 := 133 :: t_Rd_scanLetters_53
abbrev t_Rd_scanLetters_49 : List UInt8 := 184 :: 0 :: 36 :: t_Rd_scanLetters_52
abbrev t_Rd_scanLetters_48 : List UInt8 := 27 :: t_Rd_scanLetters_49
abbrev t_Rd_scanLetters_47 : List UInt8 := 105 :: t_Rd_scanLetters_48
abbrev t_Rd_scanLetters_44 : List UInt8 := 20 :: 0 :: 34 :: t_Rd_scanLetters_47
abbrev t_Rd_scanLetters_41 : List UInt8 := 180 :: 0 :: 143 :: t_Rd_scanLetters_44
abbrev t_Rd_scanLetters_40 : List UInt8 := 42 :: t_Rd_scanLetters_41
abbrev t_Rd_scanLetters_39 : List UInt8 := 42 :: t_Rd_scanLetters_40
abbrev t_Rd_scanLetters_36 : List UInt8 := 153 :: 0 :: 49 :: t_Rd_scanLetters_39
abbrev t_Rd_scanLetters_33 : List UInt8 := 184 :: 0 :: 131 :: t_Rd_scanLetters_36
abbrev t_Rd_scanLetters_32 : List UInt8 := 27 :: t_Rd_scanLetters_33
abbrev t_Rd_scanLetters_29 : List UInt8 := 154 :: 0 :: 10 :: t_Rd_scanLetters_32
abbrev t_Rd_scanLetters_26 : List UInt8 := 184 :: 0 :: 125 :: t_Rd_scanLetters_29
abbrev t_Rd_scanLetters_25 : List UInt8 := 27 :: t_Rd_scanLetters_26
abbrev t_Rd_scanLetters_22 : List UInt8 := 162 :: 0 :: 63 :: t_Rd_scanLetters_25
abbrev t_Rd_scanLetters_20 : List UInt8 := 16 :: 12 :: t_Rd_scanLetters_22
abbrev t_Rd_scanLetters_19 : List UInt8 := 28 :: t_Rd_scanLetters_20
abbrev t_Rd_scanLetters_18 : List UInt8 := 61 :: t_Rd_scanLetters_19
abbrev t_Rd_scanLetters_17 : List UInt8 := 3 :: t_Rd_scanLetters_18
abbrev t_Rd_scanLetters_16 : List UInt8 := 60 :: t_Rd_scanLetters_17
abbrev t_Rd_scanLetters_13 : List UInt8 := 182 :: 0 :: 119 :: t_Rd_scanLetters_16
abbrev t_Rd_scanLetters_10 : List UInt8 := 180 :: 0 :: 53 :: t_Rd_scanLetters_13
abbrev t_Rd_scanLetters_9 : List UInt8 := 42 :: t_Rd_scanLetters_10
abbrev t_Rd_scanLetters_6 : List UInt8 := 180 :: 0 :: 40 :: t_Rd_scanLetters_9
abbrev t_Rd_scanLetters_5 : List UInt8 := 42 :: t_Rd_scanLetters_6
abbrev t_Rd_scanLetters_2 : List UInt8 := 181 :: 0 :: 143 :: t_Rd_scanLetters_5
abbrev t_Rd_scanLetters_1 : List UInt8 := 9 :: t_Rd_scanLetters_2
abbrev t_Rd_scanLetters_0 : List UInt8 := 42 :: t_Rd_scanLetters_1
theorem a_Rd_scanLetters_0 : dk_at b_Rd_scanLetters 0 t_Rd_scanLetters_0 := dk_start (by decide +kernel)
theorem a_Rd_scanLetters_1 : dk_at b_Rd_scanLetters 1 t_Rd_scanLetters_1 := dk_go 1 a_Rd_scanLetters_0 rfl
theorem a_Rd_scanLetters_2 : dk_at b_Rd_scanLetters 2 t_Rd_scanLetters_2 := dk_go 1 a_Rd_scanLetters_1 rfl
theorem a_Rd_scanLetters_5 : dk_at b_Rd_scanLetters 5 t_Rd_scanLetters_5 := dk_go 3 a_Rd_scanLetters_2 rfl
theorem a_Rd_scanLetters_6 : dk_at b_Rd_scanLetters 6 t_Rd_scanLetters_6 := dk_go 1 a_Rd_scanLetters_5 rfl
theorem a_Rd_scanLetters_9 : dk_at b_Rd_scanLetters 9 t_Rd_scanLetters_9 := dk_go 3 a_Rd_scanLetters_6 rfl
theorem a_Rd_scanLetters_10 : dk_at b_Rd_scanLetters 10 t_Rd_scanLetters_10 := dk_go 1 a_Rd_scanLetters_9 rfl
theorem a_Rd_scanLetters_13 : dk_at b_Rd_scanLetters 13 t_Rd_scanLetters_13 := dk_go 3 a_Rd_scanLetters_10 rfl
theorem a_Rd_scanLetters_16 : dk_at b_Rd_scanLetters 16 t_Rd_scanLetters_16 := dk_go 3 a_Rd_scanLetters_13 rfl
theorem a_Rd_scanLetters_17 : dk_at b_Rd_scanLetters 17 t_Rd_scanLetters_17 := dk_go 1 a_Rd_scanLetters_16 rfl
theorem a_Rd_scanLetters_18 : dk_at b_Rd_scanLetters 18 t_Rd_scanLetters_18 := dk_go 1 a_Rd_scanLetters_17 rfl
theorem a_Rd_scanLetters_19 : dk_at b_Rd_scanLetters 19 t_Rd_scanLetters_19 := dk_go 1 a_Rd_scanLetters_18 rfl
theorem a_Rd_scanLetters_20 : dk_at b_Rd_scanLetters 20 t_Rd_scanLetters_20 := dk_go 1 a_Rd_scanLetters_19 rfl
theorem a_Rd_scanLetters_22 : dk_at b_Rd_scanLetters 22 t_Rd_scanLetters_22 := dk_go 2 a_Rd_scanLetters_20 rfl
theorem a_Rd_scanLetters_25 : dk_at b_Rd_scanLetters 25 t_Rd_scanLetters_25 := dk_go 3 a_Rd_scanLetters_22 rfl
theorem a_Rd_scanLetters_26 : dk_at b_Rd_scanLetters 26 t_Rd_scanLetters_26 := dk_go 1 a_Rd_scanLetters_25 rfl
theorem a_Rd_scanLetters_29 : dk_at b_Rd_scanLetters 29 t_Rd_scanLetters_29 := dk_go 3 a_Rd_scanLetters_26 rfl
theorem a_Rd_scanLetters_32 : dk_at b_Rd_scanLetters 32 t_Rd_scanLetters_32 := dk_go 3 a_Rd_scanLetters_29 rfl
theorem a_Rd_scanLetters_33 : dk_at b_Rd_scanLetters 33 t_Rd_scanLetters_33 := dk_go 1 a_Rd_scanLetters_32 rfl
theorem a_Rd_scanLetters_36 : dk_at b_Rd_scanLetters 36 t_Rd_scanLetters_36 := dk_go 3 a_Rd_scanLetters_33 rfl
theorem a_Rd_scanLetters_39 : dk_at b_Rd_scanLetters 39 t_Rd_scanLetters_39 := dk_go 3 a_Rd_scanLetters_36 rfl
theorem a_Rd_scanLetters_40 : dk_at b_Rd_scanLetters 40 t_Rd_scanLetters_40 := dk_go 1 a_Rd_scanLetters_39 rfl
theorem a_Rd_scanLetters_41 : dk_at b_Rd_scanLetters 41 t_Rd_scanLetters_41 := dk_go 1 a_Rd_scanLetters_40 rfl
theorem a_Rd_scanLetters_44 : dk_at b_Rd_scanLetters 44 t_Rd_scanLetters_44 := dk_go 3 a_Rd_scanLetters_41 rfl
theorem a_Rd_scanLetters_47 : dk_at b_Rd_scanLetters 47 t_Rd_scanLetters_47 := dk_go 3 a_Rd_scanLetters_44 rfl
theorem a_Rd_scanLetters_48 : dk_at b_Rd_scanLetters 48 t_Rd_scanLetters_48 := dk_go 1 a_Rd_scanLetters_47 rfl
theorem a_Rd_scanLetters_49 : dk_at b_Rd_scanLetters 49 t_Rd_scanLetters_49 := dk_go 1 a_Rd_scanLetters_48 rfl
theorem a_Rd_scanLetters_52 : dk_at b_Rd_scanLetters 52 t_Rd_scanLetters_52 := dk_go 3 a_Rd_scanLetters_49 rfl
theorem a_Rd_scanLetters_53 : dk_at b_Rd_scanLetters 53 t_Rd_scanLetters_53 := dk_go 1 a_Rd_scanLetters_52 rfl
theorem a_Rd_scanLetters_54 : dk_at b_Rd_scanLetters 54 t_Rd_scanLetters_54 := dk_go 1 a_Rd_scanLetters_53 rfl
theorem a_Rd_scanLetters_57 : dk_at b_Rd_scanLetters 57 t_Rd_scanLetters_57 := dk_go 3 a_Rd_scanLetters_54 rfl
theorem a_Rd_scanLetters_58 : dk_at b_Rd_scanLetters 58 t_Rd_scanLetters_58 := dk_go 1 a_Rd_scanLetters_57 rfl
theorem a_Rd_scanLetters_59 : dk_at b_Rd_scanLetters 59 t_Rd_scanLetters_59 := dk_go 1 a_Rd_scanLetters_58 rfl
theorem a_Rd_scanLetters_62 : dk_at b_Rd_scanLetters 62 t_Rd_scanLetters_62 := dk_go 3 a_Rd_scanLetters_59 rfl
theorem a_Rd_scanLetters_63 : dk_at b_Rd_scanLetters 63 t_Rd_scanLetters_63 := dk_go 1 a_Rd_scanLetters_62 rfl
theorem a_Rd_scanLetters_64 : dk_at b_Rd_scanLetters 64 t_Rd_scanLetters_64 := dk_go 1 a_Rd_scanLetters_63 rfl
theorem a_Rd_scanLetters_67 : dk_at b_Rd_scanLetters 67 t_Rd_scanLetters_67 := dk_go 3 a_Rd_scanLetters_64 rfl
theorem a_Rd_scanLetters_68 : dk_at b_Rd_scanLetters 68 t_Rd_scanLetters_68 := dk_go 1 a_Rd_scanLetters_67 rfl
theorem a_Rd_scanLetters_71 : dk_at b_Rd_scanLetters 71 t_Rd_scanLetters_71 := dk_go 3 a_Rd_scanLetters_68 rfl
theorem a_Rd_scanLetters_72 : dk_at b_Rd_scanLetters 72 t_Rd_scanLetters_72 := dk_go 1 a_Rd_scanLetters_71 rfl
theorem a_Rd_scanLetters_75 : dk_at b_Rd_scanLetters 75 t_Rd_scanLetters_75 := dk_go 3 a_Rd_scanLetters_72 rfl
theorem a_Rd_scanLetters_78 : dk_at b_Rd_scanLetters 78 t_Rd_scanLetters_78 := dk_go 3 a_Rd_scanLetters_75 rfl
theorem a_Rd_scanLetters_79 : dk_at b_Rd_scanLetters 79 t_Rd_scanLetters_79 := dk_go 1 a_Rd_scanLetters_78 rfl
theorem a_Rd_scanLetters_82 : dk_at b_Rd_scanLetters 82 t_Rd_scanLetters_82 := dk_go 3 a_Rd_scanLetters_79 rfl
theorem a_Rd_scanLetters_85 : dk_at b_Rd_scanLetters 85 t_Rd_scanLetters_85 := dk_go 3 a_Rd_scanLetters_82 rfl
theorem a_Rd_scanLetters_86 : dk_at b_Rd_scanLetters 86 t_Rd_scanLetters_86 := dk_go 1 a_Rd_scanLetters_85 rfl
theorem a_Rd_scanLetters_88 : dk_at b_Rd_scanLetters 88 t_Rd_scanLetters_88 := dk_go 2 a_Rd_scanLetters_86 rfl
theorem a_Rd_scanLetters_91 : dk_at b_Rd_scanLetters 91 t_Rd_scanLetters_91 := dk_go 3 a_Rd_scanLetters_88 rfl
theorem a_Rd_scanLetters_92 : dk_at b_Rd_scanLetters 92 t_Rd_scanLetters_92 := dk_go 1 a_Rd_scanLetters_91 rfl
theorem a_Rd_scanLetters_93 : dk_at b_Rd_scanLetters 93 t_Rd_scanLetters_93 := dk_go 1 a_Rd_scanLetters_92 rfl
theorem a_Rd_scanLetters_94 : dk_at b_Rd_scanLetters 94 t_Rd_scanLetters_94 := dk_go 1 a_Rd_scanLetters_93 rfl
theorem a_Rd_scanLetters_95 : dk_at b_Rd_scanLetters 95 t_Rd_scanLetters_95 := dk_go 1 a_Rd_scanLetters_94 rfl
theorem a_Rd_scanLetters_98 : dk_at b_Rd_scanLetters 98 t_Rd_scanLetters_98 := dk_go 3 a_Rd_scanLetters_95 rfl
theorem a_Rd_scanLetters_99 : dk_at b_Rd_scanLetters 99 t_Rd_scanLetters_99 := dk_go 1 a_Rd_scanLetters_98 rfl
theorem a_Rd_scanLetters_102 : dk_at b_Rd_scanLetters 102 t_Rd_scanLetters_102 := dk_go 3 a_Rd_scanLetters_99 rfl
theorem a_Rd_scanLetters_103 : dk_at b_Rd_scanLetters 103 t_Rd_scanLetters_103 := dk_go 1 a_Rd_scanLetters_102 rfl
theorem a_Rd_scanLetters_106 : dk_at b_Rd_scanLetters 106 t_Rd_scanLetters_106 := dk_go 3 a_Rd_scanLetters_103 rfl
theorem a_Rd_scanLetters_108 : dk_at b_Rd_scanLetters 108 t_Rd_scanLetters_108 := dk_go 2 a_Rd_scanLetters_106 rfl
theorem a_Rd_scanLetters_111 : dk_at b_Rd_scanLetters 111 t_Rd_scanLetters_111 := dk_go 3 a_Rd_scanLetters_108 rfl
theorem a_Rd_scanLetters_112 : dk_at b_Rd_scanLetters 112 t_Rd_scanLetters_112 := dk_go 1 a_Rd_scanLetters_111 rfl
theorem a_Rd_scanLetters_113 : dk_at b_Rd_scanLetters 113 t_Rd_scanLetters_113 := dk_go 1 a_Rd_scanLetters_112 rfl
theorem a_Rd_scanLetters_116 : dk_at b_Rd_scanLetters 116 t_Rd_scanLetters_116 := dk_go 3 a_Rd_scanLetters_113 rfl
theorem a_Rd_scanLetters_117 : dk_at b_Rd_scanLetters 117 t_Rd_scanLetters_117 := dk_go 1 a_Rd_scanLetters_116 rfl
theorem a_Rd_scanLetters_118 : dk_at b_Rd_scanLetters 118 t_Rd_scanLetters_118 := dk_go 1 a_Rd_scanLetters_117 rfl
theorem a_Rd_scanLetters_119 : dk_at b_Rd_scanLetters 119 t_Rd_scanLetters_119 := dk_go 1 a_Rd_scanLetters_118 rfl
theorem a_Rd_scanLetters_122 : dk_at b_Rd_scanLetters 122 t_Rd_scanLetters_122 := dk_go 3 a_Rd_scanLetters_119 rfl
theorem a_Rd_scanLetters_123 : dk_at b_Rd_scanLetters 123 t_Rd_scanLetters_123 := dk_go 1 a_Rd_scanLetters_122 rfl
theorem a_Rd_scanLetters_126 : dk_at b_Rd_scanLetters 126 t_Rd_scanLetters_126 := dk_go 3 a_Rd_scanLetters_123 rfl
theorem a_Rd_scanLetters_127 : dk_at b_Rd_scanLetters 127 t_Rd_scanLetters_127 := dk_go 1 a_Rd_scanLetters_126 rfl
theorem a_Rd_scanLetters_128 : dk_at b_Rd_scanLetters 128 t_Rd_scanLetters_128 := dk_go 1 a_Rd_scanLetters_127 rfl
theorem a_Rd_scanLetters_129 : dk_at b_Rd_scanLetters 129 t_Rd_scanLetters_129 := dk_go 1 a_Rd_scanLetters_128 rfl
theorem a_Rd_scanLetters_132 : dk_at b_Rd_scanLetters 132 t_Rd_scanLetters_132 := dk_go 3 a_Rd_scanLetters_129 rfl
theorem a_Rd_scanLetters_134 : dk_at b_Rd_scanLetters 134 t_Rd_scanLetters_134 := dk_go 2 a_Rd_scanLetters_132 rfl
theorem a_Rd_scanLetters_137 : dk_at b_Rd_scanLetters 137 t_Rd_scanLetters_137 := dk_go 3 a_Rd_scanLetters_134 rfl
theorem a_Rd_scanLetters_140 : dk_at b_Rd_scanLetters 140 t_Rd_scanLetters_140 := dk_go 3 a_Rd_scanLetters_137 rfl
theorem a_Rd_scanLetters_143 : dk_at b_Rd_scanLetters 143 t_Rd_scanLetters_143 := dk_go 3 a_Rd_scanLetters_140 rfl
theorem d_Rd_scanLetters_0 : decode b_Rd_scanLetters 0 = .ok (.aload_n 0, 1) := dk_0 a_Rd_scanLetters_0 (dko_42 _)
theorem d_Rd_scanLetters_1 : decode b_Rd_scanLetters 1 = .ok (.lconst 0, 1) := dk_0 a_Rd_scanLetters_1 (dko_9 _)
theorem d_Rd_scanLetters_2 : decode b_Rd_scanLetters 2 = .ok (.putfield 143, 3) := dk_U2 a_Rd_scanLetters_2 (dko_181 _) rfl
theorem d_Rd_scanLetters_5 : decode b_Rd_scanLetters 5 = .ok (.aload_n 0, 1) := dk_0 a_Rd_scanLetters_5 (dko_42 _)
theorem d_Rd_scanLetters_6 : decode b_Rd_scanLetters 6 = .ok (.getfield 40, 3) := dk_U2 a_Rd_scanLetters_6 (dko_180 _) rfl
theorem d_Rd_scanLetters_9 : decode b_Rd_scanLetters 9 = .ok (.aload_n 0, 1) := dk_0 a_Rd_scanLetters_9 (dko_42 _)
theorem d_Rd_scanLetters_10 : decode b_Rd_scanLetters 10 = .ok (.getfield 53, 3) := dk_U2 a_Rd_scanLetters_10 (dko_180 _) rfl
theorem d_Rd_scanLetters_13 : decode b_Rd_scanLetters 13 = .ok (.invokevirtual 119, 3) := dk_U2 a_Rd_scanLetters_13 (dko_182 _) rfl
theorem d_Rd_scanLetters_16 : decode b_Rd_scanLetters 16 = .ok (.istore_n 1, 1) := dk_0 a_Rd_scanLetters_16 (dko_60 _)
theorem d_Rd_scanLetters_17 : decode b_Rd_scanLetters 17 = .ok (.iconst 0, 1) := dk_0 a_Rd_scanLetters_17 (dko_3 _)
theorem d_Rd_scanLetters_18 : decode b_Rd_scanLetters 18 = .ok (.istore_n 2, 1) := dk_0 a_Rd_scanLetters_18 (dko_61 _)
theorem d_Rd_scanLetters_19 : decode b_Rd_scanLetters 19 = .ok (.iload_n 2, 1) := dk_0 a_Rd_scanLetters_19 (dko_28 _)
theorem d_Rd_scanLetters_20 : decode b_Rd_scanLetters 20 = .ok (.bipush 12, 2) := dk_S1 a_Rd_scanLetters_20 (dko_16 _) (by decide +kernel)
theorem d_Rd_scanLetters_22 : decode b_Rd_scanLetters 22 = .ok (.if_icmp .ge 63, 3) := dk_S2 a_Rd_scanLetters_22 (dko_162 _) (by decide +kernel)
theorem d_Rd_scanLetters_25 : decode b_Rd_scanLetters 25 = .ok (.iload_n 1, 1) := dk_0 a_Rd_scanLetters_25 (dko_27 _)
theorem d_Rd_scanLetters_26 : decode b_Rd_scanLetters 26 = .ok (.invokestatic 125, 3) := dk_U2 a_Rd_scanLetters_26 (dko_184 _) rfl
theorem d_Rd_scanLetters_29 : decode b_Rd_scanLetters 29 = .ok (.ifCond .ne 10, 3) := dk_S2 a_Rd_scanLetters_29 (dko_154 _) (by decide +kernel)
theorem d_Rd_scanLetters_32 : decode b_Rd_scanLetters 32 = .ok (.iload_n 1, 1) := dk_0 a_Rd_scanLetters_32 (dko_27 _)
theorem d_Rd_scanLetters_33 : decode b_Rd_scanLetters 33 = .ok (.invokestatic 131, 3) := dk_U2 a_Rd_scanLetters_33 (dko_184 _) rfl
theorem d_Rd_scanLetters_36 : decode b_Rd_scanLetters 36 = .ok (.ifCond .eq 49, 3) := dk_S2 a_Rd_scanLetters_36 (dko_153 _) (by decide +kernel)
theorem d_Rd_scanLetters_39 : decode b_Rd_scanLetters 39 = .ok (.aload_n 0, 1) := dk_0 a_Rd_scanLetters_39 (dko_42 _)
theorem d_Rd_scanLetters_40 : decode b_Rd_scanLetters 40 = .ok (.aload_n 0, 1) := dk_0 a_Rd_scanLetters_40 (dko_42 _)
theorem d_Rd_scanLetters_41 : decode b_Rd_scanLetters 41 = .ok (.getfield 143, 3) := dk_U2 a_Rd_scanLetters_41 (dko_180 _) rfl
theorem d_Rd_scanLetters_44 : decode b_Rd_scanLetters 44 = .ok (.ldc2_w 34, 3) := dk_U2 a_Rd_scanLetters_44 (dko_20 _) rfl
theorem d_Rd_scanLetters_47 : decode b_Rd_scanLetters 47 = .ok (.lmul, 1) := dk_0 a_Rd_scanLetters_47 (dko_105 _)
theorem d_Rd_scanLetters_48 : decode b_Rd_scanLetters 48 = .ok (.iload_n 1, 1) := dk_0 a_Rd_scanLetters_48 (dko_27 _)
theorem d_Rd_scanLetters_49 : decode b_Rd_scanLetters 49 = .ok (.invokestatic 36, 3) := dk_U2 a_Rd_scanLetters_49 (dko_184 _) rfl
theorem d_Rd_scanLetters_52 : decode b_Rd_scanLetters 52 = .ok (.i2l, 1) := dk_0 a_Rd_scanLetters_52 (dko_133 _)
theorem d_Rd_scanLetters_53 : decode b_Rd_scanLetters 53 = .ok (.ladd, 1) := dk_0 a_Rd_scanLetters_53 (dko_97 _)
theorem d_Rd_scanLetters_54 : decode b_Rd_scanLetters 54 = .ok (.putfield 143, 3) := dk_U2 a_Rd_scanLetters_54 (dko_181 _) rfl
theorem d_Rd_scanLetters_57 : decode b_Rd_scanLetters 57 = .ok (.aload_n 0, 1) := dk_0 a_Rd_scanLetters_57 (dko_42 _)
theorem d_Rd_scanLetters_58 : decode b_Rd_scanLetters 58 = .ok (.dup, 1) := dk_0 a_Rd_scanLetters_58 (dko_89 _)
theorem d_Rd_scanLetters_59 : decode b_Rd_scanLetters 59 = .ok (.getfield 53, 3) := dk_U2 a_Rd_scanLetters_59 (dko_180 _) rfl
theorem d_Rd_scanLetters_62 : decode b_Rd_scanLetters 62 = .ok (.iconst 1, 1) := dk_0 a_Rd_scanLetters_62 (dko_4 _)
theorem d_Rd_scanLetters_63 : decode b_Rd_scanLetters 63 = .ok (.iadd, 1) := dk_0 a_Rd_scanLetters_63 (dko_96 _)
theorem d_Rd_scanLetters_64 : decode b_Rd_scanLetters 64 = .ok (.putfield 53, 3) := dk_U2 a_Rd_scanLetters_64 (dko_181 _) rfl
theorem d_Rd_scanLetters_67 : decode b_Rd_scanLetters 67 = .ok (.aload_n 0, 1) := dk_0 a_Rd_scanLetters_67 (dko_42 _)
theorem d_Rd_scanLetters_68 : decode b_Rd_scanLetters 68 = .ok (.getfield 40, 3) := dk_U2 a_Rd_scanLetters_68 (dko_180 _) rfl
theorem d_Rd_scanLetters_71 : decode b_Rd_scanLetters 71 = .ok (.aload_n 0, 1) := dk_0 a_Rd_scanLetters_71 (dko_42 _)
theorem d_Rd_scanLetters_72 : decode b_Rd_scanLetters 72 = .ok (.getfield 53, 3) := dk_U2 a_Rd_scanLetters_72 (dko_180 _) rfl
theorem d_Rd_scanLetters_75 : decode b_Rd_scanLetters 75 = .ok (.invokevirtual 119, 3) := dk_U2 a_Rd_scanLetters_75 (dko_182 _) rfl
theorem d_Rd_scanLetters_78 : decode b_Rd_scanLetters 78 = .ok (.istore_n 1, 1) := dk_0 a_Rd_scanLetters_78 (dko_60 _)
theorem d_Rd_scanLetters_79 : decode b_Rd_scanLetters 79 = .ok (.iinc 2 1, 3) := dk_US a_Rd_scanLetters_79 (dko_132 _) (by decide +kernel)
theorem d_Rd_scanLetters_82 : decode b_Rd_scanLetters 82 = .ok (.goto (-63), 3) := dk_S2 a_Rd_scanLetters_82 (dko_167 _) (by decide +kernel)
theorem d_Rd_scanLetters_85 : decode b_Rd_scanLetters 85 = .ok (.aload_n 0, 1) := dk_0 a_Rd_scanLetters_85 (dko_42 _)
theorem d_Rd_scanLetters_86 : decode b_Rd_scanLetters 86 = .ok (.bipush 30, 2) := dk_S1 a_Rd_scanLetters_86 (dko_16 _) (by decide +kernel)
theorem d_Rd_scanLetters_88 : decode b_Rd_scanLetters 88 = .ok (.putfield 66, 3) := dk_U2 a_Rd_scanLetters_88 (dko_181 _) rfl
theorem d_Rd_scanLetters_91 : decode b_Rd_scanLetters 91 = .ok (.iconst 0, 1) := dk_0 a_Rd_scanLetters_91 (dko_3 _)
theorem d_Rd_scanLetters_92 : decode b_Rd_scanLetters 92 = .ok (.istore_n 2, 1) := dk_0 a_Rd_scanLetters_92 (dko_61 _)
theorem d_Rd_scanLetters_93 : decode b_Rd_scanLetters 93 = .ok (.iload_n 2, 1) := dk_0 a_Rd_scanLetters_93 (dko_28 _)
theorem d_Rd_scanLetters_94 : decode b_Rd_scanLetters 94 = .ok (.aload_n 0, 1) := dk_0 a_Rd_scanLetters_94 (dko_42 _)
theorem d_Rd_scanLetters_95 : decode b_Rd_scanLetters 95 = .ok (.getfield 18, 3) := dk_U2 a_Rd_scanLetters_95 (dko_180 _) rfl
theorem d_Rd_scanLetters_98 : decode b_Rd_scanLetters 98 = .ok (.arraylength, 1) := dk_0 a_Rd_scanLetters_98 (dko_190 _)
theorem d_Rd_scanLetters_99 : decode b_Rd_scanLetters 99 = .ok (.if_icmp .ge 44, 3) := dk_S2 a_Rd_scanLetters_99 (dko_162 _) (by decide +kernel)
theorem d_Rd_scanLetters_102 : decode b_Rd_scanLetters 102 = .ok (.aload_n 0, 1) := dk_0 a_Rd_scanLetters_102 (dko_42 _)
theorem d_Rd_scanLetters_103 : decode b_Rd_scanLetters 103 = .ok (.getfield 66, 3) := dk_U2 a_Rd_scanLetters_103 (dko_180 _) rfl
theorem d_Rd_scanLetters_106 : decode b_Rd_scanLetters 106 = .ok (.bipush 30, 2) := dk_S1 a_Rd_scanLetters_106 (dko_16 _) (by decide +kernel)
theorem d_Rd_scanLetters_108 : decode b_Rd_scanLetters 108 = .ok (.if_icmp .ne 35, 3) := dk_S2 a_Rd_scanLetters_108 (dko_160 _) (by decide +kernel)
theorem d_Rd_scanLetters_111 : decode b_Rd_scanLetters 111 = .ok (.aload_n 0, 1) := dk_0 a_Rd_scanLetters_111 (dko_42 _)
theorem d_Rd_scanLetters_112 : decode b_Rd_scanLetters 112 = .ok (.aload_n 0, 1) := dk_0 a_Rd_scanLetters_112 (dko_42 _)
theorem d_Rd_scanLetters_113 : decode b_Rd_scanLetters 113 = .ok (.getfield 18, 3) := dk_U2 a_Rd_scanLetters_113 (dko_180 _) rfl
theorem d_Rd_scanLetters_116 : decode b_Rd_scanLetters 116 = .ok (.iload_n 2, 1) := dk_0 a_Rd_scanLetters_116 (dko_28 _)
theorem d_Rd_scanLetters_117 : decode b_Rd_scanLetters 117 = .ok (.laload, 1) := dk_0 a_Rd_scanLetters_117 (dko_47 _)
theorem d_Rd_scanLetters_118 : decode b_Rd_scanLetters 118 = .ok (.aload_n 0, 1) := dk_0 a_Rd_scanLetters_118 (dko_42 _)
theorem d_Rd_scanLetters_119 : decode b_Rd_scanLetters 119 = .ok (.getfield 143, 3) := dk_U2 a_Rd_scanLetters_119 (dko_180 _) rfl
theorem d_Rd_scanLetters_122 : decode b_Rd_scanLetters 122 = .ok (.lcmp, 1) := dk_0 a_Rd_scanLetters_122 (dko_148 _)
theorem d_Rd_scanLetters_123 : decode b_Rd_scanLetters 123 = .ok (.ifCond .ne 9, 3) := dk_S2 a_Rd_scanLetters_123 (dko_154 _) (by decide +kernel)
theorem d_Rd_scanLetters_126 : decode b_Rd_scanLetters 126 = .ok (.iload_n 2, 1) := dk_0 a_Rd_scanLetters_126 (dko_28 _)
theorem d_Rd_scanLetters_127 : decode b_Rd_scanLetters 127 = .ok (.iconst 1, 1) := dk_0 a_Rd_scanLetters_127 (dko_4 _)
theorem d_Rd_scanLetters_128 : decode b_Rd_scanLetters 128 = .ok (.iadd, 1) := dk_0 a_Rd_scanLetters_128 (dko_96 _)
theorem d_Rd_scanLetters_129 : decode b_Rd_scanLetters 129 = .ok (.goto 5, 3) := dk_S2 a_Rd_scanLetters_129 (dko_167 _) (by decide +kernel)
theorem d_Rd_scanLetters_132 : decode b_Rd_scanLetters 132 = .ok (.bipush 30, 2) := dk_S1 a_Rd_scanLetters_132 (dko_16 _) (by decide +kernel)
theorem d_Rd_scanLetters_134 : decode b_Rd_scanLetters 134 = .ok (.putfield 66, 3) := dk_U2 a_Rd_scanLetters_134 (dko_181 _) rfl
theorem d_Rd_scanLetters_137 : decode b_Rd_scanLetters 137 = .ok (.iinc 2 1, 3) := dk_US a_Rd_scanLetters_137 (dko_132 _) (by decide +kernel)
theorem d_Rd_scanLetters_140 : decode b_Rd_scanLetters 140 = .ok (.goto (-47), 3) := dk_S2 a_Rd_scanLetters_140 (dko_167 _) (by decide +kernel)
theorem d_Rd_scanLetters_143 : decode b_Rd_scanLetters 143 = .ok (.return_, 1) := dk_0 a_Rd_scanLetters_143 (dko_177 _)
set_option maxHeartbeats 4000000 in
set_option maxRecDepth 100000 in
theorem ok_Rd_scanLetters (pc : Nat) : OpS mt mi_Rd_scanLetters pc (cs_Rd_scanLetters pc) := (os_n (os_n (os_n (os_n (os_n (os_n (os_l (so_aload_n d_Rd_scanLetters_0 rfl)) (os_l (so_lconst d_Rd_scanLetters_1 (by decide)))) (os_n (os_l (so_putJ (C := R_Rd) (T := F_Rd) (N := 13) (j := 5) in_Rd t_Rd_ok n_Rd rfl (by decide) mw_641 rfl (by decide +kernel) d_Rd_scanLetters_2)) (os_l (so_aload_n d_Rd_scanLetters_5 rfl)))) (os_n (os_n (os_l (so_get (C := R_Rd) (T := F_Rd) (N := 13) (j := 0) in_Rd rfl (by decide) mw_636 d_Rd_scanLetters_6)) (os_l (so_aload_n d_Rd_scanLetters_9 rfl))) (os_n (os_l (so_get (C := R_Rd) (T := F_Rd) (N := 13) (j := 2) in_Rd rfl (by decide) mw_638 d_Rd_scanLetters_10)) (os_n (os_l (so_callV (iv := mi_Tp_at) rfl rfl rfl mw_891 mw_754 mw_755 mw_2 mw_756 ⟨by decide +kernel, by decide +kernel, by decide +kernel⟩ (by decide) d_Rd_scanLetters_13)) (os_l (so_istore_n d_Rd_scanLetters_16 rfl (by decide))))))) (os_n (os_n (os_n (os_l (so_iconst d_Rd_scanLetters_17 (by decide))) (os_l (so_istore_n d_Rd_scanLetters_18 rfl (by decide)))) (os_n (os_l (so_iload_n d_Rd_scanLetters_19 rfl)) (os_n (os_l (so_bipush d_Rd_scanLetters_20 (by decide))) (os_l (so_icge d_Rd_scanLetters_22 (by decide)))))) (os_n (os_n (os_l (so_iload_n d_Rd_scanLetters_25 rfl)) (os_l (so_callS (iv := mi_Tp_isLetter) rfl mw_893 mw_894 mw_2 mw_895 ⟨by decide +kernel, by decide +kernel, by decide +kernel⟩ (by decide) d_Rd_scanLetters_26))) (os_n (os_l (so_ifne d_Rd_scanLetters_29 (by decide))) (os_n (os_l (so_iload_n d_Rd_scanLetters_32 rfl)) (os_l (so_callS (iv := mi_Tp_isDigit) rfl mw_900 mw_778 mw_2 mw_779 ⟨by decide +kernel, by decide +kernel, by decide +kernel⟩ (by decide) d_Rd_scanLetters_33))))))) (os_n (os_n (os_n (os_n (os_l (so_ifeq d_Rd_scanLetters_36 (by decide))) (os_l (so_aload_n d_Rd_scanLetters_39 rfl))) (os_n (os_l (so_aload_n d_Rd_scanLetters_40 rfl)) (os_l (so_get (C := R_Rd) (T := F_Rd) (N := 13) (j := 5) in_Rd rfl (by decide) mw_641 d_Rd_scanLetters_41)))) (os_n (os_n (os_l (so_ldc2 mw_632 d_Rd_scanLetters_44)) (os_l (so_lmul d_Rd_scanLetters_47))) (os_n (os_l (so_iload_n d_Rd_scanLetters_48 rfl)) (os_n (os_l (so_callS (iv := mi_Rd_digitOf) rfl mw_633 mw_634 mw_13 mw_635 ⟨by decide +kernel, by decide +kernel, by decide +kernel⟩ (by decide) d_Rd_scanLetters_49)) (os_l (so_i2l d_Rd_scanLetters_52)))))) (os_n (os_n (os_n (os_l (so_ladd d_Rd_scanLetters_53)) (os_l (so_putJ (C := R_Rd) (T := F_Rd) (N := 13) (j := 5) in_Rd t_Rd_ok n_Rd rfl (by decide) mw_641 rfl (by decide +kernel) d_Rd_scanLetters_54))) (os_n (os_l (so_aload_n d_Rd_scanLetters_57 rfl)) (os_n (os_l (so_dup d_Rd_scanLetters_58)) (os_l (so_get (C := R_Rd) (T := F_Rd) (N := 13) (j := 2) in_Rd rfl (by decide) mw_638 d_Rd_scanLetters_59))))) (os_n (os_n (os_l (so_iconst d_Rd_scanLetters_62 (by decide))) (os_l (so_iadd d_Rd_scanLetters_63))) (os_n (os_l (so_putI (C := R_Rd) (T := F_Rd) (N := 13) (j := 2) in_Rd t_Rd_ok n_Rd rfl (by decide) mw_638 rfl (by decide +kernel) d_Rd_scanLetters_64)) (os_n (os_l (so_aload_n d_Rd_scanLetters_67 rfl)) (os_l (so_get (C := R_Rd) (T := F_Rd) (N := 13) (j := 0) in_Rd rfl (by decide) mw_636 d_Rd_scanLetters_68)))))))) (os_n (os_n (os_n (os_n (os_n (os_l (so_aload_n d_Rd_scanLetters_71 rfl)) (os_l (so_get (C := R_Rd) (T := F_Rd) (N := 13) (j := 2) in_Rd rfl (by decide) mw_638 d_Rd_scanLetters_72))) (os_n (os_l (so_callV (iv := mi_Tp_at) rfl rfl rfl mw_891 mw_754 mw_755 mw_2 mw_756 ⟨by decide +kernel, by decide +kernel, by decide +kernel⟩ (by decide) d_Rd_scanLetters_75)) (os_l (so_istore_n d_Rd_scanLetters_78 rfl (by decide))))) (os_n (os_n (os_l (so_iinc d_Rd_scanLetters_79 (by decide) (by decide))) (os_l (so_goto d_Rd_scanLetters_82 (by decide)))) (os_n (os_l (so_aload_n d_Rd_scanLetters_85 rfl)) (os_n (os_l (so_bipush d_Rd_scanLetters_86 (by decide))) (os_l (so_putI (C := R_Rd) (T := F_Rd) (N := 13) (j := 3) in_Rd t_Rd_ok n_Rd rfl (by decide) mw_639 rfl (by decide +kernel) d_Rd_scanLetters_88)))))) (os_n (os_n (os_n (os_l (so_iconst d_Rd_scanLetters_91 (by decide))) (os_l (so_istore_n d_Rd_scanLetters_92 rfl (by decide)))) (os_n (os_l (so_iload_n d_Rd_scanLetters_93 rfl)) (os_n (os_l (so_aload_n d_Rd_scanLetters_94 rfl)) (os_l (so_get (C := R_Rd) (T := F_Rd) (N := 13) (j := 12) in_Rd rfl (by decide) mw_648 d_Rd_scanLetters_95))))) (os_n (os_n (os_l (so_alen d_Rd_scanLetters_98)) (os_l (so_icge d_Rd_scanLetters_99 (by decide)))) (os_n (os_l (so_aload_n d_Rd_scanLetters_102 rfl)) (os_n (os_l (so_get (C := R_Rd) (T := F_Rd) (N := 13) (j := 3) in_Rd rfl (by decide) mw_639 d_Rd_scanLetters_103)) (os_l (so_bipush d_Rd_scanLetters_106 (by decide)))))))) (os_n (os_n (os_n (os_n (os_l (so_icne d_Rd_scanLetters_108 (by decide))) (os_l (so_aload_n d_Rd_scanLetters_111 rfl))) (os_n (os_l (so_aload_n d_Rd_scanLetters_112 rfl)) (os_l (so_get (C := R_Rd) (T := F_Rd) (N := 13) (j := 12) in_Rd rfl (by decide) mw_648 d_Rd_scanLetters_113)))) (os_n (os_n (os_l (so_iload_n d_Rd_scanLetters_116 rfl)) (os_l (so_laload d_Rd_scanLetters_117))) (os_n (os_l (so_aload_n d_Rd_scanLetters_118 rfl)) (os_n (os_l (so_get (C := R_Rd) (T := F_Rd) (N := 13) (j := 5) in_Rd rfl (by decide) mw_641 d_Rd_scanLetters_119)) (os_l (so_lcmp d_Rd_scanLetters_122)))))) (os_n (os_n (os_n (os_l (so_ifne d_Rd_scanLetters_123 (by decide))) (os_l (so_iload_n d_Rd_scanLetters_126 rfl))) (os_n (os_l (so_iconst d_Rd_scanLetters_127 (by decide))) (os_n (os_l (so_iadd d_Rd_scanLetters_128)) (os_l (so_goto d_Rd_scanLetters_129 (by decide)))))) (os_n (os_n (os_l (so_bipush d_Rd_scanLetters_132 (by decide))) (os_l (so_putI (C := R_Rd) (T := F_Rd) (N := 13) (j := 3) in_Rd t_Rd_ok n_Rd rfl (by decide) mw_639 rfl (by decide +kernel) d_Rd_scanLetters_134))) (os_n (os_l (so_iinc d_Rd_scanLetters_137 (by decide) (by decide))) (os_n (os_l (so_goto d_Rd_scanLetters_140 (by decide))) (os_l (so_return rfl d_Rd_scanLetters_143)))))))))
abbrev t_Rd_digitOf_22 : List UInt8 := 172 :: []
abbrev t_Rd_digitOf_21 : List UInt8 := 96 :: t_Rd_digitOf_22
abbrev t_Rd_digitOf_19 : List UInt8 := 16 :: 27 :: t_Rd_digitOf_21
abbrev t_Rd_digitOf_18 : List UInt8 := 100 :: t_Rd_digitOf_19
abbrev t_Rd_digitOf_16 : List UInt8 := 16 :: 48 :: t_Rd_digitOf_18
abbrev t_Rd_digitOf_15 : List UInt8 := 26 :: t_Rd_digitOf_16
abbrev t_Rd_digitOf_12 : List UInt8 := 167 :: 0 :: 10 :: t_Rd_digitOf_15
abbrev t_Rd_digitOf_11 : List UInt8 := 96 :: t_Rd_digitOf_12
abbrev t_Rd_digitOf_10 : List UInt8 := 4 :: t_Rd_digitOf_11
abbrev t_Rd_digitOf_9 : List UInt8 := 100 :: t_Rd_digitOf_10
abbrev t_Rd_digitOf_7 : List UInt8 := 16 :: 97 :: t_Rd_digitOf_9
abbrev t_Rd_digitOf_6 : List UInt8 := 26 :: t_Rd_digitOf_7
abbrev t_Rd_digitOf_3 : List UInt8 := 161 :: 0 :: 12 :: t_Rd_digitOf_6
abbrev t_Rd_digitOf_1 : List UInt8 := 16 :: 97 :: t_Rd_digitOf_3
abbrev t_Rd_digitOf_0 : List UInt8 := 26 :: t_Rd_digitOf_1
theorem a_Rd_digitOf_0 : dk_at b_Rd_digitOf 0 t_Rd_digitOf_0 := dk_start (by decide +kernel)
theorem a_Rd_digitOf_1 : dk_at b_Rd_digitOf 1 t_Rd_digitOf_1 := dk_go 1 a_Rd_digitOf_0 rfl
theorem a_Rd_digitOf_3 : dk_at b_Rd_digitOf 3 t_Rd_digitOf_3 := dk_go 2 a_Rd_digitOf_1 rfl
theorem a_Rd_digitOf_6 : dk_at b_Rd_digitOf 6 t_Rd_digitOf_6 := dk_go 3 a_Rd_digitOf_3 rfl
theorem a_Rd_digitOf_7 : dk_at b_Rd_digitOf 7 t_Rd_digitOf_7 := dk_go 1 a_Rd_digitOf_6 rfl
theorem a_Rd_digitOf_9 : dk_at b_Rd_digitOf 9 t_Rd_digitOf_9 := dk_go 2 a_Rd_digitOf_7 rfl
theorem a_Rd_digitOf_10 : dk_at b_Rd_digitOf 10 t_Rd_digitOf_10 := dk_go 1 a_Rd_digitOf_9 rfl
theorem a_Rd_digitOf_11 : dk_at b_Rd_digitOf 11 t_Rd_digitOf_11 := dk_go 1 a_Rd_digitOf_10 rfl
theorem a_Rd_digitOf_12 : dk_at b_Rd_digitOf 12 t_Rd_digitOf_12 := dk_go 1 a_Rd_digitOf_11 rfl
theorem a_Rd_digitOf_15 : dk_at b_Rd_digitOf 15 t_Rd_digitOf_15 := dk_go 3 a_Rd_digitOf_12 rfl
theorem a_Rd_digitOf_16 : dk_at b_Rd_digitOf 16 t_Rd_digitOf_16 := dk_go 1 a_Rd_digitOf_15 rfl
theorem a_Rd_digitOf_18 : dk_at b_Rd_digitOf 18 t_Rd_digitOf_18 := dk_go 2 a_Rd_digitOf_16 rfl
theorem a_Rd_digitOf_19 : dk_at b_Rd_digitOf 19 t_Rd_digitOf_19 := dk_go 1 a_Rd_digitOf_18 rfl
theorem a_Rd_digitOf_21 : dk_at b_Rd_digitOf 21 t_Rd_digitOf_21 := dk_go 2 a_Rd_digitOf_19 rfl
theorem a_Rd_digitOf_22 : dk_at b_Rd_digitOf 22 t_Rd_digitOf_22 := dk_go 1 a_Rd_digitOf_21 rfl
theorem d_Rd_digitOf_0 : decode b_Rd_digitOf 0 = .ok (.iload_n 0, 1) := dk_0 a_Rd_digitOf_0 (dko_26 _)
theorem d_Rd_digitOf_1 : decode b_Rd_digitOf 1 = .ok (.bipush 97, 2) := dk_S1 a_Rd_digitOf_1 (dko_16 _) (by decide +kernel)
theorem d_Rd_digitOf_3 : decode b_Rd_digitOf 3 = .ok (.if_icmp .lt 12, 3) := dk_S2 a_Rd_digitOf_3 (dko_161 _) (by decide +kernel)
theorem d_Rd_digitOf_6 : decode b_Rd_digitOf 6 = .ok (.iload_n 0, 1) := dk_0 a_Rd_digitOf_6 (dko_26 _)
theorem d_Rd_digitOf_7 : decode b_Rd_digitOf 7 = .ok (.bipush 97, 2) := dk_S1 a_Rd_digitOf_7 (dko_16 _) (by decide +kernel)
theorem d_Rd_digitOf_9 : decode b_Rd_digitOf 9 = .ok (.isub, 1) := dk_0 a_Rd_digitOf_9 (dko_100 _)
theorem d_Rd_digitOf_10 : decode b_Rd_digitOf 10 = .ok (.iconst 1, 1) := dk_0 a_Rd_digitOf_10 (dko_4 _)
theorem d_Rd_digitOf_11 : decode b_Rd_digitOf 11 = .ok (.iadd, 1) := dk_0 a_Rd_digitOf_11 (dko_96 _)
theorem d_Rd_digitOf_12 : decode b_Rd_digitOf 12 = .ok (.goto 10, 3) := dk_S2 a_Rd_digitOf_12 (dko_167 _) (by decide +kernel)
theorem d_Rd_digitOf_15 : decode b_Rd_digitOf 15 = .ok (.iload_n 0, 1) := dk_0 a_Rd_digitOf_15 (dko_26 _)
theorem d_Rd_digitOf_16 : decode b_Rd_digitOf 16 = .ok (.bipush 48, 2) := dk_S1 a_Rd_digitOf_16 (dko_16 _) (by decide +kernel)
theorem d_Rd_digitOf_18 : decode b_Rd_digitOf 18 = .ok (.isub, 1) := dk_0 a_Rd_digitOf_18 (dko_100 _)
theorem d_Rd_digitOf_19 : decode b_Rd_digitOf 19 = .ok (.bipush 27, 2) := dk_S1 a_Rd_digitOf_19 (dko_16 _) (by decide +kernel)
theorem d_Rd_digitOf_21 : decode b_Rd_digitOf 21 = .ok (.iadd, 1) := dk_0 a_Rd_digitOf_21 (dko_96 _)
theorem d_Rd_digitOf_22 : decode b_Rd_digitOf 22 = .ok (.ireturn, 1) := dk_0 a_Rd_digitOf_22 (dko_172 _)
set_option maxHeartbeats 4000000 in
set_option maxRecDepth 100000 in
theorem ok_Rd_digitOf (pc : Nat) : OpS mt mi_Rd_digitOf pc (cs_Rd_digitOf pc) := (os_n (os_n (os_n (os_l (so_iload_n d_Rd_digitOf_0 rfl)) (os_n (os_l (so_bipush d_Rd_digitOf_1 (by decide))) (os_l (so_iclt d_Rd_digitOf_3 (by decide))))) (os_n (os_n (os_l (so_iload_n d_Rd_digitOf_6 rfl)) (os_l (so_bipush d_Rd_digitOf_7 (by decide)))) (os_n (os_l (so_isub d_Rd_digitOf_9)) (os_l (so_iconst d_Rd_digitOf_10 (by decide)))))) (os_n (os_n (os_n (os_l (so_iadd d_Rd_digitOf_11)) (os_l (so_goto d_Rd_digitOf_12 (by decide)))) (os_n (os_l (so_iload_n d_Rd_digitOf_15 rfl)) (os_l (so_bipush d_Rd_digitOf_16 (by decide))))) (os_n (os_n (os_l (so_isub d_Rd_digitOf_18)) (os_l (so_bipush d_Rd_digitOf_19 (by decide)))) (os_n (os_l (so_iadd d_Rd_digitOf_21)) (os_l (so_ireturn rfl d_Rd_digitOf_22))))))
abbrev t_Rd_scanNumber_237 : List UInt8 := 177 :: []
abbrev t_Rd_scanNumber_234 : List UInt8 := 167 :: 255 :: 194 :: t_Rd_scanNumber_237
abbrev t_Rd_scanNumber_233 : List UInt8 := 60 :: t_Rd_scanNumber_234
abbrev t_Rd_scanNumber_232 : List UInt8 := 108 :: t_Rd_scanNumber_233
abbrev t_Rd_scanNumber_230 : List UInt8 := 16 :: 10 :: t_Rd_scanNumber_232
abbrev t_Rd_scanNumber_229 : List UInt8 := 27 :: t_Rd_scanNumber_230
abbrev t_Rd_scanNumber_226 : List UInt8 := 181 :: 0 :: 53 :: t_Rd_scanNumber_229
abbrev t_Rd_scanNumber_225 : List UInt8 := 96 :: t_Rd_scanNumber_226
abbrev t_Rd_scanNumber_224 : List UInt8 := 4 :: t_Rd_scanNumber_225
abbrev t_Rd_scanNumber_221 : List UInt8 := 180 :: 0 :: 53 :: t_Rd_scanNumber_224
abbrev t_Rd_scanNumber_220 : List UInt8 := 89 :: t_Rd_scanNumber_221
abbrev t_Rd_scanNumber_219 : List UInt8 := 42 :: t_Rd_scanNumber_220
abbrev t_Rd_scanNumber_216 : List UInt8 := 181 :: 0 :: 147 :: t_Rd_scanNumber_219
abbrev t_Rd_scanNumber_215 : List UInt8 := 97 :: t_Rd_scanNumber_216
abbrev t_Rd_scanNumber_214 : List UInt8 := 133 :: t_Rd_scanNumber_215
abbrev t_Rd_scanNumber_213 : List UInt8 := 104 :: t_Rd_scanNumber_214
abbrev t_Rd_scanNumber_212 : List UInt8 := 100 :: t_Rd_scanNumber_213
abbrev t_Rd_scanNumber_210 : List UInt8 := 16 :: 48 :: t_Rd_scanNumber_212
abbrev t_Rd_scanNumber_207 : List UInt8 := 182 :: 0 :: 119 :: t_Rd_scanNumber_210
abbrev t_Rd_scanNumber_204 : List UInt8 := 180 :: 0 :: 53 :: t_Rd_scanNumber_207
abbrev t_Rd_scanNumber_203 : List UInt8 := 42 :: t_Rd_scanNumber_204
abbrev t_Rd_scanNumber_200 : List UInt8 := 180 :: 0 :: 40 :: t_Rd_scanNumber_203
abbrev t_Rd_scanNumber_199 : List UInt8 := 42 :: t_Rd_scanNumber_200
abbrev t_Rd_scanNumber_198 : List UInt8 := 27 :: t_Rd_scanNumber_199
abbrev t_Rd_scanNumber_195 : List UInt8 := 180 :: 0 :: 147 :: t_Rd_scanNumber_198
abbrev t_Rd_scanNumber_194 : List UInt8 := 89 :: t_Rd_scanNumber_195
abbrev t_Rd_scanNumber_193 : List UInt8 := 42 :: t_Rd_scanNumber_194
abbrev t_Rd_scanNumber_190 : List UInt8 := 153 :: 0 :: 47 :: t_Rd_scanNumber_193
abbrev t_Rd_scanNumber_187 : List UInt8 := 184 :: 0 :: 131 :: t_Rd_scanNumber_190
abbrev t_Rd_scanNumber_184 : List UInt8 := 182 :: 0 :: 119 :: t_Rd_scanNumber_187
abbrev t_Rd_scanNumber_181 : List UInt8 := 180 :: 0 :: 53 :: t_Rd_scanNumber_184
abbrev t_Rd_scanNumber_180 : List UInt8 := 42 :: t_Rd_scanNumber_181
abbrev t_Rd_scanNumber_177 : List UInt8 := 180 :: 0 :: 40 :: t_Rd_scanNumber_180
abbrev t_Rd_scanNumber_176 : List UInt8 := 42 :: t_Rd_scanNumber_177
abbrev t_Rd_scanNumber_173 : List UInt8 := 158 :: 0 :: 64 :: t_Rd_scanNumber_176
abbrev t_Rd_scanNumber_172 : List UInt8 := 27 :: t_Rd_scanNumber_173
abbrev t_Rd_scanNumber_171 : List UInt8 := 60 :: t_Rd_scanNumber_172
abbrev t_Rd_scanNumber_170 : List UInt8 := 3 :: t_Rd_scanNumber_171
abbrev t_Rd_scanNumber_167 : List UInt8 := 167 :: 0 :: 4 :: t_Rd_scanNumber_170
abbrev t_Rd_scanNumber_165 : List UInt8 := 16 :: 100 :: t_Rd_scanNumber_167
abbrev t_Rd_scanNumber_162 : List UInt8 := 153 :: 0 :: 8 :: t_Rd_scanNumber_165
abbrev t_Rd_scanNumber_159 : List UInt8 := 180 :: 0 :: 156 :: t_Rd_scanNumber_162
abbrev t_Rd_scanNumber_158 : List UInt8 := 42 :: t_Rd_scanNumber_159
abbrev t_Rd_scanNumber_155 : List UInt8 := 181 :: 0 :: 53 :: t_Rd_scanNumber_158
abbrev t_Rd_scanNumber_154 : List UInt8 := 96 :: t_Rd_scanNumber_155
abbrev t_Rd_scanNumber_153 : List UInt8 := 3 :: t_Rd_scanNumber_154
abbrev t_Rd_scanNumber_150 : List UInt8 := 167 :: 0 :: 4 :: t_Rd_scanNumber_153
abbrev t_Rd_scanNumber_149 : List UInt8 := 4 :: t_Rd_scanNumber_150
abbrev t_Rd_scanNumber_146 : List UInt8 := 153 :: 0 :: 7 :: t_Rd_scanNumber_149
abbrev t_Rd_scanNumber_143 : List UInt8 := 180 :: 0 :: 156 :: t_Rd_scanNumber_146
abbrev t_Rd_scanNumber_142 : List UInt8 := 42 :: t_Rd_scanNumber_143
abbrev t_Rd_scanNumber_139 : List UInt8 := 180 :: 0 :: 53 :: t_Rd_scanNumber_142
abbrev t_Rd_scanNumber_138 : List UInt8 := 89 :: t_Rd_scanNumber_139
abbrev t_Rd_scanNumber_137 : List UInt8 := 42 :: t_Rd_scanNumber_138
abbrev t_Rd_scanNumber_134 : List UInt8 := 181 :: 0 :: 156 :: t_Rd_scanNumber_137
abbrev t_Rd_scanNumber_133 : List UInt8 := 3 :: t_Rd_scanNumber_134
abbrev t_Rd_scanNumber_130 : List UInt8 := 167 :: 0 :: 4 :: t_Rd_scanNumber_133
abbrev t_Rd_scanNumber_129 : List UInt8 := 4 :: t_Rd_scanNumber_130
abbrev t_Rd_scanNumber_126 : List UInt8 := 153 :: 0 :: 7 :: t_Rd_scanNumber_129
abbrev t_Rd_scanNumber_123 : List UInt8 := 184 :: 0 :: 131 :: t_Rd_scanNumber_126
abbrev t_Rd_scanNumber_120 : List UInt8 := 182 :: 0 :: 119 :: t_Rd_scanNumber_123
abbrev t_Rd_scanNumber_119 : List UInt8 := 96 :: t_Rd_scanNumber_120
abbrev t_Rd_scanNumber_118 : List UInt8 := 4 :: t_Rd_scanNumber_119
abbrev t_Rd_scanNumber_115 : List UInt8 := 180 :: 0 :: 53 :: t_Rd_scanNumber_118
abbrev t_Rd_scanNumber_114 : List UInt8 := 42 :: t_Rd_scanNumber_115
abbrev t_Rd_scanNumber_111 : List UInt8 := 180 :: 0 :: 40 :: t_Rd_scanNumber_114
abbrev t_Rd_scanNumber_110 : List UInt8 := 42 :: t_Rd_scanNumber_111
abbrev t_Rd_scanNumber_107 : List UInt8 := 160 :: 0 :: 26 :: t_Rd_scanNumber_110
abbrev t_Rd_scanNumber_105 : List UInt8 := 16 :: 46 :: t_Rd_scanNumber_107
abbrev t_Rd_scanNumber_102 : List UInt8 := 182 :: 0 :: 119 :: t_Rd_scanNumber_105
abbrev t_Rd_scanNumber_99 : List UInt8 := 180 :: 0 :: 53 :: t_Rd_scanNumber_102
abbrev t_Rd_scanNumber_98 : List UInt8 := 42 :: t_Rd_scanNumber_99
abbrev t_Rd_scanNumber_95 : List UInt8 := 180 :: 0 :: 40 :: t_Rd_scanNumber_98
abbrev t_Rd_scanNumber_94 : List UInt8 := 42 :: t_Rd_scanNumber_95
abbrev t_Rd_scanNumber_93 : List UInt8 := 42 :: t_Rd_scanNumber_94
abbrev t_Rd_scanNumber_90 : List UInt8 := 181 :: 0 :: 147 :: t_Rd_scanNumber_93
abbrev t_Rd_scanNumber_89 : List UInt8 := 105 :: t_Rd_scanNumber_90
abbrev t_Rd_scanNumber_86 : List UInt8 := 20 :: 0 :: 154 :: t_Rd_scanNumber_89
abbrev t_Rd_scanNumber_83 : List UInt8 := 180 :: 0 :: 147 :: t_Rd_scanNumber_86
abbrev t_Rd_scanNumber_82 : List UInt8 := 89 :: t_Rd_scanNumber_83
abbrev t_Rd_scanNumber_81 : List UInt8 := 42 :: t_Rd_scanNumber_82
abbrev t_Rd_scanNumber_78 : List UInt8 := 167 :: 255 :: 191 :: t_Rd_scanNumber_81
abbrev t_Rd_scanNumber_75 : List UInt8 := 132 :: 1 :: 1 :: t_Rd_scanNumber_78
abbrev t_Rd_scanNumber_72 : List UInt8 := 181 :: 0 :: 53 :: t_Rd_scanNumber_75
abbrev t_Rd_scanNumber_71 : List UInt8 := 96 :: t_Rd_scanNumber_72
abbrev t_Rd_scanNumber_70 : List UInt8 := 4 :: t_Rd_scanNumber_71
abbrev t_Rd_scanNumber_67 : List UInt8 := 180 :: 0 :: 53 :: t_Rd_scanNumber_70
abbrev t_Rd_scanNumber_66 : List UInt8 := 89 :: t_Rd_scanNumber_67
abbrev t_Rd_scanNumber_65 : List UInt8 := 42 :: t_Rd_scanNumber_66
abbrev t_Rd_scanNumber_62 : List UInt8 := 181 :: 0 :: 147 :: t_Rd_scanNumber_65
abbrev t_Rd_scanNumber_61 : List UInt8 := 101 :: t_Rd_scanNumber_62
abbrev t_Rd_scanNumber_58 : List UInt8 := 20 :: 0 :: 152 :: t_Rd_scanNumber_61
abbrev t_Rd_scanNumber_57 : List UInt8 := 97 :: t_Rd_scanNumber_58
abbrev t_Rd_scanNumber_56 : List UInt8 := 133 :: t_Rd_scanNumber_57
abbrev t_Rd_scanNumber_53 : List UInt8 := 182 :: 0 :: 119 :: t_Rd_scanNumber_56
abbrev t_Rd_scanNumber_50 : List UInt8 := 180 :: 0 :: 53 :: t_Rd_scanNumber_53
abbrev t_Rd_scanNumber_49 : List UInt8 := 42 :: t_Rd_scanNumber_50
abbrev t_Rd_scanNumber_46 : List UInt8 := 180 :: 0 :: 40 :: t_Rd_scanNumber_49
abbrev t_Rd_scanNumber_45 : List UInt8 := 42 :: t_Rd_scanNumber_46
abbrev t_Rd_scanNumber_44 : List UInt8 := 105 :: t_Rd_scanNumber_45
abbrev t_Rd_scanNumber_41 : List UInt8 := 20 :: 0 :: 150 :: t_Rd_scanNumber_44
abbrev t_Rd_scanNumber_38 : List UInt8 := 180 :: 0 :: 147 :: t_Rd_scanNumber_41
abbrev t_Rd_scanNumber_37 : List UInt8 := 42 :: t_Rd_scanNumber_38
abbrev t_Rd_scanNumber_36 : List UInt8 := 42 :: t_Rd_scanNumber_37
abbrev t_Rd_scanNumber_33 : List UInt8 := 153 :: 0 :: 48 :: t_Rd_scanNumber_36
abbrev t_Rd_scanNumber_30 : List UInt8 := 184 :: 0 :: 131 :: t_Rd_scanNumber_33
abbrev t_Rd_scanNumber_27 : List UInt8 := 182 :: 0 :: 119 :: t_Rd_scanNumber_30
abbrev t_Rd_scanNumber_24 : List UInt8 := 180 :: 0 :: 53 :: t_Rd_scanNumber_27
abbrev t_Rd_scanNumber_23 : List UInt8 := 42 :: t_Rd_scanNumber_24
abbrev t_Rd_scanNumber_20 : List UInt8 := 180 :: 0 :: 40 :: t_Rd_scanNumber_23
abbrev t_Rd_scanNumber_19 : List UInt8 := 42 :: t_Rd_scanNumber_20
abbrev t_Rd_scanNumber_16 : List UInt8 := 162 :: 0 :: 65 :: t_Rd_scanNumber_19
abbrev t_Rd_scanNumber_14 : List UInt8 := 16 :: 9 :: t_Rd_scanNumber_16
abbrev t_Rd_scanNumber_13 : List UInt8 := 27 :: t_Rd_scanNumber_14
abbrev t_Rd_scanNumber_12 : List UInt8 := 60 :: t_Rd_scanNumber_13
abbrev t_Rd_scanNumber_11 : List UInt8 := 3 :: t_Rd_scanNumber_12
abbrev t_Rd_scanNumber_8 : List UInt8 := 181 :: 0 :: 147 :: t_Rd_scanNumber_11
abbrev t_Rd_scanNumber_7 : List UInt8 := 9 :: t_Rd_scanNumber_8
abbrev t_Rd_scanNumber_6 : List UInt8 := 42 :: t_Rd_scanNumber_7
abbrev t_Rd_scanNumber_3 : List UInt8 := 181 :: 0 :: 66 :: t_Rd_scanNumber_6
abbrev t_Rd_scanNumber_1 : List UInt8 := 16 :: 31 :: t_Rd_scanNumber_3
abbrev t_Rd_scanNumber_0 : List UInt8 := 42 :: t_Rd_scanNumber_1
theorem a_Rd_scanNumber_0 : dk_at b_Rd_scanNumber 0 t_Rd_scanNumber_0 := dk_start (by decide +kernel)
theorem a_Rd_scanNumber_1 : dk_at b_Rd_scanNumber 1 t_Rd_scanNumber_1 := dk_go 1 a_Rd_scanNumber_0 rfl
theorem a_Rd_scanNumber_3 : dk_at b_Rd_scanNumber 3 t_Rd_scanNumber_3 := dk_go 2 a_Rd_scanNumber_1 rfl
theorem a_Rd_scanNumber_6 : dk_at b_Rd_scanNumber 6 t_Rd_scanNumber_6 := dk_go 3 a_Rd_scanNumber_3 rfl
theorem a_Rd_scanNumber_7 : dk_at b_Rd_scanNumber 7 t_Rd_scanNumber_7 := dk_go 1 a_Rd_scanNumber_6 rfl
theorem a_Rd_scanNumber_8 : dk_at b_Rd_scanNumber 8 t_Rd_scanNumber_8 := dk_go 1 a_Rd_scanNumber_7 rfl
theorem a_Rd_scanNumber_11 : dk_at b_Rd_scanNumber 11 t_Rd_scanNumber_11 := dk_go 3 a_Rd_scanNumber_8 rfl
theorem a_Rd_scanNumber_12 : dk_at b_Rd_scanNumber 12 t_Rd_scanNumber_12 := dk_go 1 a_Rd_scanNumber_11 rfl
theorem a_Rd_scanNumber_13 : dk_at b_Rd_scanNumber 13 t_Rd_scanNumber_13 := dk_go 1 a_Rd_scanNumber_12 rfl
theorem a_Rd_scanNumber_14 : dk_at b_Rd_scanNumber 14 t_Rd_scanNumber_14 := dk_go 1 a_Rd_scanNumber_13 rfl
theorem a_Rd_scanNumber_16 : dk_at b_Rd_scanNumber 16 t_Rd_scanNumber_16 := dk_go 2 a_Rd_scanNumber_14 rfl
theorem a_Rd_scanNumber_19 : dk_at b_Rd_scanNumber 19 t_Rd_scanNumber_19 := dk_go 3 a_Rd_scanNumber_16 rfl
theorem a_Rd_scanNumber_20 : dk_at b_Rd_scanNumber 20 t_Rd_scanNumber_20 := dk_go 1 a_Rd_scanNumber_19 rfl
theorem a_Rd_scanNumber_23 : dk_at b_Rd_scanNumber 23 t_Rd_scanNumber_23 := dk_go 3 a_Rd_scanNumber_20 rfl
theorem a_Rd_scanNumber_24 : dk_at b_Rd_scanNumber 24 t_Rd_scanNumber_24 := dk_go 1 a_Rd_scanNumber_23 rfl
theorem a_Rd_scanNumber_27 : dk_at b_Rd_scanNumber 27 t_Rd_scanNumber_27 := dk_go 3 a_Rd_scanNumber_24 rfl
theorem a_Rd_scanNumber_30 : dk_at b_Rd_scanNumber 30 t_Rd_scanNumber_30 := dk_go 3 a_Rd_scanNumber_27 rfl
theorem a_Rd_scanNumber_33 : dk_at b_Rd_scanNumber 33 t_Rd_scanNumber_33 := dk_go 3 a_Rd_scanNumber_30 rfl
theorem a_Rd_scanNumber_36 : dk_at b_Rd_scanNumber 36 t_Rd_scanNumber_36 := dk_go 3 a_Rd_scanNumber_33 rfl
theorem a_Rd_scanNumber_37 : dk_at b_Rd_scanNumber 37 t_Rd_scanNumber_37 := dk_go 1 a_Rd_scanNumber_36 rfl
theorem a_Rd_scanNumber_38 : dk_at b_Rd_scanNumber 38 t_Rd_scanNumber_38 := dk_go 1 a_Rd_scanNumber_37 rfl
theorem a_Rd_scanNumber_41 : dk_at b_Rd_scanNumber 41 t_Rd_scanNumber_41 := dk_go 3 a_Rd_scanNumber_38 rfl
theorem a_Rd_scanNumber_44 : dk_at b_Rd_scanNumber 44 t_Rd_scanNumber_44 := dk_go 3 a_Rd_scanNumber_41 rfl
theorem a_Rd_scanNumber_45 : dk_at b_Rd_scanNumber 45 t_Rd_scanNumber_45 := dk_go 1 a_Rd_scanNumber_44 rfl
theorem a_Rd_scanNumber_46 : dk_at b_Rd_scanNumber 46 t_Rd_scanNumber_46 := dk_go 1 a_Rd_scanNumber_45 rfl
theorem a_Rd_scanNumber_49 : dk_at b_Rd_scanNumber 49 t_Rd_scanNumber_49 := dk_go 3 a_Rd_scanNumber_46 rfl
theorem a_Rd_scanNumber_50 : dk_at b_Rd_scanNumber 50 t_Rd_scanNumber_50 := dk_go 1 a_Rd_scanNumber_49 rfl
theorem a_Rd_scanNumber_53 : dk_at b_Rd_scanNumber 53 t_Rd_scanNumber_53 := dk_go 3 a_Rd_scanNumber_50 rfl
theorem a_Rd_scanNumber_56 : dk_at b_Rd_scanNumber 56 t_Rd_scanNumber_56 := dk_go 3 a_Rd_scanNumber_53 rfl
theorem a_Rd_scanNumber_57 : dk_at b_Rd_scanNumber 57 t_Rd_scanNumber_57 := dk_go 1 a_Rd_scanNumber_56 rfl
theorem a_Rd_scanNumber_58 : dk_at b_Rd_scanNumber 58 t_Rd_scanNumber_58 := dk_go 1 a_Rd_scanNumber_57 rfl
theorem a_Rd_scanNumber_61 : dk_at b_Rd_scanNumber 61 t_Rd_scanNumber_61 := dk_go 3 a_Rd_scanNumber_58 rfl
theorem a_Rd_scanNumber_62 : dk_at b_Rd_scanNumber 62 t_Rd_scanNumber_62 := dk_go 1 a_Rd_scanNumber_61 rfl
theorem a_Rd_scanNumber_65 : dk_at b_Rd_scanNumber 65 t_Rd_scanNumber_65 := dk_go 3 a_Rd_scanNumber_62 rfl
theorem a_Rd_scanNumber_66 : dk_at b_Rd_scanNumber 66 t_Rd_scanNumber_66 := dk_go 1 a_Rd_scanNumber_65 rfl
theorem a_Rd_scanNumber_67 : dk_at b_Rd_scanNumber 67 t_Rd_scanNumber_67 := dk_go 1 a_Rd_scanNumber_66 rfl
theorem a_Rd_scanNumber_70 : dk_at b_Rd_scanNumber 70 t_Rd_scanNumber_70 := dk_go 3 a_Rd_scanNumber_67 rfl
theorem a_Rd_scanNumber_71 : dk_at b_Rd_scanNumber 71 t_Rd_scanNumber_71 := dk_go 1 a_Rd_scanNumber_70 rfl
theorem a_Rd_scanNumber_72 : dk_at b_Rd_scanNumber 72 t_Rd_scanNumber_72 := dk_go 1 a_Rd_scanNumber_71 rfl
theorem a_Rd_scanNumber_75 : dk_at b_Rd_scanNumber 75 t_Rd_scanNumber_75 := dk_go 3 a_Rd_scanNumber_72 rfl
theorem a_Rd_scanNumber_78 : dk_at b_Rd_scanNumber 78 t_Rd_scanNumber_78 := dk_go 3 a_Rd_scanNumber_75 rfl
theorem a_Rd_scanNumber_81 : dk_at b_Rd_scanNumber 81 t_Rd_scanNumber_81 := dk_go 3 a_Rd_scanNumber_78 rfl
theorem a_Rd_scanNumber_82 : dk_at b_Rd_scanNumber 82 t_Rd_scanNumber_82 := dk_go 1 a_Rd_scanNumber_81 rfl
theorem a_Rd_scanNumber_83 : dk_at b_Rd_scanNumber 83 t_Rd_scanNumber_83 := dk_go 1 a_Rd_scanNumber_82 rfl
theorem a_Rd_scanNumber_86 : dk_at b_Rd_scanNumber 86 t_Rd_scanNumber_86 := dk_go 3 a_Rd_scanNumber_83 rfl
theorem a_Rd_scanNumber_89 : dk_at b_Rd_scanNumber 89 t_Rd_scanNumber_89 := dk_go 3 a_Rd_scanNumber_86 rfl
theorem a_Rd_scanNumber_90 : dk_at b_Rd_scanNumber 90 t_Rd_scanNumber_90 := dk_go 1 a_Rd_scanNumber_89 rfl
theorem a_Rd_scanNumber_93 : dk_at b_Rd_scanNumber 93 t_Rd_scanNumber_93 := dk_go 3 a_Rd_scanNumber_90 rfl
theorem a_Rd_scanNumber_94 : dk_at b_Rd_scanNumber 94 t_Rd_scanNumber_94 := dk_go 1 a_Rd_scanNumber_93 rfl
theorem a_Rd_scanNumber_95 : dk_at b_Rd_scanNumber 95 t_Rd_scanNumber_95 := dk_go 1 a_Rd_scanNumber_94 rfl
theorem a_Rd_scanNumber_98 : dk_at b_Rd_scanNumber 98 t_Rd_scanNumber_98 := dk_go 3 a_Rd_scanNumber_95 rfl
theorem a_Rd_scanNumber_99 : dk_at b_Rd_scanNumber 99 t_Rd_scanNumber_99 := dk_go 1 a_Rd_scanNumber_98 rfl
theorem a_Rd_scanNumber_102 : dk_at b_Rd_scanNumber 102 t_Rd_scanNumber_102 := dk_go 3 a_Rd_scanNumber_99 rfl
theorem a_Rd_scanNumber_105 : dk_at b_Rd_scanNumber 105 t_Rd_scanNumber_105 := dk_go 3 a_Rd_scanNumber_102 rfl
theorem a_Rd_scanNumber_107 : dk_at b_Rd_scanNumber 107 t_Rd_scanNumber_107 := dk_go 2 a_Rd_scanNumber_105 rfl
theorem a_Rd_scanNumber_110 : dk_at b_Rd_scanNumber 110 t_Rd_scanNumber_110 := dk_go 3 a_Rd_scanNumber_107 rfl
theorem a_Rd_scanNumber_111 : dk_at b_Rd_scanNumber 111 t_Rd_scanNumber_111 := dk_go 1 a_Rd_scanNumber_110 rfl
theorem a_Rd_scanNumber_114 : dk_at b_Rd_scanNumber 114 t_Rd_scanNumber_114 := dk_go 3 a_Rd_scanNumber_111 rfl
theorem a_Rd_scanNumber_115 : dk_at b_Rd_scanNumber 115 t_Rd_scanNumber_115 := dk_go 1 a_Rd_scanNumber_114 rfl
theorem a_Rd_scanNumber_118 : dk_at b_Rd_scanNumber 118 t_Rd_scanNumber_118 := dk_go 3 a_Rd_scanNumber_115 rfl
theorem a_Rd_scanNumber_119 : dk_at b_Rd_scanNumber 119 t_Rd_scanNumber_119 := dk_go 1 a_Rd_scanNumber_118 rfl
theorem a_Rd_scanNumber_120 : dk_at b_Rd_scanNumber 120 t_Rd_scanNumber_120 := dk_go 1 a_Rd_scanNumber_119 rfl
theorem a_Rd_scanNumber_123 : dk_at b_Rd_scanNumber 123 t_Rd_scanNumber_123 := dk_go 3 a_Rd_scanNumber_120 rfl
theorem a_Rd_scanNumber_126 : dk_at b_Rd_scanNumber 126 t_Rd_scanNumber_126 := dk_go 3 a_Rd_scanNumber_123 rfl
theorem a_Rd_scanNumber_129 : dk_at b_Rd_scanNumber 129 t_Rd_scanNumber_129 := dk_go 3 a_Rd_scanNumber_126 rfl
theorem a_Rd_scanNumber_130 : dk_at b_Rd_scanNumber 130 t_Rd_scanNumber_130 := dk_go 1 a_Rd_scanNumber_129 rfl
theorem a_Rd_scanNumber_133 : dk_at b_Rd_scanNumber 133 t_Rd_scanNumber_133 := dk_go 3 a_Rd_scanNumber_130 rfl
theorem a_Rd_scanNumber_134 : dk_at b_Rd_scanNumber 134 t_Rd_scanNumber_134 := dk_go 1 a_Rd_scanNumber_133 rfl
theorem a_Rd_scanNumber_137 : dk_at b_Rd_scanNumber 137 t_Rd_scanNumber_137 := dk_go 3 a_Rd_scanNumber_134 rfl
theorem a_Rd_scanNumber_138 : dk_at b_Rd_scanNumber 138 t_Rd_scanNumber_138 := dk_go 1 a_Rd_scanNumber_137 rfl
theorem a_Rd_scanNumber_139 : dk_at b_Rd_scanNumber 139 t_Rd_scanNumber_139 := dk_go 1 a_Rd_scanNumber_138 rfl
theorem a_Rd_scanNumber_142 : dk_at b_Rd_scanNumber 142 t_Rd_scanNumber_142 := dk_go 3 a_Rd_scanNumber_139 rfl
theorem a_Rd_scanNumber_143 : dk_at b_Rd_scanNumber 143 t_Rd_scanNumber_143 := dk_go 1 a_Rd_scanNumber_142 rfl
theorem a_Rd_scanNumber_146 : dk_at b_Rd_scanNumber 146 t_Rd_scanNumber_146 := dk_go 3 a_Rd_scanNumber_143 rfl
theorem a_Rd_scanNumber_149 : dk_at b_Rd_scanNumber 149 t_Rd_scanNumber_149 := dk_go 3 a_Rd_scanNumber_146 rfl
theorem a_Rd_scanNumber_150 : dk_at b_Rd_scanNumber 150 t_Rd_scanNumber_150 := dk_go 1 a_Rd_scanNumber_149 rfl
theorem a_Rd_scanNumber_153 : dk_at b_Rd_scanNumber 153 t_Rd_scanNumber_153 := dk_go 3 a_Rd_scanNumber_150 rfl
theorem a_Rd_scanNumber_154 : dk_at b_Rd_scanNumber 154 t_Rd_scanNumber_154 := dk_go 1 a_Rd_scanNumber_153 rfl
theorem a_Rd_scanNumber_155 : dk_at b_Rd_scanNumber 155 t_Rd_scanNumber_155 := dk_go 1 a_Rd_scanNumber_154 rfl
theorem a_Rd_scanNumber_158 : dk_at b_Rd_scanNumber 158 t_Rd_scanNumber_158 := dk_go 3 a_Rd_scanNumber_155 rfl
theorem a_Rd_scanNumber_159 : dk_at b_Rd_scanNumber 159 t_Rd_scanNumber_159 := dk_go 1 a_Rd_scanNumber_158 rfl
theorem a_Rd_scanNumber_162 : dk_at b_Rd_scanNumber 162 t_Rd_scanNumber_162 := dk_go 3 a_Rd_scanNumber_159 rfl
theorem a_Rd_scanNumber_165 : dk_at b_Rd_scanNumber 165 t_Rd_scanNumber_165 := dk_go 3 a_Rd_scanNumber_162 rfl
theorem a_Rd_scanNumber_167 : dk_at b_Rd_scanNumber 167 t_Rd_scanNumber_167 := dk_go 2 a_Rd_scanNumber_165 rfl
theorem a_Rd_scanNumber_170 : dk_at b_Rd_scanNumber 170 t_Rd_scanNumber_170 := dk_go 3 a_Rd_scanNumber_167 rfl
theorem a_Rd_scanNumber_171 : dk_at b_Rd_scanNumber 171 t_Rd_scanNumber_171 := dk_go 1 a_Rd_scanNumber_170 rfl
theorem a_Rd_scanNumber_172 : dk_at b_Rd_scanNumber 172 t_Rd_scanNumber_172 := dk_go 1 a_Rd_scanNumber_171 rfl
theorem a_Rd_scanNumber_173 : dk_at b_Rd_scanNumber 173 t_Rd_scanNumber_173 := dk_go 1 a_Rd_scanNumber_172 rfl
theorem a_Rd_scanNumber_176 : dk_at b_Rd_scanNumber 176 t_Rd_scanNumber_176 := dk_go 3 a_Rd_scanNumber_173 rfl
theorem a_Rd_scanNumber_177 : dk_at b_Rd_scanNumber 177 t_Rd_scanNumber_177 := dk_go 1 a_Rd_scanNumber_176 rfl
theorem a_Rd_scanNumber_180 : dk_at b_Rd_scanNumber 180 t_Rd_scanNumber_180 := dk_go 3 a_Rd_scanNumber_177 rfl
theorem a_Rd_scanNumber_181 : dk_at b_Rd_scanNumber 181 t_Rd_scanNumber_181 := dk_go 1 a_Rd_scanNumber_180 rfl
theorem a_Rd_scanNumber_184 : dk_at b_Rd_scanNumber 184 t_Rd_scanNumber_184 := dk_go 3 a_Rd_scanNumber_181 rfl
theorem a_Rd_scanNumber_187 : dk_at b_Rd_scanNumber 187 t_Rd_scanNumber_187 := dk_go 3 a_Rd_scanNumber_184 rfl
theorem a_Rd_scanNumber_190 : dk_at b_Rd_scanNumber 190 t_Rd_scanNumber_190 := dk_go 3 a_Rd_scanNumber_187 rfl
theorem a_Rd_scanNumber_193 : dk_at b_Rd_scanNumber 193 t_Rd_scanNumber_193 := dk_go 3 a_Rd_scanNumber_190 rfl
theorem a_Rd_scanNumber_194 : dk_at b_Rd_scanNumber 194 t_Rd_scanNumber_194 := dk_go 1 a_Rd_scanNumber_193 rfl
theorem a_Rd_scanNumber_195 : dk_at b_Rd_scanNumber 195 t_Rd_scanNumber_195 := dk_go 1 a_Rd_scanNumber_194 rfl
theorem a_Rd_scanNumber_198 : dk_at b_Rd_scanNumber 198 t_Rd_scanNumber_198 := dk_go 3 a_Rd_scanNumber_195 rfl
theorem a_Rd_scanNumber_199 : dk_at b_Rd_scanNumber 199 t_Rd_scanNumber_199 := dk_go 1 a_Rd_scanNumber_198 rfl
theorem a_Rd_scanNumber_200 : dk_at b_Rd_scanNumber 200 t_Rd_scanNumber_200 := dk_go 1 a_Rd_scanNumber_199 rfl
theorem a_Rd_scanNumber_203 : dk_at b_Rd_scanNumber 203 t_Rd_scanNumber_203 := dk_go 3 a_Rd_scanNumber_200 rfl
theorem a_Rd_scanNumber_204 : dk_at b_Rd_scanNumber 204 t_Rd_scanNumber_204 := dk_go 1 a_Rd_scanNumber_203 rfl
theorem a_Rd_scanNumber_207 : dk_at b_Rd_scanNumber 207 t_Rd_scanNumber_207 := dk_go 3 a_Rd_scanNumber_204 rfl
theorem a_Rd_scanNumber_210 : dk_at b_Rd_scanNumber 210 t_Rd_scanNumber_210 := dk_go 3 a_Rd_scanNumber_207 rfl
theorem a_Rd_scanNumber_212 : dk_at b_Rd_scanNumber 212 t_Rd_scanNumber_212 := dk_go 2 a_Rd_scanNumber_210 rfl
theorem a_Rd_scanNumber_213 : dk_at b_Rd_scanNumber 213 t_Rd_scanNumber_213 := dk_go 1 a_Rd_scanNumber_212 rfl
theorem a_Rd_scanNumber_214 : dk_at b_Rd_scanNumber 214 t_Rd_scanNumber_214 := dk_go 1 a_Rd_scanNumber_213 rfl
theorem a_Rd_scanNumber_215 : dk_at b_Rd_scanNumber 215 t_Rd_scanNumber_215 := dk_go 1 a_Rd_scanNumber_214 rfl
theorem a_Rd_scanNumber_216 : dk_at b_Rd_scanNumber 216 t_Rd_scanNumber_216 := dk_go 1 a_Rd_scanNumber_215 rfl
theorem a_Rd_scanNumber_219 : dk_at b_Rd_scanNumber 219 t_Rd_scanNumber_219 := dk_go 3 a_Rd_scanNumber_216 rfl
theorem a_Rd_scanNumber_220 : dk_at b_Rd_scanNumber 220 t_Rd_scanNumber_220 := dk_go 1 a_Rd_scanNumber_219 rfl
theorem a_Rd_scanNumber_221 : dk_at b_Rd_scanNumber 221 t_Rd_scanNumber_221 := dk_go 1 a_Rd_scanNumber_220 rfl
theorem a_Rd_scanNumber_224 : dk_at b_Rd_scanNumber 224 t_Rd_scanNumber_224 := dk_go 3 a_Rd_scanNumber_221 rfl
theorem a_Rd_scanNumber_225 : dk_at b_Rd_scanNumber 225 t_Rd_scanNumber_225 := dk_go 1 a_Rd_scanNumber_224 rfl
theorem a_Rd_scanNumber_226 : dk_at b_Rd_scanNumber 226 t_Rd_scanNumber_226 := dk_go 1 a_Rd_scanNumber_225 rfl
theorem a_Rd_scanNumber_229 : dk_at b_Rd_scanNumber 229 t_Rd_scanNumber_229 := dk_go 3 a_Rd_scanNumber_226 rfl
theorem a_Rd_scanNumber_230 : dk_at b_Rd_scanNumber 230 t_Rd_scanNumber_230 := dk_go 1 a_Rd_scanNumber_229 rfl
theorem a_Rd_scanNumber_232 : dk_at b_Rd_scanNumber 232 t_Rd_scanNumber_232 := dk_go 2 a_Rd_scanNumber_230 rfl
theorem a_Rd_scanNumber_233 : dk_at b_Rd_scanNumber 233 t_Rd_scanNumber_233 := dk_go 1 a_Rd_scanNumber_232 rfl
theorem a_Rd_scanNumber_234 : dk_at b_Rd_scanNumber 234 t_Rd_scanNumber_234 := dk_go 1 a_Rd_scanNumber_233 rfl
theorem a_Rd_scanNumber_237 : dk_at b_Rd_scanNumber 237 t_Rd_scanNumber_237 := dk_go 3 a_Rd_scanNumber_234 rfl
theorem d_Rd_scanNumber_0 : decode b_Rd_scanNumber 0 = .ok (.aload_n 0, 1) := dk_0 a_Rd_scanNumber_0 (dko_42 _)
theorem d_Rd_scanNumber_1 : decode b_Rd_scanNumber 1 = .ok (.bipush 31, 2) := dk_S1 a_Rd_scanNumber_1 (dko_16 _) (by decide +kernel)
theorem d_Rd_scanNumber_3 : decode b_Rd_scanNumber 3 = .ok (.putfield 66, 3) := dk_U2 a_Rd_scanNumber_3 (dko_181 _) rfl
theorem d_Rd_scanNumber_6 : decode b_Rd_scanNumber 6 = .ok (.aload_n 0, 1) := dk_0 a_Rd_scanNumber_6 (dko_42 _)
theorem d_Rd_scanNumber_7 : decode b_Rd_scanNumber 7 = .ok (.lconst 0, 1) := dk_0 a_Rd_scanNumber_7 (dko_9 _)
theorem d_Rd_scanNumber_8 : decode b_Rd_scanNumber 8 = .ok (.putfield 147, 3) := dk_U2 a_Rd_scanNumber_8 (dko_181 _) rfl
theorem d_Rd_scanNumber_11 : decode b_Rd_scanNumber 11 = .ok (.iconst 0, 1) := dk_0 a_Rd_scanNumber_11 (dko_3 _)
theorem d_Rd_scanNumber_12 : decode b_Rd_scanNumber 12 = .ok (.istore_n 1, 1) := dk_0 a_Rd_scanNumber_12 (dko_60 _)
theorem d_Rd_scanNumber_13 : decode b_Rd_scanNumber 13 = .ok (.iload_n 1, 1) := dk_0 a_Rd_scanNumber_13 (dko_27 _)
theorem d_Rd_scanNumber_14 : decode b_Rd_scanNumber 14 = .ok (.bipush 9, 2) := dk_S1 a_Rd_scanNumber_14 (dko_16 _) (by decide +kernel)
theorem d_Rd_scanNumber_16 : decode b_Rd_scanNumber 16 = .ok (.if_icmp .ge 65, 3) := dk_S2 a_Rd_scanNumber_16 (dko_162 _) (by decide +kernel)
theorem d_Rd_scanNumber_19 : decode b_Rd_scanNumber 19 = .ok (.aload_n 0, 1) := dk_0 a_Rd_scanNumber_19 (dko_42 _)
theorem d_Rd_scanNumber_20 : decode b_Rd_scanNumber 20 = .ok (.getfield 40, 3) := dk_U2 a_Rd_scanNumber_20 (dko_180 _) rfl
theorem d_Rd_scanNumber_23 : decode b_Rd_scanNumber 23 = .ok (.aload_n 0, 1) := dk_0 a_Rd_scanNumber_23 (dko_42 _)
theorem d_Rd_scanNumber_24 : decode b_Rd_scanNumber 24 = .ok (.getfield 53, 3) := dk_U2 a_Rd_scanNumber_24 (dko_180 _) rfl
theorem d_Rd_scanNumber_27 : decode b_Rd_scanNumber 27 = .ok (.invokevirtual 119, 3) := dk_U2 a_Rd_scanNumber_27 (dko_182 _) rfl
theorem d_Rd_scanNumber_30 : decode b_Rd_scanNumber 30 = .ok (.invokestatic 131, 3) := dk_U2 a_Rd_scanNumber_30 (dko_184 _) rfl
theorem d_Rd_scanNumber_33 : decode b_Rd_scanNumber 33 = .ok (.ifCond .eq 48, 3) := dk_S2 a_Rd_scanNumber_33 (dko_153 _) (by decide +kernel)
theorem d_Rd_scanNumber_36 : decode b_Rd_scanNumber 36 = .ok (.aload_n 0, 1) := dk_0 a_Rd_scanNumber_36 (dko_42 _)
theorem d_Rd_scanNumber_37 : decode b_Rd_scanNumber 37 = .ok (.aload_n 0, 1) := dk_0 a_Rd_scanNumber_37 (dko_42 _)
theorem d_Rd_scanNumber_38 : decode b_Rd_scanNumber 38 = .ok (.getfield 147, 3) := dk_U2 a_Rd_scanNumber_38 (dko_180 _) rfl
theorem d_Rd_scanNumber_41 : decode b_Rd_scanNumber 41 = .ok (.ldc2_w 150, 3) := dk_U2 a_Rd_scanNumber_41 (dko_20 _) rfl
theorem d_Rd_scanNumber_44 : decode b_Rd_scanNumber 44 = .ok (.lmul, 1) := dk_0 a_Rd_scanNumber_44 (dko_105 _)
theorem d_Rd_scanNumber_45 : decode b_Rd_scanNumber 45 = .ok (.aload_n 0, 1) := dk_0 a_Rd_scanNumber_45 (dko_42 _)
theorem d_Rd_scanNumber_46 : decode b_Rd_scanNumber 46 = .ok (.getfield 40, 3) := dk_U2 a_Rd_scanNumber_46 (dko_180 _) rfl
theorem d_Rd_scanNumber_49 : decode b_Rd_scanNumber 49 = .ok (.aload_n 0, 1) := dk_0 a_Rd_scanNumber_49 (dko_42 _)
theorem d_Rd_scanNumber_50 : decode b_Rd_scanNumber 50 = .ok (.getfield 53, 3) := dk_U2 a_Rd_scanNumber_50 (dko_180 _) rfl
theorem d_Rd_scanNumber_53 : decode b_Rd_scanNumber 53 = .ok (.invokevirtual 119, 3) := dk_U2 a_Rd_scanNumber_53 (dko_182 _) rfl
theorem d_Rd_scanNumber_56 : decode b_Rd_scanNumber 56 = .ok (.i2l, 1) := dk_0 a_Rd_scanNumber_56 (dko_133 _)
theorem d_Rd_scanNumber_57 : decode b_Rd_scanNumber 57 = .ok (.ladd, 1) := dk_0 a_Rd_scanNumber_57 (dko_97 _)
theorem d_Rd_scanNumber_58 : decode b_Rd_scanNumber 58 = .ok (.ldc2_w 152, 3) := dk_U2 a_Rd_scanNumber_58 (dko_20 _) rfl
theorem d_Rd_scanNumber_61 : decode b_Rd_scanNumber 61 = .ok (.lsub, 1) := dk_0 a_Rd_scanNumber_61 (dko_101 _)
theorem d_Rd_scanNumber_62 : decode b_Rd_scanNumber 62 = .ok (.putfield 147, 3) := dk_U2 a_Rd_scanNumber_62 (dko_181 _) rfl
theorem d_Rd_scanNumber_65 : decode b_Rd_scanNumber 65 = .ok (.aload_n 0, 1) := dk_0 a_Rd_scanNumber_65 (dko_42 _)
theorem d_Rd_scanNumber_66 : decode b_Rd_scanNumber 66 = .ok (.dup, 1) := dk_0 a_Rd_scanNumber_66 (dko_89 _)
theorem d_Rd_scanNumber_67 : decode b_Rd_scanNumber 67 = .ok (.getfield 53, 3) := dk_U2 a_Rd_scanNumber_67 (dko_180 _) rfl
theorem d_Rd_scanNumber_70 : decode b_Rd_scanNumber 70 = .ok (.iconst 1, 1) := dk_0 a_Rd_scanNumber_70 (dko_4 _)
theorem d_Rd_scanNumber_71 : decode b_Rd_scanNumber 71 = .ok (.iadd, 1) := dk_0 a_Rd_scanNumber_71 (dko_96 _)
theorem d_Rd_scanNumber_72 : decode b_Rd_scanNumber 72 = .ok (.putfield 53, 3) := dk_U2 a_Rd_scanNumber_72 (dko_181 _) rfl
theorem d_Rd_scanNumber_75 : decode b_Rd_scanNumber 75 = .ok (.iinc 1 1, 3) := dk_US a_Rd_scanNumber_75 (dko_132 _) (by decide +kernel)
theorem d_Rd_scanNumber_78 : decode b_Rd_scanNumber 78 = .ok (.goto (-65), 3) := dk_S2 a_Rd_scanNumber_78 (dko_167 _) (by decide +kernel)
theorem d_Rd_scanNumber_81 : decode b_Rd_scanNumber 81 = .ok (.aload_n 0, 1) := dk_0 a_Rd_scanNumber_81 (dko_42 _)
theorem d_Rd_scanNumber_82 : decode b_Rd_scanNumber 82 = .ok (.dup, 1) := dk_0 a_Rd_scanNumber_82 (dko_89 _)
theorem d_Rd_scanNumber_83 : decode b_Rd_scanNumber 83 = .ok (.getfield 147, 3) := dk_U2 a_Rd_scanNumber_83 (dko_180 _) rfl
theorem d_Rd_scanNumber_86 : decode b_Rd_scanNumber 86 = .ok (.ldc2_w 154, 3) := dk_U2 a_Rd_scanNumber_86 (dko_20 _) rfl
theorem d_Rd_scanNumber_89 : decode b_Rd_scanNumber 89 = .ok (.lmul, 1) := dk_0 a_Rd_scanNumber_89 (dko_105 _)
theorem d_Rd_scanNumber_90 : decode b_Rd_scanNumber 90 = .ok (.putfield 147, 3) := dk_U2 a_Rd_scanNumber_90 (dko_181 _) rfl
theorem d_Rd_scanNumber_93 : decode b_Rd_scanNumber 93 = .ok (.aload_n 0, 1) := dk_0 a_Rd_scanNumber_93 (dko_42 _)
theorem d_Rd_scanNumber_94 : decode b_Rd_scanNumber 94 = .ok (.aload_n 0, 1) := dk_0 a_Rd_scanNumber_94 (dko_42 _)
theorem d_Rd_scanNumber_95 : decode b_Rd_scanNumber 95 = .ok (.getfield 40, 3) := dk_U2 a_Rd_scanNumber_95 (dko_180 _) rfl
theorem d_Rd_scanNumber_98 : decode b_Rd_scanNumber 98 = .ok (.aload_n 0, 1) := dk_0 a_Rd_scanNumber_98 (dko_42 _)
theorem d_Rd_scanNumber_99 : decode b_Rd_scanNumber 99 = .ok (.getfield 53, 3) := dk_U2 a_Rd_scanNumber_99 (dko_180 _) rfl
theorem d_Rd_scanNumber_102 : decode b_Rd_scanNumber 102 = .ok (.invokevirtual 119, 3) := dk_U2 a_Rd_scanNumber_102 (dko_182 _) rfl
theorem d_Rd_scanNumber_105 : decode b_Rd_scanNumber 105 = .ok (.bipush 46, 2) := dk_S1 a_Rd_scanNumber_105 (dko_16 _) (by decide +kernel)
theorem d_Rd_scanNumber_107 : decode b_Rd_scanNumber 107 = .ok (.if_icmp .ne 26, 3) := dk_S2 a_Rd_scanNumber_107 (dko_160 _) (by decide +kernel)
theorem d_Rd_scanNumber_110 : decode b_Rd_scanNumber 110 = .ok (.aload_n 0, 1) := dk_0 a_Rd_scanNumber_110 (dko_42 _)
theorem d_Rd_scanNumber_111 : decode b_Rd_scanNumber 111 = .ok (.getfield 40, 3) := dk_U2 a_Rd_scanNumber_111 (dko_180 _) rfl
theorem d_Rd_scanNumber_114 : decode b_Rd_scanNumber 114 = .ok (.aload_n 0, 1) := dk_0 a_Rd_scanNumber_114 (dko_42 _)
theorem d_Rd_scanNumber_115 : decode b_Rd_scanNumber 115 = .ok (.getfield 53, 3) := dk_U2 a_Rd_scanNumber_115 (dko_180 _) rfl
theorem d_Rd_scanNumber_118 : decode b_Rd_scanNumber 118 = .ok (.iconst 1, 1) := dk_0 a_Rd_scanNumber_118 (dko_4 _)
theorem d_Rd_scanNumber_119 : decode b_Rd_scanNumber 119 = .ok (.iadd, 1) := dk_0 a_Rd_scanNumber_119 (dko_96 _)
theorem d_Rd_scanNumber_120 : decode b_Rd_scanNumber 120 = .ok (.invokevirtual 119, 3) := dk_U2 a_Rd_scanNumber_120 (dko_182 _) rfl
theorem d_Rd_scanNumber_123 : decode b_Rd_scanNumber 123 = .ok (.invokestatic 131, 3) := dk_U2 a_Rd_scanNumber_123 (dko_184 _) rfl
theorem d_Rd_scanNumber_126 : decode b_Rd_scanNumber 126 = .ok (.ifCond .eq 7, 3) := dk_S2 a_Rd_scanNumber_126 (dko_153 _) (by decide +kernel)
theorem d_Rd_scanNumber_129 : decode b_Rd_scanNumber 129 = .ok (.iconst 1, 1) := dk_0 a_Rd_scanNumber_129 (dko_4 _)
theorem d_Rd_scanNumber_130 : decode b_Rd_scanNumber 130 = .ok (.goto 4, 3) := dk_S2 a_Rd_scanNumber_130 (dko_167 _) (by decide +kernel)
theorem d_Rd_scanNumber_133 : decode b_Rd_scanNumber 133 = .ok (.iconst 0, 1) := dk_0 a_Rd_scanNumber_133 (dko_3 _)
theorem d_Rd_scanNumber_134 : decode b_Rd_scanNumber 134 = .ok (.putfield 156, 3) := dk_U2 a_Rd_scanNumber_134 (dko_181 _) rfl
theorem d_Rd_scanNumber_137 : decode b_Rd_scanNumber 137 = .ok (.aload_n 0, 1) := dk_0 a_Rd_scanNumber_137 (dko_42 _)
theorem d_Rd_scanNumber_138 : decode b_Rd_scanNumber 138 = .ok (.dup, 1) := dk_0 a_Rd_scanNumber_138 (dko_89 _)
theorem d_Rd_scanNumber_139 : decode b_Rd_scanNumber 139 = .ok (.getfield 53, 3) := dk_U2 a_Rd_scanNumber_139 (dko_180 _) rfl
theorem d_Rd_scanNumber_142 : decode b_Rd_scanNumber 142 = .ok (.aload_n 0, 1) := dk_0 a_Rd_scanNumber_142 (dko_42 _)
theorem d_Rd_scanNumber_143 : decode b_Rd_scanNumber 143 = .ok (.getfield 156, 3) := dk_U2 a_Rd_scanNumber_143 (dko_180 _) rfl
theorem d_Rd_scanNumber_146 : decode b_Rd_scanNumber 146 = .ok (.ifCond .eq 7, 3) := dk_S2 a_Rd_scanNumber_146 (dko_153 _) (by decide +kernel)
theorem d_Rd_scanNumber_149 : decode b_Rd_scanNumber 149 = .ok (.iconst 1, 1) := dk_0 a_Rd_scanNumber_149 (dko_4 _)
theorem d_Rd_scanNumber_150 : decode b_Rd_scanNumber 150 = .ok (.goto 4, 3) := dk_S2 a_Rd_scanNumber_150 (dko_167 _) (by decide +kernel)
theorem d_Rd_scanNumber_153 : decode b_Rd_scanNumber 153 = .ok (.iconst 0, 1) := dk_0 a_Rd_scanNumber_153 (dko_3 _)
theorem d_Rd_scanNumber_154 : decode b_Rd_scanNumber 154 = .ok (.iadd, 1) := dk_0 a_Rd_scanNumber_154 (dko_96 _)
theorem d_Rd_scanNumber_155 : decode b_Rd_scanNumber 155 = .ok (.putfield 53, 3) := dk_U2 a_Rd_scanNumber_155 (dko_181 _) rfl
theorem d_Rd_scanNumber_158 : decode b_Rd_scanNumber 158 = .ok (.aload_n 0, 1) := dk_0 a_Rd_scanNumber_158 (dko_42 _)
theorem d_Rd_scanNumber_159 : decode b_Rd_scanNumber 159 = .ok (.getfield 156, 3) := dk_U2 a_Rd_scanNumber_159 (dko_180 _) rfl
theorem d_Rd_scanNumber_162 : decode b_Rd_scanNumber 162 = .ok (.ifCond .eq 8, 3) := dk_S2 a_Rd_scanNumber_162 (dko_153 _) (by decide +kernel)
theorem d_Rd_scanNumber_165 : decode b_Rd_scanNumber 165 = .ok (.bipush 100, 2) := dk_S1 a_Rd_scanNumber_165 (dko_16 _) (by decide +kernel)
theorem d_Rd_scanNumber_167 : decode b_Rd_scanNumber 167 = .ok (.goto 4, 3) := dk_S2 a_Rd_scanNumber_167 (dko_167 _) (by decide +kernel)
theorem d_Rd_scanNumber_170 : decode b_Rd_scanNumber 170 = .ok (.iconst 0, 1) := dk_0 a_Rd_scanNumber_170 (dko_3 _)
theorem d_Rd_scanNumber_171 : decode b_Rd_scanNumber 171 = .ok (.istore_n 1, 1) := dk_0 a_Rd_scanNumber_171 (dko_60 _)
theorem d_Rd_scanNumber_172 : decode b_Rd_scanNumber 172 = .ok (.iload_n 1, 1) := dk_0 a_Rd_scanNumber_172 (dko_27 _)
theorem d_Rd_scanNumber_173 : decode b_Rd_scanNumber 173 = .ok (.ifCond .le 64, 3) := dk_S2 a_Rd_scanNumber_173 (dko_158 _) (by decide +kernel)
theorem d_Rd_scanNumber_176 : decode b_Rd_scanNumber 176 = .ok (.aload_n 0, 1) := dk_0 a_Rd_scanNumber_176 (dko_42 _)
theorem d_Rd_scanNumber_177 : decode b_Rd_scanNumber 177 = .ok (.getfield 40, 3) := dk_U2 a_Rd_scanNumber_177 (dko_180 _) rfl
theorem d_Rd_scanNumber_180 : decode b_Rd_scanNumber 180 = .ok (.aload_n 0, 1) := dk_0 a_Rd_scanNumber_180 (dko_42 _)
theorem d_Rd_scanNumber_181 : decode b_Rd_scanNumber 181 = .ok (.getfield 53, 3) := dk_U2 a_Rd_scanNumber_181 (dko_180 _) rfl
theorem d_Rd_scanNumber_184 : decode b_Rd_scanNumber 184 = .ok (.invokevirtual 119, 3) := dk_U2 a_Rd_scanNumber_184 (dko_182 _) rfl
theorem d_Rd_scanNumber_187 : decode b_Rd_scanNumber 187 = .ok (.invokestatic 131, 3) := dk_U2 a_Rd_scanNumber_187 (dko_184 _) rfl
theorem d_Rd_scanNumber_190 : decode b_Rd_scanNumber 190 = .ok (.ifCond .eq 47, 3) := dk_S2 a_Rd_scanNumber_190 (dko_153 _) (by decide +kernel)
theorem d_Rd_scanNumber_193 : decode b_Rd_scanNumber 193 = .ok (.aload_n 0, 1) := dk_0 a_Rd_scanNumber_193 (dko_42 _)
theorem d_Rd_scanNumber_194 : decode b_Rd_scanNumber 194 = .ok (.dup, 1) := dk_0 a_Rd_scanNumber_194 (dko_89 _)
theorem d_Rd_scanNumber_195 : decode b_Rd_scanNumber 195 = .ok (.getfield 147, 3) := dk_U2 a_Rd_scanNumber_195 (dko_180 _) rfl
theorem d_Rd_scanNumber_198 : decode b_Rd_scanNumber 198 = .ok (.iload_n 1, 1) := dk_0 a_Rd_scanNumber_198 (dko_27 _)
theorem d_Rd_scanNumber_199 : decode b_Rd_scanNumber 199 = .ok (.aload_n 0, 1) := dk_0 a_Rd_scanNumber_199 (dko_42 _)
theorem d_Rd_scanNumber_200 : decode b_Rd_scanNumber 200 = .ok (.getfield 40, 3) := dk_U2 a_Rd_scanNumber_200 (dko_180 _) rfl
theorem d_Rd_scanNumber_203 : decode b_Rd_scanNumber 203 = .ok (.aload_n 0, 1) := dk_0 a_Rd_scanNumber_203 (dko_42 _)
theorem d_Rd_scanNumber_204 : decode b_Rd_scanNumber 204 = .ok (.getfield 53, 3) := dk_U2 a_Rd_scanNumber_204 (dko_180 _) rfl
theorem d_Rd_scanNumber_207 : decode b_Rd_scanNumber 207 = .ok (.invokevirtual 119, 3) := dk_U2 a_Rd_scanNumber_207 (dko_182 _) rfl
theorem d_Rd_scanNumber_210 : decode b_Rd_scanNumber 210 = .ok (.bipush 48, 2) := dk_S1 a_Rd_scanNumber_210 (dko_16 _) (by decide +kernel)
theorem d_Rd_scanNumber_212 : decode b_Rd_scanNumber 212 = .ok (.isub, 1) := dk_0 a_Rd_scanNumber_212 (dko_100 _)
theorem d_Rd_scanNumber_213 : decode b_Rd_scanNumber 213 = .ok (.imul, 1) := dk_0 a_Rd_scanNumber_213 (dko_104 _)
theorem d_Rd_scanNumber_214 : decode b_Rd_scanNumber 214 = .ok (.i2l, 1) := dk_0 a_Rd_scanNumber_214 (dko_133 _)
theorem d_Rd_scanNumber_215 : decode b_Rd_scanNumber 215 = .ok (.ladd, 1) := dk_0 a_Rd_scanNumber_215 (dko_97 _)
theorem d_Rd_scanNumber_216 : decode b_Rd_scanNumber 216 = .ok (.putfield 147, 3) := dk_U2 a_Rd_scanNumber_216 (dko_181 _) rfl
theorem d_Rd_scanNumber_219 : decode b_Rd_scanNumber 219 = .ok (.aload_n 0, 1) := dk_0 a_Rd_scanNumber_219 (dko_42 _)
theorem d_Rd_scanNumber_220 : decode b_Rd_scanNumber 220 = .ok (.dup, 1) := dk_0 a_Rd_scanNumber_220 (dko_89 _)
theorem d_Rd_scanNumber_221 : decode b_Rd_scanNumber 221 = .ok (.getfield 53, 3) := dk_U2 a_Rd_scanNumber_221 (dko_180 _) rfl
theorem d_Rd_scanNumber_224 : decode b_Rd_scanNumber 224 = .ok (.iconst 1, 1) := dk_0 a_Rd_scanNumber_224 (dko_4 _)
theorem d_Rd_scanNumber_225 : decode b_Rd_scanNumber 225 = .ok (.iadd, 1) := dk_0 a_Rd_scanNumber_225 (dko_96 _)
theorem d_Rd_scanNumber_226 : decode b_Rd_scanNumber 226 = .ok (.putfield 53, 3) := dk_U2 a_Rd_scanNumber_226 (dko_181 _) rfl
theorem d_Rd_scanNumber_229 : decode b_Rd_scanNumber 229 = .ok (.iload_n 1, 1) := dk_0 a_Rd_scanNumber_229 (dko_27 _)
theorem d_Rd_scanNumber_230 : decode b_Rd_scanNumber 230 = .ok (.bipush 10, 2) := dk_S1 a_Rd_scanNumber_230 (dko_16 _) (by decide +kernel)
theorem d_Rd_scanNumber_232 : decode b_Rd_scanNumber 232 = .ok (.idiv, 1) := dk_0 a_Rd_scanNumber_232 (dko_108 _)
theorem d_Rd_scanNumber_233 : decode b_Rd_scanNumber 233 = .ok (.istore_n 1, 1) := dk_0 a_Rd_scanNumber_233 (dko_60 _)
theorem d_Rd_scanNumber_234 : decode b_Rd_scanNumber 234 = .ok (.goto (-62), 3) := dk_S2 a_Rd_scanNumber_234 (dko_167 _) (by decide +kernel)
theorem d_Rd_scanNumber_237 : decode b_Rd_scanNumber 237 = .ok (.return_, 1) := dk_0 a_Rd_scanNumber_237 (dko_177 _)
set_option maxHeartbeats 4000000 in
set_option maxRecDepth 100000 in
theorem ok_Rd_scanNumber (pc : Nat) : OpS mt mi_Rd_scanNumber pc (cs_Rd_scanNumber pc) := (os_n (os_n (os_n (os_n (os_n (os_n (os_l (so_aload_n d_Rd_scanNumber_0 rfl)) (os_n (os_l (so_bipush d_Rd_scanNumber_1 (by decide))) (os_l (so_putI (C := R_Rd) (T := F_Rd) (N := 13) (j := 3) in_Rd t_Rd_ok n_Rd rfl (by decide) mw_639 rfl (by decide +kernel) d_Rd_scanNumber_3)))) (os_n (os_n (os_l (so_aload_n d_Rd_scanNumber_6 rfl)) (os_l (so_lconst d_Rd_scanNumber_7 (by decide)))) (os_n (os_l (so_putJ (C := R_Rd) (T := F_Rd) (N := 13) (j := 6) in_Rd t_Rd_ok n_Rd rfl (by decide) mw_642 rfl (by decide +kernel) d_Rd_scanNumber_8)) (os_l (so_iconst d_Rd_scanNumber_11 (by decide)))))) (os_n (os_n (os_n (os_l (so_istore_n d_Rd_scanNumber_12 rfl (by decide))) (os_l (so_iload_n d_Rd_scanNumber_13 rfl))) (os_n (os_l (so_bipush d_Rd_scanNumber_14 (by decide))) (os_l (so_icge d_Rd_scanNumber_16 (by decide))))) (os_n (os_n (os_l (so_aload_n d_Rd_scanNumber_19 rfl)) (os_l (so_get (C := R_Rd) (T := F_Rd) (N := 13) (j := 0) in_Rd rfl (by decide) mw_636 d_Rd_scanNumber_20))) (os_n (os_l (so_aload_n d_Rd_scanNumber_23 rfl)) (os_l (so_get (C := R_Rd) (T := F_Rd) (N := 13) (j := 2) in_Rd rfl (by decide) mw_638 d_Rd_scanNumber_24)))))) (os_n (os_n (os_n (os_l (so_callV (iv := mi_Tp_at) rfl rfl rfl mw_891 mw_754 mw_755 mw_2 mw_756 ⟨by decide +kernel, by decide +kernel, by decide +kernel⟩ (by decide) d_Rd_scanNumber_27)) (os_n (os_l (so_callS (iv := mi_Tp_isDigit) rfl mw_900 mw_778 mw_2 mw_779 ⟨by decide +kernel, by decide +kernel, by decide +kernel⟩ (by decide) d_Rd_scanNumber_30)) (os_l (so_ifeq d_Rd_scanNumber_33 (by decide))))) (os_n (os_n (os_l (so_aload_n d_Rd_scanNumber_36 rfl)) (os_l (so_aload_n d_Rd_scanNumber_37 rfl))) (os_n (os_l (so_get (C := R_Rd) (T := F_Rd) (N := 13) (j := 6) in_Rd rfl (by decide) mw_642 d_Rd_scanNumber_38)) (os_l (so_ldc2 mw_905 d_Rd_scanNumber_41))))) (os_n (os_n (os_n (os_l (so_lmul d_Rd_scanNumber_44)) (os_l (so_aload_n d_Rd_scanNumber_45 rfl))) (os_n (os_l (so_get (C := R_Rd) (T := F_Rd) (N := 13) (j := 0) in_Rd rfl (by decide) mw_636 d_Rd_scanNumber_46)) (os_l (so_aload_n d_Rd_scanNumber_49 rfl)))) (os_n (os_n (os_l (so_get (C := R_Rd) (T := F_Rd) (N := 13) (j := 2) in_Rd rfl (by decide) mw_638 d_Rd_scanNumber_50)) (os_l (so_callV (iv := mi_Tp_at) rfl rfl rfl mw_891 mw_754 mw_755 mw_2 mw_756 ⟨by decide +kernel, by decide +kernel, by decide +kernel⟩ (by decide) d_Rd_scanNumber_53))) (os_n (os_l (so_i2l d_Rd_scanNumber_56)) (os_l (so_ladd d_Rd_scanNumber_57))))))) (os_n (os_n (os_n (os_n (os_l (so_ldc2 mw_906 d_Rd_scanNumber_58)) (os_n (os_l (so_lsub d_Rd_scanNumber_61)) (os_l (so_putJ (C := R_Rd) (T := F_Rd) (N := 13) (j := 6) in_Rd t_Rd_ok n_Rd rfl (by decide) mw_642 rfl (by decide +kernel) d_Rd_scanNumber_62)))) (os_n (os_n (os_l (so_aload_n d_Rd_scanNumber_65 rfl)) (os_l (so_dup d_Rd_scanNumber_66))) (os_n (os_l (so_get (C := R_Rd) (T := F_Rd) (N := 13) (j := 2) in_Rd rfl (by decide) mw_638 d_Rd_scanNumber_67)) (os_l (so_iconst d_Rd_scanNumber_70 (by decide)))))) (os_n (os_n (os_n (os_l (so_iadd d_Rd_scanNumber_71)) (os_l (so_putI (C := R_Rd) (T := F_Rd) (N := 13) (j := 2) in_Rd t_Rd_ok n_Rd rfl (by decide) mw_638 rfl (by decide +kernel) d_Rd_scanNumber_72))) (os_n (os_l (so_iinc d_Rd_scanNumber_75 (by decide) (by decide))) (os_l (so_goto d_Rd_scanNumber_78 (by decide))))) (os_n (os_n (os_l (so_aload_n d_Rd_scanNumber_81 rfl)) (os_l (so_dup d_Rd_scanNumber_82))) (os_n (os_l (so_get (C := R_Rd) (T := F_Rd) (N := 13) (j := 6) in_Rd rfl (by decide) mw_642 d_Rd_scanNumber_83)) (os_l (so_ldc2 mw_907 d_Rd_scanNumber_86)))))) (os_n (os_n (os_n (os_n (os_l (so_lmul d_Rd_scanNumber_89)) (os_l (so_putJ (C := R_Rd) (T := F_Rd) (N := 13) (j := 6) in_Rd t_Rd_ok n_Rd rfl (by decide) mw_642 rfl (by decide +kernel) d_Rd_scanNumber_90))) (os_n (os_l (so_aload_n d_Rd_scanNumber_93 rfl)) (os_l (so_aload_n d_Rd_scanNumber_94 rfl)))) (os_n (os_n (os_l (so_get (C := R_Rd) (T := F_Rd) (N := 13) (j := 0) in_Rd rfl (by decide) mw_636 d_Rd_scanNumber_95)) (os_l (so_aload_n d_Rd_scanNumber_98 rfl))) (os_n (os_l (so_get (C := R_Rd) (T := F_Rd) (N := 13) (j := 2) in_Rd rfl (by decide) mw_638 d_Rd_scanNumber_99)) (os_l (so_callV (iv := mi_Tp_at) rfl rfl rfl mw_891 mw_754 mw_755 mw_2 mw_756 ⟨by decide +kernel, by decide +kernel, by decide +kernel⟩ (by decide) d_Rd_scanNumber_102))))) (os_n (os_n (os_n (os_l (so_bipush d_Rd_scanNumber_105 (by decide))) (os_l (so_icne d_Rd_scanNumber_107 (by decide)))) (os_n (os_l (so_aload_n d_Rd_scanNumber_110 rfl)) (os_l (so_get (C := R_Rd) (T := F_Rd) (N := 13) (j := 0) in_Rd rfl (by decide) mw_636 d_Rd_scanNumber_111)))) (os_n (os_n (os_l (so_aload_n d_Rd_scanNumber_114 rfl)) (os_l (so_get (C := R_Rd) (T := F_Rd) (N := 13) (j := 2) in_Rd rfl (by decide) mw_638 d_Rd_scanNumber_115))) (os_n (os_l (so_iconst d_Rd_scanNumber_118 (by decide))) (os_l (so_iadd d_Rd_scanNumber_119)))))))) (os_n (os_n (os_n (os_n (os_n (os_l (so_callV (iv := mi_Tp_at) rfl rfl rfl mw_891 mw_754 mw_755 mw_2 mw_756 ⟨by decide +kernel, by decide +kernel, by decide +kernel⟩ (by decide) d_Rd_scanNumber_120)) (os_n (os_l (so_callS (iv := mi_Tp_isDigit) rfl mw_900 mw_778 mw_2 mw_779 ⟨by decide +kernel, by decide +kernel, by decide +kernel⟩ (by decide) d_Rd_scanNumber_123)) (os_l (so_ifeq d_Rd_scanNumber_126 (by decide))))) (os_n (os_n (os_l (so_iconst d_Rd_scanNumber_129 (by decide))) (os_l (so_goto d_Rd_scanNumber_130 (by decide)))) (os_n (os_l (so_iconst d_Rd_scanNumber_133 (by decide))) (os_l (so_putZ (C := R_Rd) (T := F_Rd) (N := 13) (j := 7) in_Rd t_Rd_ok n_Rd rfl (by decide) mw_643 rfl (by decide +kernel) d_Rd_scanNumber_134))))) (os_n (os_n (os_n (os_l (so_aload_n d_Rd_scanNumber_137 rfl)) (os_l (so_dup d_Rd_scanNumber_138))) (os_n (os_l (so_get (C := R_Rd) (T := F_Rd) (N := 13) (j := 2) in_Rd rfl (by decide) mw_638 d_Rd_scanNumber_139)) (os_l (so_aload_n d_Rd_scanNumber_142 rfl)))) (os_n (os_n (os_l (so_get (C := R_Rd) (T := F_Rd) (N := 13) (j := 7) in_Rd rfl (by decide) mw_643 d_Rd_scanNumber_143)) (os_l (so_ifeq d_Rd_scanNumber_146 (by decide)))) (os_n (os_l (so_iconst d_Rd_scanNumber_149 (by decide))) (os_l (so_goto d_Rd_scanNumber_150 (by decide))))))) (os_n (os_n (os_n (os_l (so_iconst d_Rd_scanNumber_153 (by decide))) (os_n (os_l (so_iadd d_Rd_scanNumber_154)) (os_l (so_putI (C := R_Rd) (T := F_Rd) (N := 13) (j := 2) in_Rd t_Rd_ok n_Rd rfl (by decide) mw_638 rfl (by decide +kernel) d_Rd_scanNumber_155)))) (os_n (os_n (os_l (so_aload_n d_Rd_scanNumber_158 rfl)) (os_l (so_get (C := R_Rd) (T := F_Rd) (N := 13) (j := 7) in_Rd rfl (by decide) mw_643 d_Rd_scanNumber_159))) (os_n (os_l (so_ifeq d_Rd_scanNumber_162 (by decide))) (os_l (so_bipush d_Rd_scanNumber_165 (by decide)))))) (os_n (os_n (os_n (os_l (so_goto d_Rd_scanNumber_167 (by decide))) (os_l (so_iconst d_Rd_scanNumber_170 (by decide)))) (os_n (os_l (so_istore_n d_Rd_scanNumber_171 rfl (by decide))) (os_l (so_iload_n d_Rd_scanNumber_172 rfl)))) (os_n (os_n (os_l (so_ifle d_Rd_scanNumber_173 (by decide))) (os_l (so_aload_n d_Rd_scanNumber_176 rfl))) (os_n (os_l (so_get (C := R_Rd) (T := F_Rd) (N := 13) (j := 0) in_Rd rfl (by decide) mw_636 d_Rd_scanNumber_177)) (os_l (so_aload_n d_Rd_scanNumber_180 rfl))))))) (os_n (os_n (os_n (os_n (os_l (so_get (C := R_Rd) (T := F_Rd) (N := 13) (j := 2) in_Rd rfl (by decide) mw_638 d_Rd_scanNumber_181)) (os_n (os_l (so_callV (iv := mi_Tp_at) rfl rfl rfl mw_891 mw_754 mw_755 mw_2 mw_756 ⟨by decide +kernel, by decide +kernel, by decide +kernel⟩ (by decide) d_Rd_scanNumber_184)) (os_l (so_callS (iv := mi_Tp_isDigit) rfl mw_900 mw_778 mw_2 mw_779 ⟨by decide +kernel, by decide +kernel, by decide +kernel⟩ (by decide) d_Rd_scanNumber_187)))) (os_n (os_n (os_l (so_ifeq d_Rd_scanNumber_190 (by decide))) (os_l (so_aload_n d_Rd_scanNumber_193 rfl))) (os_n (os_l (so_dup d_Rd_scanNumber_194)) (os_l (so_get (C := R_Rd) (T := F_Rd) (N := 13) (j := 6) in_Rd rfl (by decide) mw_642 d_Rd_scanNumber_195))))) (os_n (os_n (os_n (os_l (so_iload_n d_Rd_scanNumber_198 rfl)) (os_l (so_aload_n d_Rd_scanNumber_199 rfl))) (os_n (os_l (so_get (C := R_Rd) (T := F_Rd) (N := 13) (j := 0) in_Rd rfl (by decide) mw_636 d_Rd_scanNumber_200)) (os_l (so_aload_n d_Rd_scanNumber_203 rfl)))) (os_n (os_n (os_l (so_get (C := R_Rd) (T := F_Rd) (N := 13) (j := 2) in_Rd rfl (by decide) mw_638 d_Rd_scanNumber_204)) (os_l (so_callV (iv := mi_Tp_at) rfl rfl rfl mw_891 mw_754 mw_755 mw_2 mw_756 ⟨by decide +kernel, by decide +kernel, by decide +kernel⟩ (by decide) d_Rd_scanNumber_207))) (os_n (os_l (so_bipush d_Rd_scanNumber_210 (by decide))) (os_l (so_isub d_Rd_scanNumber_212)))))) (os_n (os_n (os_n (os_n (os_l (so_imul d_Rd_scanNumber_213)) (os_l (so_i2l d_Rd_scanNumber_214))) (os_n (os_l (so_ladd d_Rd_scanNumber_215)) (os_l (so_putJ (C := R_Rd) (T := F_Rd) (N := 13) (j := 6) in_Rd t_Rd_ok n_Rd rfl (by decide) mw_642 rfl (by decide +kernel) d_Rd_scanNumber_216)))) (os_n (os_n (os_l (so_aload_n d_Rd_scanNumber_219 rfl)) (os_l (so_dup d_Rd_scanNumber_220))) (os_n (os_l (so_get (C := R_Rd) (T := F_Rd) (N := 13) (j := 2) in_Rd rfl (by decide) mw_638 d_Rd_scanNumber_221)) (os_l (so_iconst d_Rd_scanNumber_224 (by decide)))))) (os_n (os_n (os_n (os_l (so_iadd d_Rd_scanNumber_225)) (os_l (so_putI (C := R_Rd) (T := F_Rd) (N := 13) (j := 2) in_Rd t_Rd_ok n_Rd rfl (by decide) mw_638 rfl (by decide +kernel) d_Rd_scanNumber_226))) (os_n (os_l (so_iload_n d_Rd_scanNumber_229 rfl)) (os_l (so_bipush d_Rd_scanNumber_230 (by decide))))) (os_n (os_n (os_l (so_idiv d_Rd_scanNumber_232)) (os_l (so_istore_n d_Rd_scanNumber_233 rfl (by decide)))) (os_n (os_l (so_goto d_Rd_scanNumber_234 (by decide))) (os_l (so_return rfl d_Rd_scanNumber_237)))))))))
abbrev t_Rd_take_24 : List UInt8 := 177 :: []
abbrev t_Rd_take_21 : List UInt8 := 182 :: 0 :: 63 :: t_Rd_take_24
abbrev t_Rd_take_20 : List UInt8 := 42 :: t_Rd_take_21
abbrev t_Rd_take_19 : List UInt8 := 177 :: t_Rd_take_20
abbrev t_Rd_take_16 : List UInt8 := 182 :: 0 :: 108 :: t_Rd_take_19
abbrev t_Rd_take_15 : List UInt8 := 42 :: t_Rd_take_16
abbrev t_Rd_take_12 : List UInt8 := 159 :: 0 :: 8 :: t_Rd_take_15
abbrev t_Rd_take_11 : List UInt8 := 27 :: t_Rd_take_12
abbrev t_Rd_take_8 : List UInt8 := 180 :: 0 :: 66 :: t_Rd_take_11
abbrev t_Rd_take_7 : List UInt8 := 42 :: t_Rd_take_8
abbrev t_Rd_take_4 : List UInt8 := 156 :: 0 :: 11 :: t_Rd_take_7
abbrev t_Rd_take_1 : List UInt8 := 180 :: 0 :: 60 :: t_Rd_take_4
abbrev t_Rd_take_0 : List UInt8 := 42 :: t_Rd_take_1
theorem a_Rd_take_0 : dk_at b_Rd_take 0 t_Rd_take_0 := dk_start (by decide +kernel)
theorem a_Rd_take_1 : dk_at b_Rd_take 1 t_Rd_take_1 := dk_go 1 a_Rd_take_0 rfl
theorem a_Rd_take_4 : dk_at b_Rd_take 4 t_Rd_take_4 := dk_go 3 a_Rd_take_1 rfl
theorem a_Rd_take_7 : dk_at b_Rd_take 7 t_Rd_take_7 := dk_go 3 a_Rd_take_4 rfl
theorem a_Rd_take_8 : dk_at b_Rd_take 8 t_Rd_take_8 := dk_go 1 a_Rd_take_7 rfl
theorem a_Rd_take_11 : dk_at b_Rd_take 11 t_Rd_take_11 := dk_go 3 a_Rd_take_8 rfl
theorem a_Rd_take_12 : dk_at b_Rd_take 12 t_Rd_take_12 := dk_go 1 a_Rd_take_11 rfl
theorem a_Rd_take_15 : dk_at b_Rd_take 15 t_Rd_take_15 := dk_go 3 a_Rd_take_12 rfl
theorem a_Rd_take_16 : dk_at b_Rd_take 16 t_Rd_take_16 := dk_go 1 a_Rd_take_15 rfl
theorem a_Rd_take_19 : dk_at b_Rd_take 19 t_Rd_take_19 := dk_go 3 a_Rd_take_16 rfl
theorem a_Rd_take_20 : dk_at b_Rd_take 20 t_Rd_take_20 := dk_go 1 a_Rd_take_19 rfl
theorem a_Rd_take_21 : dk_at b_Rd_take 21 t_Rd_take_21 := dk_go 1 a_Rd_take_20 rfl
theorem a_Rd_take_24 : dk_at b_Rd_take 24 t_Rd_take_24 := dk_go 3 a_Rd_take_21 rfl
theorem d_Rd_take_0 : decode b_Rd_take 0 = .ok (.aload_n 0, 1) := dk_0 a_Rd_take_0 (dko_42 _)
theorem d_Rd_take_1 : decode b_Rd_take 1 = .ok (.getfield 60, 3) := dk_U2 a_Rd_take_1 (dko_180 _) rfl
theorem d_Rd_take_4 : decode b_Rd_take 4 = .ok (.ifCond .ge 11, 3) := dk_S2 a_Rd_take_4 (dko_156 _) (by decide +kernel)
theorem d_Rd_take_7 : decode b_Rd_take 7 = .ok (.aload_n 0, 1) := dk_0 a_Rd_take_7 (dko_42 _)
theorem d_Rd_take_8 : decode b_Rd_take 8 = .ok (.getfield 66, 3) := dk_U2 a_Rd_take_8 (dko_180 _) rfl
theorem d_Rd_take_11 : decode b_Rd_take 11 = .ok (.iload_n 1, 1) := dk_0 a_Rd_take_11 (dko_27 _)
theorem d_Rd_take_12 : decode b_Rd_take 12 = .ok (.if_icmp .eq 8, 3) := dk_S2 a_Rd_take_12 (dko_159 _) (by decide +kernel)
theorem d_Rd_take_15 : decode b_Rd_take 15 = .ok (.aload_n 0, 1) := dk_0 a_Rd_take_15 (dko_42 _)
theorem d_Rd_take_16 : decode b_Rd_take 16 = .ok (.invokevirtual 108, 3) := dk_U2 a_Rd_take_16 (dko_182 _) rfl
theorem d_Rd_take_19 : decode b_Rd_take 19 = .ok (.return_, 1) := dk_0 a_Rd_take_19 (dko_177 _)
theorem d_Rd_take_20 : decode b_Rd_take 20 = .ok (.aload_n 0, 1) := dk_0 a_Rd_take_20 (dko_42 _)
theorem d_Rd_take_21 : decode b_Rd_take 21 = .ok (.invokevirtual 63, 3) := dk_U2 a_Rd_take_21 (dko_182 _) rfl
theorem d_Rd_take_24 : decode b_Rd_take 24 = .ok (.return_, 1) := dk_0 a_Rd_take_24 (dko_177 _)
set_option maxHeartbeats 4000000 in
set_option maxRecDepth 100000 in
theorem ok_Rd_take (pc : Nat) : OpS mt mi_Rd_take pc (cs_Rd_take pc) := (os_n (os_n (os_n (os_l (so_aload_n d_Rd_take_0 rfl)) (os_n (os_l (so_get (C := R_Rd) (T := F_Rd) (N := 13) (j := 9) in_Rd rfl (by decide) mw_645 d_Rd_take_1)) (os_l (so_ifge d_Rd_take_4 (by decide))))) (os_n (os_l (so_aload_n d_Rd_take_7 rfl)) (os_n (os_l (so_get (C := R_Rd) (T := F_Rd) (N := 13) (j := 3) in_Rd rfl (by decide) mw_639 d_Rd_take_8)) (os_l (so_iload_n d_Rd_take_11 rfl))))) (os_n (os_n (os_l (so_iceq d_Rd_take_12 (by decide))) (os_n (os_l (so_aload_n d_Rd_take_15 rfl)) (os_l (so_callV (iv := mi_Rd_fail) rfl rfl rfl mw_915 mw_917 sl_24 mw_13 mw_918 ⟨by decide +kernel, by decide +kernel, by decide +kernel⟩ (by decide) d_Rd_take_16)))) (os_n (os_n (os_l (so_return rfl d_Rd_take_19)) (os_l (so_aload_n d_Rd_take_20 rfl))) (os_n (os_l (so_callV (iv := mi_Rd_nextWord) rfl rfl rfl mw_887 mw_889 sl_20 mw_13 mw_890 ⟨by decide +kernel, by decide +kernel, by decide +kernel⟩ (by decide) d_Rd_take_21)) (os_l (so_return rfl d_Rd_take_24))))))
abbrev t_Rd_makeNode_110 : List UInt8 := 172 :: []
abbrev t_Rd_makeNode_109 : List UInt8 := 29 :: t_Rd_makeNode_110
abbrev t_Rd_makeNode_106 : List UInt8 := 182 :: 0 :: 108 :: t_Rd_makeNode_109
abbrev t_Rd_makeNode_105 : List UInt8 := 42 :: t_Rd_makeNode_106
abbrev t_Rd_makeNode_102 : List UInt8 := 160 :: 0 :: 7 :: t_Rd_makeNode_105
abbrev t_Rd_makeNode_99 : List UInt8 := 17 :: 1 :: 44 :: t_Rd_makeNode_102
abbrev t_Rd_makeNode_98 : List UInt8 := 29 :: t_Rd_makeNode_99
abbrev t_Rd_makeNode_95 : List UInt8 := 181 :: 0 :: 160 :: t_Rd_makeNode_98
abbrev t_Rd_makeNode_94 : List UInt8 := 96 :: t_Rd_makeNode_95
abbrev t_Rd_makeNode_93 : List UInt8 := 4 :: t_Rd_makeNode_94
abbrev t_Rd_makeNode_92 : List UInt8 := 29 :: t_Rd_makeNode_93
abbrev t_Rd_makeNode_89 : List UInt8 := 180 :: 0 :: 44 :: t_Rd_makeNode_92
abbrev t_Rd_makeNode_88 : List UInt8 := 42 :: t_Rd_makeNode_89
abbrev t_Rd_makeNode_87 : List UInt8 := 79 :: t_Rd_makeNode_88
abbrev t_Rd_makeNode_86 : List UInt8 := 3 :: t_Rd_makeNode_87
abbrev t_Rd_makeNode_85 : List UInt8 := 29 :: t_Rd_makeNode_86
abbrev t_Rd_makeNode_82 : List UInt8 := 180 :: 0 :: 15 :: t_Rd_makeNode_85
abbrev t_Rd_makeNode_81 : List UInt8 := 42 :: t_Rd_makeNode_82
abbrev t_Rd_makeNode_80 : List UInt8 := 79 :: t_Rd_makeNode_81
abbrev t_Rd_makeNode_79 : List UInt8 := 4 :: t_Rd_makeNode_80
abbrev t_Rd_makeNode_78 : List UInt8 := 29 :: t_Rd_makeNode_79
abbrev t_Rd_makeNode_75 : List UInt8 := 180 :: 0 :: 9 :: t_Rd_makeNode_78
abbrev t_Rd_makeNode_74 : List UInt8 := 42 :: t_Rd_makeNode_75
abbrev t_Rd_makeNode_73 : List UInt8 := 79 :: t_Rd_makeNode_74
abbrev t_Rd_makeNode_72 : List UInt8 := 2 :: t_Rd_makeNode_73
abbrev t_Rd_makeNode_71 : List UInt8 := 29 :: t_Rd_makeNode_72
abbrev t_Rd_makeNode_68 : List UInt8 := 180 :: 0 :: 105 :: t_Rd_makeNode_71
abbrev t_Rd_makeNode_65 : List UInt8 := 180 :: 0 :: 44 :: t_Rd_makeNode_68
abbrev t_Rd_makeNode_64 : List UInt8 := 42 :: t_Rd_makeNode_65
abbrev t_Rd_makeNode_63 : List UInt8 := 79 :: t_Rd_makeNode_64
abbrev t_Rd_makeNode_62 : List UInt8 := 2 :: t_Rd_makeNode_63
abbrev t_Rd_makeNode_61 : List UInt8 := 29 :: t_Rd_makeNode_62
abbrev t_Rd_makeNode_58 : List UInt8 := 180 :: 0 :: 175 :: t_Rd_makeNode_61
abbrev t_Rd_makeNode_55 : List UInt8 := 180 :: 0 :: 44 :: t_Rd_makeNode_58
abbrev t_Rd_makeNode_54 : List UInt8 := 42 :: t_Rd_makeNode_55
abbrev t_Rd_makeNode_53 : List UInt8 := 79 :: t_Rd_makeNode_54
abbrev t_Rd_makeNode_52 : List UInt8 := 29 :: t_Rd_makeNode_53
abbrev t_Rd_makeNode_51 : List UInt8 := 29 :: t_Rd_makeNode_52
abbrev t_Rd_makeNode_48 : List UInt8 := 180 :: 0 :: 172 :: t_Rd_makeNode_51
abbrev t_Rd_makeNode_45 : List UInt8 := 180 :: 0 :: 44 :: t_Rd_makeNode_48
abbrev t_Rd_makeNode_44 : List UInt8 := 42 :: t_Rd_makeNode_45
abbrev t_Rd_makeNode_43 : List UInt8 := 79 :: t_Rd_makeNode_44
abbrev t_Rd_makeNode_42 : List UInt8 := 29 :: t_Rd_makeNode_43
abbrev t_Rd_makeNode_41 : List UInt8 := 29 :: t_Rd_makeNode_42
abbrev t_Rd_makeNode_38 : List UInt8 := 180 :: 0 :: 169 :: t_Rd_makeNode_41
abbrev t_Rd_makeNode_35 : List UInt8 := 180 :: 0 :: 44 :: t_Rd_makeNode_38
abbrev t_Rd_makeNode_34 : List UInt8 := 42 :: t_Rd_makeNode_35
abbrev t_Rd_makeNode_33 : List UInt8 := 79 :: t_Rd_makeNode_34
abbrev t_Rd_makeNode_32 : List UInt8 := 28 :: t_Rd_makeNode_33
abbrev t_Rd_makeNode_31 : List UInt8 := 29 :: t_Rd_makeNode_32
abbrev t_Rd_makeNode_28 : List UInt8 := 180 :: 0 :: 166 :: t_Rd_makeNode_31
abbrev t_Rd_makeNode_25 : List UInt8 := 180 :: 0 :: 44 :: t_Rd_makeNode_28
abbrev t_Rd_makeNode_24 : List UInt8 := 42 :: t_Rd_makeNode_25
abbrev t_Rd_makeNode_23 : List UInt8 := 79 :: t_Rd_makeNode_24
abbrev t_Rd_makeNode_22 : List UInt8 := 27 :: t_Rd_makeNode_23
abbrev t_Rd_makeNode_21 : List UInt8 := 29 :: t_Rd_makeNode_22
abbrev t_Rd_makeNode_18 : List UInt8 := 180 :: 0 :: 163 :: t_Rd_makeNode_21
abbrev t_Rd_makeNode_15 : List UInt8 := 180 :: 0 :: 44 :: t_Rd_makeNode_18
abbrev t_Rd_makeNode_14 : List UInt8 := 42 :: t_Rd_makeNode_15
abbrev t_Rd_makeNode_13 : List UInt8 := 62 :: t_Rd_makeNode_14
abbrev t_Rd_makeNode_10 : List UInt8 := 184 :: 0 :: 94 :: t_Rd_makeNode_13
abbrev t_Rd_makeNode_7 : List UInt8 := 17 :: 1 :: 44 :: t_Rd_makeNode_10
abbrev t_Rd_makeNode_4 : List UInt8 := 180 :: 0 :: 160 :: t_Rd_makeNode_7
abbrev t_Rd_makeNode_1 : List UInt8 := 180 :: 0 :: 44 :: t_Rd_makeNode_4
abbrev t_Rd_makeNode_0 : List UInt8 := 42 :: t_Rd_makeNode_1
theorem a_Rd_makeNode_0 : dk_at b_Rd_makeNode 0 t_Rd_makeNode_0 := dk_start (by decide +kernel)
theorem a_Rd_makeNode_1 : dk_at b_Rd_makeNode 1 t_Rd_makeNode_1 := dk_go 1 a_Rd_makeNode_0 rfl
theorem a_Rd_makeNode_4 : dk_at b_Rd_makeNode 4 t_Rd_makeNode_4 := dk_go 3 a_Rd_makeNode_1 rfl
theorem a_Rd_makeNode_7 : dk_at b_Rd_makeNode 7 t_Rd_makeNode_7 := dk_go 3 a_Rd_makeNode_4 rfl
theorem a_Rd_makeNode_10 : dk_at b_Rd_makeNode 10 t_Rd_makeNode_10 := dk_go 3 a_Rd_makeNode_7 rfl
theorem a_Rd_makeNode_13 : dk_at b_Rd_makeNode 13 t_Rd_makeNode_13 := dk_go 3 a_Rd_makeNode_10 rfl
theorem a_Rd_makeNode_14 : dk_at b_Rd_makeNode 14 t_Rd_makeNode_14 := dk_go 1 a_Rd_makeNode_13 rfl
theorem a_Rd_makeNode_15 : dk_at b_Rd_makeNode 15 t_Rd_makeNode_15 := dk_go 1 a_Rd_makeNode_14 rfl
theorem a_Rd_makeNode_18 : dk_at b_Rd_makeNode 18 t_Rd_makeNode_18 := dk_go 3 a_Rd_makeNode_15 rfl
theorem a_Rd_makeNode_21 : dk_at b_Rd_makeNode 21 t_Rd_makeNode_21 := dk_go 3 a_Rd_makeNode_18 rfl
theorem a_Rd_makeNode_22 : dk_at b_Rd_makeNode 22 t_Rd_makeNode_22 := dk_go 1 a_Rd_makeNode_21 rfl
theorem a_Rd_makeNode_23 : dk_at b_Rd_makeNode 23 t_Rd_makeNode_23 := dk_go 1 a_Rd_makeNode_22 rfl
theorem a_Rd_makeNode_24 : dk_at b_Rd_makeNode 24 t_Rd_makeNode_24 := dk_go 1 a_Rd_makeNode_23 rfl
theorem a_Rd_makeNode_25 : dk_at b_Rd_makeNode 25 t_Rd_makeNode_25 := dk_go 1 a_Rd_makeNode_24 rfl
theorem a_Rd_makeNode_28 : dk_at b_Rd_makeNode 28 t_Rd_makeNode_28 := dk_go 3 a_Rd_makeNode_25 rfl
theorem a_Rd_makeNode_31 : dk_at b_Rd_makeNode 31 t_Rd_makeNode_31 := dk_go 3 a_Rd_makeNode_28 rfl
theorem a_Rd_makeNode_32 : dk_at b_Rd_makeNode 32 t_Rd_makeNode_32 := dk_go 1 a_Rd_makeNode_31 rfl
theorem a_Rd_makeNode_33 : dk_at b_Rd_makeNode 33 t_Rd_makeNode_33 := dk_go 1 a_Rd_makeNode_32 rfl
theorem a_Rd_makeNode_34 : dk_at b_Rd_makeNode 34 t_Rd_makeNode_34 := dk_go 1 a_Rd_makeNode_33 rfl
theorem a_Rd_makeNode_35 : dk_at b_Rd_makeNode 35 t_Rd_makeNode_35 := dk_go 1 a_Rd_makeNode_34 rfl
theorem a_Rd_makeNode_38 : dk_at b_Rd_makeNode 38 t_Rd_makeNode_38 := dk_go 3 a_Rd_makeNode_35 rfl
theorem a_Rd_makeNode_41 : dk_at b_Rd_makeNode 41 t_Rd_makeNode_41 := dk_go 3 a_Rd_makeNode_38 rfl
theorem a_Rd_makeNode_42 : dk_at b_Rd_makeNode 42 t_Rd_makeNode_42 := dk_go 1 a_Rd_makeNode_41 rfl
theorem a_Rd_makeNode_43 : dk_at b_Rd_makeNode 43 t_Rd_makeNode_43 := dk_go 1 a_Rd_makeNode_42 rfl
theorem a_Rd_makeNode_44 : dk_at b_Rd_makeNode 44 t_Rd_makeNode_44 := dk_go 1 a_Rd_makeNode_43 rfl
theorem a_Rd_makeNode_45 : dk_at b_Rd_makeNode 45 t_Rd_makeNode_45 := dk_go 1 a_Rd_makeNode_44 rfl
theorem a_Rd_makeNode_48 : dk_at b_Rd_makeNode 48 t_Rd_makeNode_48 := dk_go 3 a_Rd_makeNode_45 rfl
theorem a_Rd_makeNode_51 : dk_at b_Rd_makeNode 51 t_Rd_makeNode_51 := dk_go 3 a_Rd_makeNode_48 rfl
theorem a_Rd_makeNode_52 : dk_at b_Rd_makeNode 52 t_Rd_makeNode_52 := dk_go 1 a_Rd_makeNode_51 rfl
theorem a_Rd_makeNode_53 : dk_at b_Rd_makeNode 53 t_Rd_makeNode_53 := dk_go 1 a_Rd_makeNode_52 rfl
theorem a_Rd_makeNode_54 : dk_at b_Rd_makeNode 54 t_Rd_makeNode_54 := dk_go 1 a_Rd_makeNode_53 rfl
theorem a_Rd_makeNode_55 : dk_at b_Rd_makeNode 55 t_Rd_makeNode_55 := dk_go 1 a_Rd_makeNode_54 rfl
theorem a_Rd_makeNode_58 : dk_at b_Rd_makeNode 58 t_Rd_makeNode_58 := dk_go 3 a_Rd_makeNode_55 rfl
theorem a_Rd_makeNode_61 : dk_at b_Rd_makeNode 61 t_Rd_makeNode_61 := dk_go 3 a_Rd_makeNode_58 rfl
theorem a_Rd_makeNode_62 : dk_at b_Rd_makeNode 62 t_Rd_makeNode_62 := dk_go 1 a_Rd_makeNode_61 rfl
theorem a_Rd_makeNode_63 : dk_at b_Rd_makeNode 63 t_Rd_makeNode_63 := dk_go 1 a_Rd_makeNode_62 rfl
theorem a_Rd_makeNode_64 : dk_at b_Rd_makeNode 64 t_Rd_makeNode_64 := dk_go 1 a_Rd_makeNode_63 rfl
theorem a_Rd_makeNode_65 : dk_at b_Rd_makeNode 65 t_Rd_makeNode_65 := dk_go 1 a_Rd_makeNode_64 rfl
theorem a_Rd_makeNode_68 : dk_at b_Rd_makeNode 68 t_Rd_makeNode_68 := dk_go 3 a_Rd_makeNode_65 rfl
theorem a_Rd_makeNode_71 : dk_at b_Rd_makeNode 71 t_Rd_makeNode_71 := dk_go 3 a_Rd_makeNode_68 rfl
theorem a_Rd_makeNode_72 : dk_at b_Rd_makeNode 72 t_Rd_makeNode_72 := dk_go 1 a_Rd_makeNode_71 rfl
theorem a_Rd_makeNode_73 : dk_at b_Rd_makeNode 73 t_Rd_makeNode_73 := dk_go 1 a_Rd_makeNode_72 rfl
theorem a_Rd_makeNode_74 : dk_at b_Rd_makeNode 74 t_Rd_makeNode_74 := dk_go 1 a_Rd_makeNode_73 rfl
theorem a_Rd_makeNode_75 : dk_at b_Rd_makeNode 75 t_Rd_makeNode_75 := dk_go 1 a_Rd_makeNode_74 rfl
theorem a_Rd_makeNode_78 : dk_at b_Rd_makeNode 78 t_Rd_makeNode_78 := dk_go 3 a_Rd_makeNode_75 rfl
theorem a_Rd_makeNode_79 : dk_at b_Rd_makeNode 79 t_Rd_makeNode_79 := dk_go 1 a_Rd_makeNode_78 rfl
theorem a_Rd_makeNode_80 : dk_at b_Rd_makeNode 80 t_Rd_makeNode_80 := dk_go 1 a_Rd_makeNode_79 rfl
theorem a_Rd_makeNode_81 : dk_at b_Rd_makeNode 81 t_Rd_makeNode_81 := dk_go 1 a_Rd_makeNode_80 rfl
theorem a_Rd_makeNode_82 : dk_at b_Rd_makeNode 82 t_Rd_makeNode_82 := dk_go 1 a_Rd_makeNode_81 rfl
theorem a_Rd_makeNode_85 : dk_at b_Rd_makeNode 85 t_Rd_makeNode_85 := dk_go 3 a_Rd_makeNode_82 rfl
theorem a_Rd_makeNode_86 : dk_at b_Rd_makeNode 86 t_Rd_makeNode_86 := dk_go 1 a_Rd_makeNode_85 rfl
theorem a_Rd_makeNode_87 : dk_at b_Rd_makeNode 87 t_Rd_makeNode_87 := dk_go 1 a_Rd_makeNode_86 rfl
theorem a_Rd_makeNode_88 : dk_at b_Rd_makeNode 88 t_Rd_makeNode_88 := dk_go 1 a_Rd_makeNode_87 rfl
theorem a_Rd_makeNode_89 : dk_at b_Rd_makeNode 89 t_Rd_makeNode_89 := dk_go 1 a_Rd_makeNode_88 rfl
theorem a_Rd_makeNode_92 : dk_at b_Rd_makeNode 92 t_Rd_makeNode_92 := dk_go 3 a_Rd_makeNode_89 rfl
theorem a_Rd_makeNode_93 : dk_at b_Rd_makeNode 93 t_Rd_makeNode_93 := dk_go 1 a_Rd_makeNode_92 rfl
theorem a_Rd_makeNode_94 : dk_at b_Rd_makeNode 94 t_Rd_makeNode_94 := dk_go 1 a_Rd_makeNode_93 rfl
theorem a_Rd_makeNode_95 : dk_at b_Rd_makeNode 95 t_Rd_makeNode_95 := dk_go 1 a_Rd_makeNode_94 rfl
theorem a_Rd_makeNode_98 : dk_at b_Rd_makeNode 98 t_Rd_makeNode_98 := dk_go 3 a_Rd_makeNode_95 rfl
theorem a_Rd_makeNode_99 : dk_at b_Rd_makeNode 99 t_Rd_makeNode_99 := dk_go 1 a_Rd_makeNode_98 rfl
theorem a_Rd_makeNode_102 : dk_at b_Rd_makeNode 102 t_Rd_makeNode_102 := dk_go 3 a_Rd_makeNode_99 rfl
theorem a_Rd_makeNode_105 : dk_at b_Rd_makeNode 105 t_Rd_makeNode_105 := dk_go 3 a_Rd_makeNode_102 rfl
theorem a_Rd_makeNode_106 : dk_at b_Rd_makeNode 106 t_Rd_makeNode_106 := dk_go 1 a_Rd_makeNode_105 rfl
theorem a_Rd_makeNode_109 : dk_at b_Rd_makeNode 109 t_Rd_makeNode_109 := dk_go 3 a_Rd_makeNode_106 rfl
theorem a_Rd_makeNode_110 : dk_at b_Rd_makeNode 110 t_Rd_makeNode_110 := dk_go 1 a_Rd_makeNode_109 rfl
theorem d_Rd_makeNode_0 : decode b_Rd_makeNode 0 = .ok (.aload_n 0, 1) := dk_0 a_Rd_makeNode_0 (dko_42 _)
theorem d_Rd_makeNode_1 : decode b_Rd_makeNode 1 = .ok (.getfield 44, 3) := dk_U2 a_Rd_makeNode_1 (dko_180 _) rfl
theorem d_Rd_makeNode_4 : decode b_Rd_makeNode 4 = .ok (.getfield 160, 3) := dk_U2 a_Rd_makeNode_4 (dko_180 _) rfl
theorem d_Rd_makeNode_7 : decode b_Rd_makeNode 7 = .ok (.sipush 300, 3) := dk_S2 a_Rd_makeNode_7 (dko_17 _) (by decide +kernel)
theorem d_Rd_makeNode_10 : decode b_Rd_makeNode 10 = .ok (.invokestatic 94, 3) := dk_U2 a_Rd_makeNode_10 (dko_184 _) rfl
theorem d_Rd_makeNode_13 : decode b_Rd_makeNode 13 = .ok (.istore_n 3, 1) := dk_0 a_Rd_makeNode_13 (dko_62 _)
theorem d_Rd_makeNode_14 : decode b_Rd_makeNode 14 = .ok (.aload_n 0, 1) := dk_0 a_Rd_makeNode_14 (dko_42 _)
theorem d_Rd_makeNode_15 : decode b_Rd_makeNode 15 = .ok (.getfield 44, 3) := dk_U2 a_Rd_makeNode_15 (dko_180 _) rfl
theorem d_Rd_makeNode_18 : decode b_Rd_makeNode 18 = .ok (.getfield 163, 3) := dk_U2 a_Rd_makeNode_18 (dko_180 _) rfl
theorem d_Rd_makeNode_21 : decode b_Rd_makeNode 21 = .ok (.iload_n 3, 1) := dk_0 a_Rd_makeNode_21 (dko_29 _)
theorem d_Rd_makeNode_22 : decode b_Rd_makeNode 22 = .ok (.iload_n 1, 1) := dk_0 a_Rd_makeNode_22 (dko_27 _)
theorem d_Rd_makeNode_23 : decode b_Rd_makeNode 23 = .ok (.iastore, 1) := dk_0 a_Rd_makeNode_23 (dko_79 _)
theorem d_Rd_makeNode_24 : decode b_Rd_makeNode 24 = .ok (.aload_n 0, 1) := dk_0 a_Rd_makeNode_24 (dko_42 _)
theorem d_Rd_makeNode_25 : decode b_Rd_makeNode 25 = .ok (.getfield 44, 3) := dk_U2 a_Rd_makeNode_25 (dko_180 _) rfl
theorem d_Rd_makeNode_28 : decode b_Rd_makeNode 28 = .ok (.getfield 166, 3) := dk_U2 a_Rd_makeNode_28 (dko_180 _) rfl
theorem d_Rd_makeNode_31 : decode b_Rd_makeNode 31 = .ok (.iload_n 3, 1) := dk_0 a_Rd_makeNode_31 (dko_29 _)
theorem d_Rd_makeNode_32 : decode b_Rd_makeNode 32 = .ok (.iload_n 2, 1) := dk_0 a_Rd_makeNode_32 (dko_28 _)
theorem d_Rd_makeNode_33 : decode b_Rd_makeNode 33 = .ok (.iastore, 1) := dk_0 a_Rd_makeNode_33 (dko_79 _)
theorem d_Rd_makeNode_34 : decode b_Rd_makeNode 34 = .ok (.aload_n 0, 1) := dk_0 a_Rd_makeNode_34 (dko_42 _)
theorem d_Rd_makeNode_35 : decode b_Rd_makeNode 35 = .ok (.getfield 44, 3) := dk_U2 a_Rd_makeNode_35 (dko_180 _) rfl
theorem d_Rd_makeNode_38 : decode b_Rd_makeNode 38 = .ok (.getfield 169, 3) := dk_U2 a_Rd_makeNode_38 (dko_180 _) rfl
theorem d_Rd_makeNode_41 : decode b_Rd_makeNode 41 = .ok (.iload_n 3, 1) := dk_0 a_Rd_makeNode_41 (dko_29 _)
theorem d_Rd_makeNode_42 : decode b_Rd_makeNode 42 = .ok (.iload_n 3, 1) := dk_0 a_Rd_makeNode_42 (dko_29 _)
theorem d_Rd_makeNode_43 : decode b_Rd_makeNode 43 = .ok (.iastore, 1) := dk_0 a_Rd_makeNode_43 (dko_79 _)
theorem d_Rd_makeNode_44 : decode b_Rd_makeNode 44 = .ok (.aload_n 0, 1) := dk_0 a_Rd_makeNode_44 (dko_42 _)
theorem d_Rd_makeNode_45 : decode b_Rd_makeNode 45 = .ok (.getfield 44, 3) := dk_U2 a_Rd_makeNode_45 (dko_180 _) rfl
theorem d_Rd_makeNode_48 : decode b_Rd_makeNode 48 = .ok (.getfield 172, 3) := dk_U2 a_Rd_makeNode_48 (dko_180 _) rfl
theorem d_Rd_makeNode_51 : decode b_Rd_makeNode 51 = .ok (.iload_n 3, 1) := dk_0 a_Rd_makeNode_51 (dko_29 _)
theorem d_Rd_makeNode_52 : decode b_Rd_makeNode 52 = .ok (.iload_n 3, 1) := dk_0 a_Rd_makeNode_52 (dko_29 _)
theorem d_Rd_makeNode_53 : decode b_Rd_makeNode 53 = .ok (.iastore, 1) := dk_0 a_Rd_makeNode_53 (dko_79 _)
theorem d_Rd_makeNode_54 : decode b_Rd_makeNode 54 = .ok (.aload_n 0, 1) := dk_0 a_Rd_makeNode_54 (dko_42 _)
theorem d_Rd_makeNode_55 : decode b_Rd_makeNode 55 = .ok (.getfield 44, 3) := dk_U2 a_Rd_makeNode_55 (dko_180 _) rfl
theorem d_Rd_makeNode_58 : decode b_Rd_makeNode 58 = .ok (.getfield 175, 3) := dk_U2 a_Rd_makeNode_58 (dko_180 _) rfl
theorem d_Rd_makeNode_61 : decode b_Rd_makeNode 61 = .ok (.iload_n 3, 1) := dk_0 a_Rd_makeNode_61 (dko_29 _)
theorem d_Rd_makeNode_62 : decode b_Rd_makeNode 62 = .ok (.iconst (-1), 1) := dk_0 a_Rd_makeNode_62 (dko_2 _)
theorem d_Rd_makeNode_63 : decode b_Rd_makeNode 63 = .ok (.iastore, 1) := dk_0 a_Rd_makeNode_63 (dko_79 _)
theorem d_Rd_makeNode_64 : decode b_Rd_makeNode 64 = .ok (.aload_n 0, 1) := dk_0 a_Rd_makeNode_64 (dko_42 _)
theorem d_Rd_makeNode_65 : decode b_Rd_makeNode 65 = .ok (.getfield 44, 3) := dk_U2 a_Rd_makeNode_65 (dko_180 _) rfl
theorem d_Rd_makeNode_68 : decode b_Rd_makeNode 68 = .ok (.getfield 105, 3) := dk_U2 a_Rd_makeNode_68 (dko_180 _) rfl
theorem d_Rd_makeNode_71 : decode b_Rd_makeNode 71 = .ok (.iload_n 3, 1) := dk_0 a_Rd_makeNode_71 (dko_29 _)
theorem d_Rd_makeNode_72 : decode b_Rd_makeNode 72 = .ok (.iconst (-1), 1) := dk_0 a_Rd_makeNode_72 (dko_2 _)
theorem d_Rd_makeNode_73 : decode b_Rd_makeNode 73 = .ok (.iastore, 1) := dk_0 a_Rd_makeNode_73 (dko_79 _)
theorem d_Rd_makeNode_74 : decode b_Rd_makeNode 74 = .ok (.aload_n 0, 1) := dk_0 a_Rd_makeNode_74 (dko_42 _)
theorem d_Rd_makeNode_75 : decode b_Rd_makeNode 75 = .ok (.getfield 9, 3) := dk_U2 a_Rd_makeNode_75 (dko_180 _) rfl
theorem d_Rd_makeNode_78 : decode b_Rd_makeNode 78 = .ok (.iload_n 3, 1) := dk_0 a_Rd_makeNode_78 (dko_29 _)
theorem d_Rd_makeNode_79 : decode b_Rd_makeNode 79 = .ok (.iconst 1, 1) := dk_0 a_Rd_makeNode_79 (dko_4 _)
theorem d_Rd_makeNode_80 : decode b_Rd_makeNode 80 = .ok (.iastore, 1) := dk_0 a_Rd_makeNode_80 (dko_79 _)
theorem d_Rd_makeNode_81 : decode b_Rd_makeNode 81 = .ok (.aload_n 0, 1) := dk_0 a_Rd_makeNode_81 (dko_42 _)
theorem d_Rd_makeNode_82 : decode b_Rd_makeNode 82 = .ok (.getfield 15, 3) := dk_U2 a_Rd_makeNode_82 (dko_180 _) rfl
theorem d_Rd_makeNode_85 : decode b_Rd_makeNode 85 = .ok (.iload_n 3, 1) := dk_0 a_Rd_makeNode_85 (dko_29 _)
theorem d_Rd_makeNode_86 : decode b_Rd_makeNode 86 = .ok (.iconst 0, 1) := dk_0 a_Rd_makeNode_86 (dko_3 _)
theorem d_Rd_makeNode_87 : decode b_Rd_makeNode 87 = .ok (.iastore, 1) := dk_0 a_Rd_makeNode_87 (dko_79 _)
theorem d_Rd_makeNode_88 : decode b_Rd_makeNode 88 = .ok (.aload_n 0, 1) := dk_0 a_Rd_makeNode_88 (dko_42 _)
theorem d_Rd_makeNode_89 : decode b_Rd_makeNode 89 = .ok (.getfield 44, 3) := dk_U2 a_Rd_makeNode_89 (dko_180 _) rfl
theorem d_Rd_makeNode_92 : decode b_Rd_makeNode 92 = .ok (.iload_n 3, 1) := dk_0 a_Rd_makeNode_92 (dko_29 _)
theorem d_Rd_makeNode_93 : decode b_Rd_makeNode 93 = .ok (.iconst 1, 1) := dk_0 a_Rd_makeNode_93 (dko_4 _)
theorem d_Rd_makeNode_94 : decode b_Rd_makeNode 94 = .ok (.iadd, 1) := dk_0 a_Rd_makeNode_94 (dko_96 _)
theorem d_Rd_makeNode_95 : decode b_Rd_makeNode 95 = .ok (.putfield 160, 3) := dk_U2 a_Rd_makeNode_95 (dko_181 _) rfl
theorem d_Rd_makeNode_98 : decode b_Rd_makeNode 98 = .ok (.iload_n 3, 1) := dk_0 a_Rd_makeNode_98 (dko_29 _)
theorem d_Rd_makeNode_99 : decode b_Rd_makeNode 99 = .ok (.sipush 300, 3) := dk_S2 a_Rd_makeNode_99 (dko_17 _) (by decide +kernel)
theorem d_Rd_makeNode_102 : decode b_Rd_makeNode 102 = .ok (.if_icmp .ne 7, 3) := dk_S2 a_Rd_makeNode_102 (dko_160 _) (by decide +kernel)
theorem d_Rd_makeNode_105 : decode b_Rd_makeNode 105 = .ok (.aload_n 0, 1) := dk_0 a_Rd_makeNode_105 (dko_42 _)
theorem d_Rd_makeNode_106 : decode b_Rd_makeNode 106 = .ok (.invokevirtual 108, 3) := dk_U2 a_Rd_makeNode_106 (dko_182 _) rfl
theorem d_Rd_makeNode_109 : decode b_Rd_makeNode 109 = .ok (.iload_n 3, 1) := dk_0 a_Rd_makeNode_109 (dko_29 _)
theorem d_Rd_makeNode_110 : decode b_Rd_makeNode 110 = .ok (.ireturn, 1) := dk_0 a_Rd_makeNode_110 (dko_172 _)
set_option maxHeartbeats 4000000 in
set_option maxRecDepth 100000 in
theorem ok_Rd_makeNode (pc : Nat) : OpS mt mi_Rd_makeNode pc (cs_Rd_makeNode pc) := (os_n (os_n (os_n (os_n (os_n (os_n (os_l (so_aload_n d_Rd_makeNode_0 rfl)) (os_l (so_get (C := R_Rd) (T := F_Rd) (N := 13) (j := 1) in_Rd rfl (by decide) mw_637 d_Rd_makeNode_1))) (os_n (os_l (so_get (C := R_Pr) (T := F_Pr) (N := 18) (j := 1) in_Pr rfl (by decide) mw_432 d_Rd_makeNode_4)) (os_l (so_sipush d_Rd_makeNode_7 (by decide))))) (os_n (os_n (os_l (so_callS (iv := mi_Ma_min) rfl mw_962 mw_963 mw_21 mw_964 ⟨by decide +kernel, by decide +kernel, by decide +kernel⟩ (by decide) d_Rd_makeNode_10)) (os_l (so_istore_n d_Rd_makeNode_13 rfl (by decide)))) (os_n (os_l (so_aload_n d_Rd_makeNode_14 rfl)) (os_l (so_get (C := R_Rd) (T := F_Rd) (N := 13) (j := 1) in_Rd rfl (by decide) mw_637 d_Rd_makeNode_15))))) (os_n (os_n (os_n (os_l (so_get (C := R_Pr) (T := F_Pr) (N := 18) (j := 3) in_Pr rfl (by decide) mw_439 d_Rd_makeNode_18)) (os_l (so_iload_n d_Rd_makeNode_21 rfl))) (os_n (os_l (so_iload_n d_Rd_makeNode_22 rfl)) (os_l (so_iastore d_Rd_makeNode_23)))) (os_n (os_n (os_l (so_aload_n d_Rd_makeNode_24 rfl)) (os_l (so_get (C := R_Rd) (T := F_Rd) (N := 13) (j := 1) in_Rd rfl (by decide) mw_637 d_Rd_makeNode_25))) (os_n (os_l (so_get (C := R_Pr) (T := F_Pr) (N := 18) (j := 4) in_Pr rfl (by decide) mw_441 d_Rd_makeNode_28)) (os_l (so_iload_n d_Rd_makeNode_31 rfl)))))) (os_n (os_n (os_n (os_n (os_l (so_iload_n d_Rd_makeNode_32 rfl)) (os_l (so_iastore d_Rd_makeNode_33))) (os_n (os_l (so_aload_n d_Rd_makeNode_34 rfl)) (os_l (so_get (C := R_Rd) (T := F_Rd) (N := 13) (j := 1) in_Rd rfl (by decide) mw_637 d_Rd_makeNode_35)))) (os_n (os_n (os_l (so_get (C := R_Pr) (T := F_Pr) (N := 18) (j := 5) in_Pr rfl (by decide) mw_445 d_Rd_makeNode_38)) (os_l (so_iload_n d_Rd_makeNode_41 rfl))) (os_n (os_l (so_iload_n d_Rd_makeNode_42 rfl)) (os_l (so_iastore d_Rd_makeNode_43))))) (os_n (os_n (os_n (os_l (so_aload_n d_Rd_makeNode_44 rfl)) (os_l (so_get (C := R_Rd) (T := F_Rd) (N := 13) (j := 1) in_Rd rfl (by decide) mw_637 d_Rd_makeNode_45))) (os_n (os_l (so_get (C := R_Pr) (T := F_Pr) (N := 18) (j := 6) in_Pr rfl (by decide) mw_448 d_Rd_makeNode_48)) (os_l (so_iload_n d_Rd_makeNode_51 rfl)))) (os_n (os_n (os_l (so_iload_n d_Rd_makeNode_52 rfl)) (os_l (so_iastore d_Rd_makeNode_53))) (os_n (os_l (so_aload_n d_Rd_makeNode_54 rfl)) (os_l (so_get (C := R_Rd) (T := F_Rd) (N := 13) (j := 1) in_Rd rfl (by decide) mw_637 d_Rd_makeNode_55))))))) (os_n (os_n (os_n (os_n (os_n (os_l (so_get (C := R_Pr) (T := F_Pr) (N := 18) (j := 7) in_Pr rfl (by decide) mw_450 d_Rd_makeNode_58)) (os_l (so_iload_n d_Rd_makeNode_61 rfl))) (os_n (os_l (so_iconst d_Rd_makeNode_62 (by decide))) (os_l (so_iastore d_Rd_makeNode_63)))) (os_n (os_n (os_l (so_aload_n d_Rd_makeNode_64 rfl)) (os_l (so_get (C := R_Rd) (T := F_Rd) (N := 13) (j := 1) in_Rd rfl (by decide) mw_637 d_Rd_makeNode_65))) (os_n (os_l (so_get (C := R_Pr) (T := F_Pr) (N := 18) (j := 8) in_Pr rfl (by decide) mw_452 d_Rd_makeNode_68)) (os_l (so_iload_n d_Rd_makeNode_71 rfl))))) (os_n (os_n (os_n (os_l (so_iconst d_Rd_makeNode_72 (by decide))) (os_l (so_iastore d_Rd_makeNode_73))) (os_n (os_l (so_aload_n d_Rd_makeNode_74 rfl)) (os_l (so_get (C := R_Rd) (T := F_Rd) (N := 13) (j := 10) in_Rd rfl (by decide) mw_646 d_Rd_makeNode_75)))) (os_n (os_n (os_l (so_iload_n d_Rd_makeNode_78 rfl)) (os_l (so_iconst d_Rd_makeNode_79 (by decide)))) (os_n (os_l (so_iastore d_Rd_makeNode_80)) (os_l (so_aload_n d_Rd_makeNode_81 rfl)))))) (os_n (os_n (os_n (os_n (os_l (so_get (C := R_Rd) (T := F_Rd) (N := 13) (j := 11) in_Rd rfl (by decide) mw_647 d_Rd_makeNode_82)) (os_l (so_iload_n d_Rd_makeNode_85 rfl))) (os_n (os_l (so_iconst d_Rd_makeNode_86 (by decide))) (os_l (so_iastore d_Rd_makeNode_87)))) (os_n (os_n (os_l (so_aload_n d_Rd_makeNode_88 rfl)) (os_l (so_get (C := R_Rd) (T := F_Rd) (N := 13) (j := 1) in_Rd rfl (by decide) mw_637 d_Rd_makeNode_89))) (os_n (os_l (so_iload_n d_Rd_makeNode_92 rfl)) (os_l (so_iconst d_Rd_makeNode_93 (by decide)))))) (os_n (os_n (os_n (os_l (so_iadd d_Rd_makeNode_94)) (os_l (so_putI (C := R_Pr) (T := F_Pr) (N := 18) (j := 1) in_Pr t_Pr_ok n_Pr rfl (by decide) mw_432 rfl (by decide +kernel) d_Rd_makeNode_95))) (os_n (os_l (so_iload_n d_Rd_makeNode_98 rfl)) (os_l (so_sipush d_Rd_makeNode_99 (by decide))))) (os_n (os_n (os_l (so_icne d_Rd_makeNode_102 (by decide))) (os_l (so_aload_n d_Rd_makeNode_105 rfl))) (os_n (os_l (so_callV (iv := mi_Rd_fail) rfl rfl rfl mw_915 mw_917 sl_24 mw_13 mw_918 ⟨by decide +kernel, by decide +kernel, by decide +kernel⟩ (by decide) d_Rd_makeNode_106)) (os_n (os_l (so_iload_n d_Rd_makeNode_109 rfl)) (os_l (so_ireturn rfl d_Rd_makeNode_110)))))))))
