abbrev b_Mr_init : ByteArray := prog_15_method_1_code
def y_Mr_init : MethodName := ⟨R_Mr, "<init>", "()V"⟩
abbrev w_Mr_init : List Cond := .code y_Mr_init b_Mr_init 1 none :: lw_gd
abbrev b_Tx_init : ByteArray := prog_16_method_1_code
def y_Tx_init : MethodName := ⟨R_Tx, "<init>", "()V"⟩
abbrev w_Tx_init : List Cond := .code y_Tx_init b_Tx_init 1 none :: lw_gd
theorem mw_30 : (.instanceMethod objectInit : Cond) ∈ lw_gd := tb_mem (i := 30) (by decide +kernel) (by decide +kernel)
theorem mw_31 : (.code objectInit ⟨#[0xb1]⟩ 1 none : Cond) ∈ lw_gd := tb_mem (i := 31) (by decide +kernel) (by decide +kernel)
theorem mw_53 : (.arrayClass .int : Cond) ∈ lw_gd := tb_mem (i := 53) (by decide +kernel) (by decide +kernel)
theorem mw_208 : (.arrayClass .long : Cond) ∈ lw_gd := tb_mem (i := 208) (by decide +kernel) (by decide +kernel)
theorem mw_275 : (.arrayClass .boolean : Cond) ∈ lw_gd := tb_mem (i := 275) (by decide +kernel) (by decide +kernel)
theorem mw_676 : (.arrayClass .byte : Cond) ∈ lw_gd := tb_mem (i := 676) (by decide +kernel) (by decide +kernel)
theorem mw_1578 : (.methodLink R_Tx 3 objectInit : Cond) ∈ lw_gd := tb_mem (i := 1578) (by decide +kernel) (by decide +kernel)
theorem mw_1711 : (.methodLink R_Mr 3 objectInit : Cond) ∈ lw_gd := tb_mem (i := 1711) (by decide +kernel) (by decide +kernel)
abbrev t_Mr_init_131 : List UInt8 := 177 :: []
abbrev t_Mr_init_128 : List UInt8 := 181 :: 0 :: 56 :: t_Mr_init_131
abbrev t_Mr_init_126 : List UInt8 := 188 :: 10 :: t_Mr_init_128
abbrev t_Mr_init_124 : List UInt8 := 16 :: 40 :: t_Mr_init_126
abbrev t_Mr_init_123 : List UInt8 := 42 :: t_Mr_init_124
abbrev t_Mr_init_120 : List UInt8 := 181 :: 0 :: 53 :: t_Mr_init_123
abbrev t_Mr_init_118 : List UInt8 := 188 :: 4 :: t_Mr_init_120
abbrev t_Mr_init_116 : List UInt8 := 16 :: 40 :: t_Mr_init_118
abbrev t_Mr_init_115 : List UInt8 := 42 :: t_Mr_init_116
abbrev t_Mr_init_112 : List UInt8 := 181 :: 0 :: 50 :: t_Mr_init_115
abbrev t_Mr_init_110 : List UInt8 := 188 :: 10 :: t_Mr_init_112
abbrev t_Mr_init_108 : List UInt8 := 16 :: 40 :: t_Mr_init_110
abbrev t_Mr_init_107 : List UInt8 := 42 :: t_Mr_init_108
abbrev t_Mr_init_104 : List UInt8 := 181 :: 0 :: 47 :: t_Mr_init_107
abbrev t_Mr_init_102 : List UInt8 := 188 :: 10 :: t_Mr_init_104
abbrev t_Mr_init_100 : List UInt8 := 16 :: 80 :: t_Mr_init_102
abbrev t_Mr_init_99 : List UInt8 := 42 :: t_Mr_init_100
abbrev t_Mr_init_96 : List UInt8 := 181 :: 0 :: 43 :: t_Mr_init_99
abbrev t_Mr_init_94 : List UInt8 := 188 :: 4 :: t_Mr_init_96
abbrev t_Mr_init_92 : List UInt8 := 16 :: 80 :: t_Mr_init_94
abbrev t_Mr_init_91 : List UInt8 := 42 :: t_Mr_init_92
abbrev t_Mr_init_88 : List UInt8 := 181 :: 0 :: 40 :: t_Mr_init_91
abbrev t_Mr_init_86 : List UInt8 := 188 :: 10 :: t_Mr_init_88
abbrev t_Mr_init_84 : List UInt8 := 16 :: 80 :: t_Mr_init_86
abbrev t_Mr_init_83 : List UInt8 := 42 :: t_Mr_init_84
abbrev t_Mr_init_80 : List UInt8 := 181 :: 0 :: 37 :: t_Mr_init_83
abbrev t_Mr_init_78 : List UInt8 := 188 :: 10 :: t_Mr_init_80
abbrev t_Mr_init_75 : List UInt8 := 17 :: 2 :: 128 :: t_Mr_init_78
abbrev t_Mr_init_74 : List UInt8 := 42 :: t_Mr_init_75
abbrev t_Mr_init_71 : List UInt8 := 181 :: 0 :: 34 :: t_Mr_init_74
abbrev t_Mr_init_69 : List UInt8 := 188 :: 10 :: t_Mr_init_71
abbrev t_Mr_init_67 : List UInt8 := 16 :: 80 :: t_Mr_init_69
abbrev t_Mr_init_66 : List UInt8 := 42 :: t_Mr_init_67
abbrev t_Mr_init_63 : List UInt8 := 181 :: 0 :: 31 :: t_Mr_init_66
abbrev t_Mr_init_61 : List UInt8 := 188 :: 10 :: t_Mr_init_63
abbrev t_Mr_init_59 : List UInt8 := 16 :: 80 :: t_Mr_init_61
abbrev t_Mr_init_58 : List UInt8 := 42 :: t_Mr_init_59
abbrev t_Mr_init_55 : List UInt8 := 181 :: 0 :: 28 :: t_Mr_init_58
abbrev t_Mr_init_53 : List UInt8 := 188 :: 10 :: t_Mr_init_55
abbrev t_Mr_init_50 : List UInt8 := 17 :: 23 :: 112 :: t_Mr_init_53
abbrev t_Mr_init_49 : List UInt8 := 42 :: t_Mr_init_50
abbrev t_Mr_init_46 : List UInt8 := 181 :: 0 :: 25 :: t_Mr_init_49
abbrev t_Mr_init_44 : List UInt8 := 188 :: 10 :: t_Mr_init_46
abbrev t_Mr_init_41 : List UInt8 := 17 :: 23 :: 112 :: t_Mr_init_44
abbrev t_Mr_init_40 : List UInt8 := 42 :: t_Mr_init_41
abbrev t_Mr_init_37 : List UInt8 := 181 :: 0 :: 22 :: t_Mr_init_40
abbrev t_Mr_init_35 : List UInt8 := 188 :: 10 :: t_Mr_init_37
abbrev t_Mr_init_32 : List UInt8 := 17 :: 23 :: 112 :: t_Mr_init_35
abbrev t_Mr_init_31 : List UInt8 := 42 :: t_Mr_init_32
abbrev t_Mr_init_28 : List UInt8 := 181 :: 0 :: 19 :: t_Mr_init_31
abbrev t_Mr_init_26 : List UInt8 := 188 :: 10 :: t_Mr_init_28
abbrev t_Mr_init_23 : List UInt8 := 17 :: 15 :: 181 :: t_Mr_init_26
abbrev t_Mr_init_22 : List UInt8 := 42 :: t_Mr_init_23
abbrev t_Mr_init_19 : List UInt8 := 181 :: 0 :: 15 :: t_Mr_init_22
abbrev t_Mr_init_17 : List UInt8 := 188 :: 10 :: t_Mr_init_19
abbrev t_Mr_init_14 : List UInt8 := 17 :: 15 :: 181 :: t_Mr_init_17
abbrev t_Mr_init_13 : List UInt8 := 42 :: t_Mr_init_14
abbrev t_Mr_init_10 : List UInt8 := 181 :: 0 :: 11 :: t_Mr_init_13
abbrev t_Mr_init_8 : List UInt8 := 188 :: 8 :: t_Mr_init_10
abbrev t_Mr_init_5 : List UInt8 := 17 :: 15 :: 180 :: t_Mr_init_8
abbrev t_Mr_init_4 : List UInt8 := 42 :: t_Mr_init_5
abbrev t_Mr_init_1 : List UInt8 := 183 :: 0 :: 3 :: t_Mr_init_4
abbrev t_Mr_init_0 : List UInt8 := 42 :: t_Mr_init_1
theorem a_Mr_init_0 : dk_at b_Mr_init 0 t_Mr_init_0 := dk_start (by decide +kernel)
theorem a_Mr_init_1 : dk_at b_Mr_init 1 t_Mr_init_1 := dk_go 1 a_Mr_init_0 rfl
theorem a_Mr_init_4 : dk_at b_Mr_init 4 t_Mr_init_4 := dk_go 3 a_Mr_init_1 rfl
theorem a_Mr_init_5 : dk_at b_Mr_init 5 t_Mr_init_5 := dk_go 1 a_Mr_init_4 rfl
theorem a_Mr_init_8 : dk_at b_Mr_init 8 t_Mr_init_8 := dk_go 3 a_Mr_init_5 rfl
theorem a_Mr_init_10 : dk_at b_Mr_init 10 t_Mr_init_10 := dk_go 2 a_Mr_init_8 rfl
theorem a_Mr_init_13 : dk_at b_Mr_init 13 t_Mr_init_13 := dk_go 3 a_Mr_init_10 rfl
theorem a_Mr_init_14 : dk_at b_Mr_init 14 t_Mr_init_14 := dk_go 1 a_Mr_init_13 rfl
theorem a_Mr_init_17 : dk_at b_Mr_init 17 t_Mr_init_17 := dk_go 3 a_Mr_init_14 rfl
theorem a_Mr_init_19 : dk_at b_Mr_init 19 t_Mr_init_19 := dk_go 2 a_Mr_init_17 rfl
theorem a_Mr_init_22 : dk_at b_Mr_init 22 t_Mr_init_22 := dk_go 3 a_Mr_init_19 rfl
theorem a_Mr_init_23 : dk_at b_Mr_init 23 t_Mr_init_23 := dk_go 1 a_Mr_init_22 rfl
theorem a_Mr_init_26 : dk_at b_Mr_init 26 t_Mr_init_26 := dk_go 3 a_Mr_init_23 rfl
theorem a_Mr_init_28 : dk_at b_Mr_init 28 t_Mr_init_28 := dk_go 2 a_Mr_init_26 rfl
theorem a_Mr_init_31 : dk_at b_Mr_init 31 t_Mr_init_31 := dk_go 3 a_Mr_init_28 rfl
theorem a_Mr_init_32 : dk_at b_Mr_init 32 t_Mr_init_32 := dk_go 1 a_Mr_init_31 rfl
theorem a_Mr_init_35 : dk_at b_Mr_init 35 t_Mr_init_35 := dk_go 3 a_Mr_init_32 rfl
theorem a_Mr_init_37 : dk_at b_Mr_init 37 t_Mr_init_37 := dk_go 2 a_Mr_init_35 rfl
theorem a_Mr_init_40 : dk_at b_Mr_init 40 t_Mr_init_40 := dk_go 3 a_Mr_init_37 rfl
theorem a_Mr_init_41 : dk_at b_Mr_init 41 t_Mr_init_41 := dk_go 1 a_Mr_init_40 rfl
theorem a_Mr_init_44 : dk_at b_Mr_init 44 t_Mr_init_44 := dk_go 3 a_Mr_init_41 rfl
theorem a_Mr_init_46 : dk_at b_Mr_init 46 t_Mr_init_46 := dk_go 2 a_Mr_init_44 rfl
theorem a_Mr_init_49 : dk_at b_Mr_init 49 t_Mr_init_49 := dk_go 3 a_Mr_init_46 rfl
theorem a_Mr_init_50 : dk_at b_Mr_init 50 t_Mr_init_50 := dk_go 1 a_Mr_init_49 rfl
theorem a_Mr_init_53 : dk_at b_Mr_init 53 t_Mr_init_53 := dk_go 3 a_Mr_init_50 rfl
theorem a_Mr_init_55 : dk_at b_Mr_init 55 t_Mr_init_55 := dk_go 2 a_Mr_init_53 rfl
theorem a_Mr_init_58 : dk_at b_Mr_init 58 t_Mr_init_58 := dk_go 3 a_Mr_init_55 rfl
theorem a_Mr_init_59 : dk_at b_Mr_init 59 t_Mr_init_59 := dk_go 1 a_Mr_init_58 rfl
theorem a_Mr_init_61 : dk_at b_Mr_init 61 t_Mr_init_61 := dk_go 2 a_Mr_init_59 rfl
theorem a_Mr_init_63 : dk_at b_Mr_init 63 t_Mr_init_63 := dk_go 2 a_Mr_init_61 rfl
theorem a_Mr_init_66 : dk_at b_Mr_init 66 t_Mr_init_66 := dk_go 3 a_Mr_init_63 rfl
theorem a_Mr_init_67 : dk_at b_Mr_init 67 t_Mr_init_67 := dk_go 1 a_Mr_init_66 rfl
theorem a_Mr_init_69 : dk_at b_Mr_init 69 t_Mr_init_69 := dk_go 2 a_Mr_init_67 rfl
theorem a_Mr_init_71 : dk_at b_Mr_init 71 t_Mr_init_71 := dk_go 2 a_Mr_init_69 rfl
theorem a_Mr_init_74 : dk_at b_Mr_init 74 t_Mr_init_74 := dk_go 3 a_Mr_init_71 rfl
theorem a_Mr_init_75 : dk_at b_Mr_init 75 t_Mr_init_75 := dk_go 1 a_Mr_init_74 rfl
theorem a_Mr_init_78 : dk_at b_Mr_init 78 t_Mr_init_78 := dk_go 3 a_Mr_init_75 rfl
theorem a_Mr_init_80 : dk_at b_Mr_init 80 t_Mr_init_80 := dk_go 2 a_Mr_init_78 rfl
theorem a_Mr_init_83 : dk_at b_Mr_init 83 t_Mr_init_83 := dk_go 3 a_Mr_init_80 rfl
theorem a_Mr_init_84 : dk_at b_Mr_init 84 t_Mr_init_84 := dk_go 1 a_Mr_init_83 rfl
theorem a_Mr_init_86 : dk_at b_Mr_init 86 t_Mr_init_86 := dk_go 2 a_Mr_init_84 rfl
theorem a_Mr_init_88 : dk_at b_Mr_init 88 t_Mr_init_88 := dk_go 2 a_Mr_init_86 rfl
theorem a_Mr_init_91 : dk_at b_Mr_init 91 t_Mr_init_91 := dk_go 3 a_Mr_init_88 rfl
theorem a_Mr_init_92 : dk_at b_Mr_init 92 t_Mr_init_92 := dk_go 1 a_Mr_init_91 rfl
theorem a_Mr_init_94 : dk_at b_Mr_init 94 t_Mr_init_94 := dk_go 2 a_Mr_init_92 rfl
theorem a_Mr_init_96 : dk_at b_Mr_init 96 t_Mr_init_96 := dk_go 2 a_Mr_init_94 rfl
theorem a_Mr_init_99 : dk_at b_Mr_init 99 t_Mr_init_99 := dk_go 3 a_Mr_init_96 rfl
theorem a_Mr_init_100 : dk_at b_Mr_init 100 t_Mr_init_100 := dk_go 1 a_Mr_init_99 rfl
theorem a_Mr_init_102 : dk_at b_Mr_init 102 t_Mr_init_102 := dk_go 2 a_Mr_init_100 rfl
theorem a_Mr_init_104 : dk_at b_Mr_init 104 t_Mr_init_104 := dk_go 2 a_Mr_init_102 rfl
theorem a_Mr_init_107 : dk_at b_Mr_init 107 t_Mr_init_107 := dk_go 3 a_Mr_init_104 rfl
theorem a_Mr_init_108 : dk_at b_Mr_init 108 t_Mr_init_108 := dk_go 1 a_Mr_init_107 rfl
theorem a_Mr_init_110 : dk_at b_Mr_init 110 t_Mr_init_110 := dk_go 2 a_Mr_init_108 rfl
theorem a_Mr_init_112 : dk_at b_Mr_init 112 t_Mr_init_112 := dk_go 2 a_Mr_init_110 rfl
theorem a_Mr_init_115 : dk_at b_Mr_init 115 t_Mr_init_115 := dk_go 3 a_Mr_init_112 rfl
theorem a_Mr_init_116 : dk_at b_Mr_init 116 t_Mr_init_116 := dk_go 1 a_Mr_init_115 rfl
theorem a_Mr_init_118 : dk_at b_Mr_init 118 t_Mr_init_118 := dk_go 2 a_Mr_init_116 rfl
theorem a_Mr_init_120 : dk_at b_Mr_init 120 t_Mr_init_120 := dk_go 2 a_Mr_init_118 rfl
theorem a_Mr_init_123 : dk_at b_Mr_init 123 t_Mr_init_123 := dk_go 3 a_Mr_init_120 rfl
theorem a_Mr_init_124 : dk_at b_Mr_init 124 t_Mr_init_124 := dk_go 1 a_Mr_init_123 rfl
theorem a_Mr_init_126 : dk_at b_Mr_init 126 t_Mr_init_126 := dk_go 2 a_Mr_init_124 rfl
theorem a_Mr_init_128 : dk_at b_Mr_init 128 t_Mr_init_128 := dk_go 2 a_Mr_init_126 rfl
theorem a_Mr_init_131 : dk_at b_Mr_init 131 t_Mr_init_131 := dk_go 3 a_Mr_init_128 rfl
theorem d_Mr_init_0 : decode b_Mr_init 0 = .ok (.aload_n 0, 1) := dk_0 a_Mr_init_0 (dko_42 _)
theorem d_Mr_init_1 : decode b_Mr_init 1 = .ok (.invokespecial 3, 3) := dk_U2 a_Mr_init_1 (dko_183 _) rfl
theorem d_Mr_init_4 : decode b_Mr_init 4 = .ok (.aload_n 0, 1) := dk_0 a_Mr_init_4 (dko_42 _)
theorem d_Mr_init_5 : decode b_Mr_init 5 = .ok (.sipush 4020, 3) := dk_S2 a_Mr_init_5 (dko_17 _) (by decide +kernel)
theorem d_Mr_init_8 : decode b_Mr_init 8 = .ok (.newarray .byte, 2) := dk_N a_Mr_init_8 (dko_188 _) rfl
theorem d_Mr_init_10 : decode b_Mr_init 10 = .ok (.putfield 11, 3) := dk_U2 a_Mr_init_10 (dko_181 _) rfl
theorem d_Mr_init_13 : decode b_Mr_init 13 = .ok (.aload_n 0, 1) := dk_0 a_Mr_init_13 (dko_42 _)
theorem d_Mr_init_14 : decode b_Mr_init 14 = .ok (.sipush 4021, 3) := dk_S2 a_Mr_init_14 (dko_17 _) (by decide +kernel)
theorem d_Mr_init_17 : decode b_Mr_init 17 = .ok (.newarray .int, 2) := dk_N a_Mr_init_17 (dko_188 _) rfl
theorem d_Mr_init_19 : decode b_Mr_init 19 = .ok (.putfield 15, 3) := dk_U2 a_Mr_init_19 (dko_181 _) rfl
theorem d_Mr_init_22 : decode b_Mr_init 22 = .ok (.aload_n 0, 1) := dk_0 a_Mr_init_22 (dko_42 _)
theorem d_Mr_init_23 : decode b_Mr_init 23 = .ok (.sipush 4021, 3) := dk_S2 a_Mr_init_23 (dko_17 _) (by decide +kernel)
theorem d_Mr_init_26 : decode b_Mr_init 26 = .ok (.newarray .int, 2) := dk_N a_Mr_init_26 (dko_188 _) rfl
theorem d_Mr_init_28 : decode b_Mr_init 28 = .ok (.putfield 19, 3) := dk_U2 a_Mr_init_28 (dko_181 _) rfl
theorem d_Mr_init_31 : decode b_Mr_init 31 = .ok (.aload_n 0, 1) := dk_0 a_Mr_init_31 (dko_42 _)
theorem d_Mr_init_32 : decode b_Mr_init 32 = .ok (.sipush 6000, 3) := dk_S2 a_Mr_init_32 (dko_17 _) (by decide +kernel)
theorem d_Mr_init_35 : decode b_Mr_init 35 = .ok (.newarray .int, 2) := dk_N a_Mr_init_35 (dko_188 _) rfl
theorem d_Mr_init_37 : decode b_Mr_init 37 = .ok (.putfield 22, 3) := dk_U2 a_Mr_init_37 (dko_181 _) rfl
theorem d_Mr_init_40 : decode b_Mr_init 40 = .ok (.aload_n 0, 1) := dk_0 a_Mr_init_40 (dko_42 _)
theorem d_Mr_init_41 : decode b_Mr_init 41 = .ok (.sipush 6000, 3) := dk_S2 a_Mr_init_41 (dko_17 _) (by decide +kernel)
theorem d_Mr_init_44 : decode b_Mr_init 44 = .ok (.newarray .int, 2) := dk_N a_Mr_init_44 (dko_188 _) rfl
theorem d_Mr_init_46 : decode b_Mr_init 46 = .ok (.putfield 25, 3) := dk_U2 a_Mr_init_46 (dko_181 _) rfl
theorem d_Mr_init_49 : decode b_Mr_init 49 = .ok (.aload_n 0, 1) := dk_0 a_Mr_init_49 (dko_42 _)
theorem d_Mr_init_50 : decode b_Mr_init 50 = .ok (.sipush 6000, 3) := dk_S2 a_Mr_init_50 (dko_17 _) (by decide +kernel)
theorem d_Mr_init_53 : decode b_Mr_init 53 = .ok (.newarray .int, 2) := dk_N a_Mr_init_53 (dko_188 _) rfl
theorem d_Mr_init_55 : decode b_Mr_init 55 = .ok (.putfield 28, 3) := dk_U2 a_Mr_init_55 (dko_181 _) rfl
theorem d_Mr_init_58 : decode b_Mr_init 58 = .ok (.aload_n 0, 1) := dk_0 a_Mr_init_58 (dko_42 _)
theorem d_Mr_init_59 : decode b_Mr_init 59 = .ok (.bipush 80, 2) := dk_S1 a_Mr_init_59 (dko_16 _) (by decide +kernel)
theorem d_Mr_init_61 : decode b_Mr_init 61 = .ok (.newarray .int, 2) := dk_N a_Mr_init_61 (dko_188 _) rfl
theorem d_Mr_init_63 : decode b_Mr_init 63 = .ok (.putfield 31, 3) := dk_U2 a_Mr_init_63 (dko_181 _) rfl
theorem d_Mr_init_66 : decode b_Mr_init 66 = .ok (.aload_n 0, 1) := dk_0 a_Mr_init_66 (dko_42 _)
theorem d_Mr_init_67 : decode b_Mr_init 67 = .ok (.bipush 80, 2) := dk_S1 a_Mr_init_67 (dko_16 _) (by decide +kernel)
theorem d_Mr_init_69 : decode b_Mr_init 69 = .ok (.newarray .int, 2) := dk_N a_Mr_init_69 (dko_188 _) rfl
theorem d_Mr_init_71 : decode b_Mr_init 71 = .ok (.putfield 34, 3) := dk_U2 a_Mr_init_71 (dko_181 _) rfl
theorem d_Mr_init_74 : decode b_Mr_init 74 = .ok (.aload_n 0, 1) := dk_0 a_Mr_init_74 (dko_42 _)
theorem d_Mr_init_75 : decode b_Mr_init 75 = .ok (.sipush 640, 3) := dk_S2 a_Mr_init_75 (dko_17 _) (by decide +kernel)
theorem d_Mr_init_78 : decode b_Mr_init 78 = .ok (.newarray .int, 2) := dk_N a_Mr_init_78 (dko_188 _) rfl
theorem d_Mr_init_80 : decode b_Mr_init 80 = .ok (.putfield 37, 3) := dk_U2 a_Mr_init_80 (dko_181 _) rfl
theorem d_Mr_init_83 : decode b_Mr_init 83 = .ok (.aload_n 0, 1) := dk_0 a_Mr_init_83 (dko_42 _)
theorem d_Mr_init_84 : decode b_Mr_init 84 = .ok (.bipush 80, 2) := dk_S1 a_Mr_init_84 (dko_16 _) (by decide +kernel)
theorem d_Mr_init_86 : decode b_Mr_init 86 = .ok (.newarray .int, 2) := dk_N a_Mr_init_86 (dko_188 _) rfl
theorem d_Mr_init_88 : decode b_Mr_init 88 = .ok (.putfield 40, 3) := dk_U2 a_Mr_init_88 (dko_181 _) rfl
theorem d_Mr_init_91 : decode b_Mr_init 91 = .ok (.aload_n 0, 1) := dk_0 a_Mr_init_91 (dko_42 _)
theorem d_Mr_init_92 : decode b_Mr_init 92 = .ok (.bipush 80, 2) := dk_S1 a_Mr_init_92 (dko_16 _) (by decide +kernel)
theorem d_Mr_init_94 : decode b_Mr_init 94 = .ok (.newarray .boolean, 2) := dk_N a_Mr_init_94 (dko_188 _) rfl
theorem d_Mr_init_96 : decode b_Mr_init 96 = .ok (.putfield 43, 3) := dk_U2 a_Mr_init_96 (dko_181 _) rfl
theorem d_Mr_init_99 : decode b_Mr_init 99 = .ok (.aload_n 0, 1) := dk_0 a_Mr_init_99 (dko_42 _)
theorem d_Mr_init_100 : decode b_Mr_init 100 = .ok (.bipush 80, 2) := dk_S1 a_Mr_init_100 (dko_16 _) (by decide +kernel)
theorem d_Mr_init_102 : decode b_Mr_init 102 = .ok (.newarray .int, 2) := dk_N a_Mr_init_102 (dko_188 _) rfl
theorem d_Mr_init_104 : decode b_Mr_init 104 = .ok (.putfield 47, 3) := dk_U2 a_Mr_init_104 (dko_181 _) rfl
theorem d_Mr_init_107 : decode b_Mr_init 107 = .ok (.aload_n 0, 1) := dk_0 a_Mr_init_107 (dko_42 _)
theorem d_Mr_init_108 : decode b_Mr_init 108 = .ok (.bipush 40, 2) := dk_S1 a_Mr_init_108 (dko_16 _) (by decide +kernel)
theorem d_Mr_init_110 : decode b_Mr_init 110 = .ok (.newarray .int, 2) := dk_N a_Mr_init_110 (dko_188 _) rfl
theorem d_Mr_init_112 : decode b_Mr_init 112 = .ok (.putfield 50, 3) := dk_U2 a_Mr_init_112 (dko_181 _) rfl
theorem d_Mr_init_115 : decode b_Mr_init 115 = .ok (.aload_n 0, 1) := dk_0 a_Mr_init_115 (dko_42 _)
theorem d_Mr_init_116 : decode b_Mr_init 116 = .ok (.bipush 40, 2) := dk_S1 a_Mr_init_116 (dko_16 _) (by decide +kernel)
theorem d_Mr_init_118 : decode b_Mr_init 118 = .ok (.newarray .boolean, 2) := dk_N a_Mr_init_118 (dko_188 _) rfl
theorem d_Mr_init_120 : decode b_Mr_init 120 = .ok (.putfield 53, 3) := dk_U2 a_Mr_init_120 (dko_181 _) rfl
theorem d_Mr_init_123 : decode b_Mr_init 123 = .ok (.aload_n 0, 1) := dk_0 a_Mr_init_123 (dko_42 _)
theorem d_Mr_init_124 : decode b_Mr_init 124 = .ok (.bipush 40, 2) := dk_S1 a_Mr_init_124 (dko_16 _) (by decide +kernel)
theorem d_Mr_init_126 : decode b_Mr_init 126 = .ok (.newarray .int, 2) := dk_N a_Mr_init_126 (dko_188 _) rfl
theorem d_Mr_init_128 : decode b_Mr_init 128 = .ok (.putfield 56, 3) := dk_U2 a_Mr_init_128 (dko_181 _) rfl
theorem d_Mr_init_131 : decode b_Mr_init 131 = .ok (.return_, 1) := dk_0 a_Mr_init_131 (dko_177 _)
set_option maxHeartbeats 4000000 in
set_option maxRecDepth 100000 in
theorem c_Mr_init (l : Launch) (dC : Nat → ClassId) (dI : Nat → Nat → Nat) (cI cB cZ cJ : ClassId) (h0 : Nat) (sz : Nat) : Met l y_Mr_init w_Mr_init ({ frames := 1, cells := 15, slots := 31222, locals := 20 }) (va_Pc [.ref h0] (PW dC dI cI cB cZ cJ [(h0, .inr (14, [.null, .int 0, .null, .null, .int 0, .int 0, .int 0, .int 0, .null, .null, .null, .int 0, .int 0, .int 0, .null, .null, .null, .null, .null, .null, .int 0, .null, .null, .null, .int 0]))] sz)) (va_Qv (fun _ : Unit => True) (fun (_ : Unit) (t : State) => ∃ q8 q17 q26 q35 q44 q53 q61 q69 q78 q86 q94 q102 q110 q118 q126 : Nat, va_P (dC, dI) classes [(h0, .inr (14, [.ref q8, .int 0, .ref q17, .ref q26, .int 0, .int 0, .int 0, .int 0, .ref q35, .ref q44, .ref q53, .int 0, .int 0, .int 0, .ref q61, .ref q69, .ref q78, .ref q86, .ref q94, .ref q102, .int 0, .ref q110, .ref q118, .ref q126, .int 0])), (q8, .inl (cB, 4020, .inl (fun _ => 0))), (q17, .inl (cI, 4021, .inl (fun _ => 0))), (q26, .inl (cI, 4021, .inl (fun _ => 0))), (q35, .inl (cI, 6000, .inl (fun _ => 0))), (q44, .inl (cI, 6000, .inl (fun _ => 0))), (q53, .inl (cI, 6000, .inl (fun _ => 0))), (q61, .inl (cI, 80, .inl (fun _ => 0))), (q69, .inl (cI, 80, .inl (fun _ => 0))), (q78, .inl (cI, 640, .inl (fun _ => 0))), (q86, .inl (cI, 80, .inl (fun _ => 0))), (q94, .inl (cZ, 80, .inl (fun _ => 0))), (q102, .inl (cI, 80, .inl (fun _ => 0))), (q110, .inl (cI, 40, .inl (fun _ => 0))), (q118, .inl (cZ, 40, .inl (fun _ => 0))), (q126, .inl (cI, 40, .inl (fun _ => 0)))] t.heap ∧ va_D (va_A [(h0, .inr (14, [.null, .int 0, .null, .null, .int 0, .int 0, .int 0, .int 0, .null, .null, .null, .int 0, .int 0, .int 0, .null, .null, .null, .null, .null, .null, .int 0, .null, .null, .null, .int 0]))] sz) [(h0, .inr (14, [.ref q8, .int 0, .ref q17, .ref q26, .int 0, .int 0, .int 0, .int 0, .ref q35, .ref q44, .ref q53, .int 0, .int 0, .int 0, .ref q61, .ref q69, .ref q78, .ref q86, .ref q94, .ref q102, .int 0, .ref q110, .ref q118, .ref q126, .int 0])), (q8, .inl (cB, 4020, .inl (fun _ => 0))), (q17, .inl (cI, 4021, .inl (fun _ => 0))), (q26, .inl (cI, 4021, .inl (fun _ => 0))), (q35, .inl (cI, 6000, .inl (fun _ => 0))), (q44, .inl (cI, 6000, .inl (fun _ => 0))), (q53, .inl (cI, 6000, .inl (fun _ => 0))), (q61, .inl (cI, 80, .inl (fun _ => 0))), (q69, .inl (cI, 80, .inl (fun _ => 0))), (q78, .inl (cI, 640, .inl (fun _ => 0))), (q86, .inl (cI, 80, .inl (fun _ => 0))), (q94, .inl (cZ, 80, .inl (fun _ => 0))), (q102, .inl (cI, 80, .inl (fun _ => 0))), (q110, .inl (cI, 40, .inl (fun _ => 0))), (q118, .inl (cZ, 40, .inl (fun _ => 0))), (q126, .inl (cI, 40, .inl (fun _ => 0)))]) (va_A [(h0, .inr (14, [.null, .int 0, .null, .null, .int 0, .int 0, .int 0, .int 0, .null, .null, .null, .int 0, .int 0, .int 0, .null, .null, .null, .null, .null, .null, .int 0, .null, .null, .null, .int 0]))] sz)) 15 31222 (va_A [(h0, .inr (14, [.null, .int 0, .null, .null, .int 0, .int 0, .int 0, .int 0, .null, .null, .null, .int 0, .int 0, .int 0, .null, .null, .null, .null, .null, .null, .int 0, .null, .null, .null, .int 0]))] sz) := by
  refine Met.ofW (cc := b_Mr_init) (maxL := 1) (ret := none) (by decide) rfl ?_
  intro p e s m args below meth c s₁ B hml hv
  obtain ⟨rfl, hsz, hP, hK, hD⟩ := hv
  have hx := B.exec
  have hb := B.bytes
  have hr := B.returns
  have hts := atoms_spec (ws := w_Mr_init) B.pre
  have hown : s.vm.findClass R_Mr = some m.cls := findClass_of_methodNamed B.named
  have hlocks := B.notSynchronized
  have hin : meth.name = "<init>" := (name_of_methodNamed B.named B.method).1
  subst hsz
  have hD := hD.self (sz := s.heap.size)
  generalize hAe : va_A [(h0, .inr (14, [.null, .int 0, .null, .null, .int 0, .int 0, .int 0, .int 0, .null, .null, .null, .int 0, .int 0, .int 0, .null, .null, .null, .null, .null, .null, .int 0, .null, .null, .null, .int 0]))] s.heap.size = A at hD ⊢
  have hA : ∀ q : Nat, s.heap.size ≤ q → A q := fun q h => by rw [← hAe]; exact Or.inr h
  have hS : va_S A s.heap s.heap [] := va_S.rf
  have hP : va_P (dC, dI) classes [(h0, .inr (14, [.null, .int 0, .null, .null, .int 0, .int 0, .int 0, .int 0, .null, .null, .null, .int 0, .int 0, .int 0, .null, .null, .null, .null, .null, .null, .int 0, .null, .null, .null, .int 0]))] s.heap := hP
  have hl := lv_entry ([.ref h0]) (n := 1) (Nat.le_of_ble_eq_true rfl)
  rw [lg_entry_eq]
  generalize (lg_sl ([.ref h0]) ++ List.replicate (1 - (lg_sl ([.ref h0])).length) Slot.unset).toArray = ls at hl ⊢
  have hl : lv_has ls 1 [(0, .ref h0)] := hl
  refine lv_aload_n hx hb d_Mr_init_0 rfl (lv_at hl 0 rfl) ?_
  refine W.objInit hx hb hown (hts _ (List.mem_cons_of_mem _ mw_1711)) (hts _ (List.mem_cons_of_mem _ mw_30)) (hts _ (List.mem_cons_of_mem _ mw_31)) rfl (by rw [hml]; exact hl.1) rfl d_Mr_init_1 (Nat.le_of_ble_eq_true rfl) (Nat.le_of_ble_eq_true rfl) ?_
  refine W.eq (g2 := F0 m 4 ls []) rfl ?_
  refine lv_aload_n hx hb d_Mr_init_4 rfl (lv_at hl 0 rfl) ?_
  refine lv_sipush (v := 4020) hx hb d_Mr_init_5 (by decide) ?_
  refine ka_newa (atype := .byte) (ty := .byte) (N' := 4020) (a0 := (4020, .inl (fun _ => 0))) hx hb (hts _ (List.mem_cons_of_mem _ mw_676)) rfl hK.1 hP hD hS hA 1 rfl (fun _ => rfl) (by decide) (by decide) (by decide) (Nat.le_of_ble_eq_true rfl) (Nat.le_of_ble_eq_true rfl) d_Mr_init_8 (fun q8 H hP hD hS => ?_)
  refine W.widen (k := 1) (n := 4020) (Nat.le_refl _) (Nat.le_refl _) ?_
  refine va_putF (D := (dC, dI)) (ci := 14) (v := .ref q8) (ty := (.array .byte)) (C := R_Mr) (T := F_Mr) (N := 25) hx hb hts (fun w h => List.mem_cons_of_mem _ (in_Mr w h)) t_Mr t_Mr_ok n_Mr hown hK.1 hP hD hS 0 rfl rfl 0 (by decide) (hts _ (List.mem_cons_of_mem _ mw_1712)) (fun _ h9 => h9) rfl hin rfl (by decide +kernel) rfl rfl (Nat.le_of_ble_eq_true rfl) d_Mr_init_10 (fun H locs hP hD hS => ?_)
  have hP : va_P (dC, dI) classes [(h0, .inr (14, [.ref q8, .int 0, .null, .null, .int 0, .int 0, .int 0, .int 0, .null, .null, .null, .int 0, .int 0, .int 0, .null, .null, .null, .null, .null, .null, .int 0, .null, .null, .null, .int 0])), (q8, .inl (cB, 4020, .inl (fun _ => 0)))] H := hP
  have hD : va_D A [(h0, .inr (14, [.ref q8, .int 0, .null, .null, .int 0, .int 0, .int 0, .int 0, .null, .null, .null, .int 0, .int 0, .int 0, .null, .null, .null, .null, .null, .null, .int 0, .null, .null, .null, .int 0])), (q8, .inl (cB, 4020, .inl (fun _ => 0)))] := hD
  refine lv_aload_n hx hb d_Mr_init_13 rfl (lv_at hl 0 rfl) ?_
  refine lv_sipush (v := 4021) hx hb d_Mr_init_14 (by decide) ?_
  refine ka_newa (atype := .int) (ty := .int) (N' := 4021) (a0 := (4021, .inl (fun _ => 0))) hx hb (hts _ (List.mem_cons_of_mem _ mw_53)) rfl hK.1 hP hD hS hA 0 rfl (fun _ => rfl) (by decide) (by decide) (by decide) (Nat.le_of_ble_eq_true rfl) (Nat.le_of_ble_eq_true rfl) d_Mr_init_17 (fun q17 H hP hD hS => ?_)
  refine W.widen (k := 2) (n := 8041) (Nat.le_refl _) (Nat.le_refl _) ?_
  refine va_putF (D := (dC, dI)) (ci := 14) (v := .ref q17) (ty := (.array .int)) (C := R_Mr) (T := F_Mr) (N := 25) hx hb hts (fun w h => List.mem_cons_of_mem _ (in_Mr w h)) t_Mr t_Mr_ok n_Mr hown hK.1 hP hD hS 0 rfl rfl 2 (by decide) (hts _ (List.mem_cons_of_mem _ mw_1714)) (fun _ h9 => h9) rfl hin rfl (by decide +kernel) rfl rfl (Nat.le_of_ble_eq_true rfl) d_Mr_init_19 (fun H locs hP hD hS => ?_)
  have hP : va_P (dC, dI) classes [(h0, .inr (14, [.ref q8, .int 0, .ref q17, .null, .int 0, .int 0, .int 0, .int 0, .null, .null, .null, .int 0, .int 0, .int 0, .null, .null, .null, .null, .null, .null, .int 0, .null, .null, .null, .int 0])), (q8, .inl (cB, 4020, .inl (fun _ => 0))), (q17, .inl (cI, 4021, .inl (fun _ => 0)))] H := hP
  have hD : va_D A [(h0, .inr (14, [.ref q8, .int 0, .ref q17, .null, .int 0, .int 0, .int 0, .int 0, .null, .null, .null, .int 0, .int 0, .int 0, .null, .null, .null, .null, .null, .null, .int 0, .null, .null, .null, .int 0])), (q8, .inl (cB, 4020, .inl (fun _ => 0))), (q17, .inl (cI, 4021, .inl (fun _ => 0)))] := hD
  refine lv_aload_n hx hb d_Mr_init_22 rfl (lv_at hl 0 rfl) ?_
  refine lv_sipush (v := 4021) hx hb d_Mr_init_23 (by decide) ?_
  refine ka_newa (atype := .int) (ty := .int) (N' := 4021) (a0 := (4021, .inl (fun _ => 0))) hx hb (hts _ (List.mem_cons_of_mem _ mw_53)) rfl hK.1 hP hD hS hA 0 rfl (fun _ => rfl) (by decide) (by decide) (by decide) (Nat.le_of_ble_eq_true rfl) (Nat.le_of_ble_eq_true rfl) d_Mr_init_26 (fun q26 H hP hD hS => ?_)
  refine W.widen (k := 3) (n := 12062) (Nat.le_refl _) (Nat.le_refl _) ?_
  refine va_putF (D := (dC, dI)) (ci := 14) (v := .ref q26) (ty := (.array .int)) (C := R_Mr) (T := F_Mr) (N := 25) hx hb hts (fun w h => List.mem_cons_of_mem _ (in_Mr w h)) t_Mr t_Mr_ok n_Mr hown hK.1 hP hD hS 0 rfl rfl 3 (by decide) (hts _ (List.mem_cons_of_mem _ mw_1715)) (fun _ h9 => h9) rfl hin rfl (by decide +kernel) rfl rfl (Nat.le_of_ble_eq_true rfl) d_Mr_init_28 (fun H locs hP hD hS => ?_)
  have hP : va_P (dC, dI) classes [(h0, .inr (14, [.ref q8, .int 0, .ref q17, .ref q26, .int 0, .int 0, .int 0, .int 0, .null, .null, .null, .int 0, .int 0, .int 0, .null, .null, .null, .null, .null, .null, .int 0, .null, .null, .null, .int 0])), (q8, .inl (cB, 4020, .inl (fun _ => 0))), (q17, .inl (cI, 4021, .inl (fun _ => 0))), (q26, .inl (cI, 4021, .inl (fun _ => 0)))] H := hP
  have hD : va_D A [(h0, .inr (14, [.ref q8, .int 0, .ref q17, .ref q26, .int 0, .int 0, .int 0, .int 0, .null, .null, .null, .int 0, .int 0, .int 0, .null, .null, .null, .null, .null, .null, .int 0, .null, .null, .null, .int 0])), (q8, .inl (cB, 4020, .inl (fun _ => 0))), (q17, .inl (cI, 4021, .inl (fun _ => 0))), (q26, .inl (cI, 4021, .inl (fun _ => 0)))] := hD
  refine lv_aload_n hx hb d_Mr_init_31 rfl (lv_at hl 0 rfl) ?_
  refine lv_sipush (v := 6000) hx hb d_Mr_init_32 (by decide) ?_
  refine ka_newa (atype := .int) (ty := .int) (N' := 6000) (a0 := (6000, .inl (fun _ => 0))) hx hb (hts _ (List.mem_cons_of_mem _ mw_53)) rfl hK.1 hP hD hS hA 0 rfl (fun _ => rfl) (by decide) (by decide) (by decide) (Nat.le_of_ble_eq_true rfl) (Nat.le_of_ble_eq_true rfl) d_Mr_init_35 (fun q35 H hP hD hS => ?_)
  refine W.widen (k := 4) (n := 18062) (Nat.le_refl _) (Nat.le_refl _) ?_
  refine va_putF (D := (dC, dI)) (ci := 14) (v := .ref q35) (ty := (.array .int)) (C := R_Mr) (T := F_Mr) (N := 25) hx hb hts (fun w h => List.mem_cons_of_mem _ (in_Mr w h)) t_Mr t_Mr_ok n_Mr hown hK.1 hP hD hS 0 rfl rfl 8 (by decide) (hts _ (List.mem_cons_of_mem _ mw_1720)) (fun _ h9 => h9) rfl hin rfl (by decide +kernel) rfl rfl (Nat.le_of_ble_eq_true rfl) d_Mr_init_37 (fun H locs hP hD hS => ?_)
  have hP : va_P (dC, dI) classes [(h0, .inr (14, [.ref q8, .int 0, .ref q17, .ref q26, .int 0, .int 0, .int 0, .int 0, .ref q35, .null, .null, .int 0, .int 0, .int 0, .null, .null, .null, .null, .null, .null, .int 0, .null, .null, .null, .int 0])), (q8, .inl (cB, 4020, .inl (fun _ => 0))), (q17, .inl (cI, 4021, .inl (fun _ => 0))), (q26, .inl (cI, 4021, .inl (fun _ => 0))), (q35, .inl (cI, 6000, .inl (fun _ => 0)))] H := hP
  have hD : va_D A [(h0, .inr (14, [.ref q8, .int 0, .ref q17, .ref q26, .int 0, .int 0, .int 0, .int 0, .ref q35, .null, .null, .int 0, .int 0, .int 0, .null, .null, .null, .null, .null, .null, .int 0, .null, .null, .null, .int 0])), (q8, .inl (cB, 4020, .inl (fun _ => 0))), (q17, .inl (cI, 4021, .inl (fun _ => 0))), (q26, .inl (cI, 4021, .inl (fun _ => 0))), (q35, .inl (cI, 6000, .inl (fun _ => 0)))] := hD
  refine lv_aload_n hx hb d_Mr_init_40 rfl (lv_at hl 0 rfl) ?_
  refine lv_sipush (v := 6000) hx hb d_Mr_init_41 (by decide) ?_
  refine ka_newa (atype := .int) (ty := .int) (N' := 6000) (a0 := (6000, .inl (fun _ => 0))) hx hb (hts _ (List.mem_cons_of_mem _ mw_53)) rfl hK.1 hP hD hS hA 0 rfl (fun _ => rfl) (by decide) (by decide) (by decide) (Nat.le_of_ble_eq_true rfl) (Nat.le_of_ble_eq_true rfl) d_Mr_init_44 (fun q44 H hP hD hS => ?_)
  refine W.widen (k := 5) (n := 24062) (Nat.le_refl _) (Nat.le_refl _) ?_
  refine va_putF (D := (dC, dI)) (ci := 14) (v := .ref q44) (ty := (.array .int)) (C := R_Mr) (T := F_Mr) (N := 25) hx hb hts (fun w h => List.mem_cons_of_mem _ (in_Mr w h)) t_Mr t_Mr_ok n_Mr hown hK.1 hP hD hS 0 rfl rfl 9 (by decide) (hts _ (List.mem_cons_of_mem _ mw_1721)) (fun _ h9 => h9) rfl hin rfl (by decide +kernel) rfl rfl (Nat.le_of_ble_eq_true rfl) d_Mr_init_46 (fun H locs hP hD hS => ?_)
  have hP : va_P (dC, dI) classes [(h0, .inr (14, [.ref q8, .int 0, .ref q17, .ref q26, .int 0, .int 0, .int 0, .int 0, .ref q35, .ref q44, .null, .int 0, .int 0, .int 0, .null, .null, .null, .null, .null, .null, .int 0, .null, .null, .null, .int 0])), (q8, .inl (cB, 4020, .inl (fun _ => 0))), (q17, .inl (cI, 4021, .inl (fun _ => 0))), (q26, .inl (cI, 4021, .inl (fun _ => 0))), (q35, .inl (cI, 6000, .inl (fun _ => 0))), (q44, .inl (cI, 6000, .inl (fun _ => 0)))] H := hP
  have hD : va_D A [(h0, .inr (14, [.ref q8, .int 0, .ref q17, .ref q26, .int 0, .int 0, .int 0, .int 0, .ref q35, .ref q44, .null, .int 0, .int 0, .int 0, .null, .null, .null, .null, .null, .null, .int 0, .null, .null, .null, .int 0])), (q8, .inl (cB, 4020, .inl (fun _ => 0))), (q17, .inl (cI, 4021, .inl (fun _ => 0))), (q26, .inl (cI, 4021, .inl (fun _ => 0))), (q35, .inl (cI, 6000, .inl (fun _ => 0))), (q44, .inl (cI, 6000, .inl (fun _ => 0)))] := hD
  refine lv_aload_n hx hb d_Mr_init_49 rfl (lv_at hl 0 rfl) ?_
  refine lv_sipush (v := 6000) hx hb d_Mr_init_50 (by decide) ?_
  refine ka_newa (atype := .int) (ty := .int) (N' := 6000) (a0 := (6000, .inl (fun _ => 0))) hx hb (hts _ (List.mem_cons_of_mem _ mw_53)) rfl hK.1 hP hD hS hA 0 rfl (fun _ => rfl) (by decide) (by decide) (by decide) (Nat.le_of_ble_eq_true rfl) (Nat.le_of_ble_eq_true rfl) d_Mr_init_53 (fun q53 H hP hD hS => ?_)
  refine W.widen (k := 6) (n := 30062) (Nat.le_refl _) (Nat.le_refl _) ?_
  refine va_putF (D := (dC, dI)) (ci := 14) (v := .ref q53) (ty := (.array .int)) (C := R_Mr) (T := F_Mr) (N := 25) hx hb hts (fun w h => List.mem_cons_of_mem _ (in_Mr w h)) t_Mr t_Mr_ok n_Mr hown hK.1 hP hD hS 0 rfl rfl 10 (by decide) (hts _ (List.mem_cons_of_mem _ mw_1722)) (fun _ h9 => h9) rfl hin rfl (by decide +kernel) rfl rfl (Nat.le_of_ble_eq_true rfl) d_Mr_init_55 (fun H locs hP hD hS => ?_)
  have hP : va_P (dC, dI) classes [(h0, .inr (14, [.ref q8, .int 0, .ref q17, .ref q26, .int 0, .int 0, .int 0, .int 0, .ref q35, .ref q44, .ref q53, .int 0, .int 0, .int 0, .null, .null, .null, .null, .null, .null, .int 0, .null, .null, .null, .int 0])), (q8, .inl (cB, 4020, .inl (fun _ => 0))), (q17, .inl (cI, 4021, .inl (fun _ => 0))), (q26, .inl (cI, 4021, .inl (fun _ => 0))), (q35, .inl (cI, 6000, .inl (fun _ => 0))), (q44, .inl (cI, 6000, .inl (fun _ => 0))), (q53, .inl (cI, 6000, .inl (fun _ => 0)))] H := hP
  have hD : va_D A [(h0, .inr (14, [.ref q8, .int 0, .ref q17, .ref q26, .int 0, .int 0, .int 0, .int 0, .ref q35, .ref q44, .ref q53, .int 0, .int 0, .int 0, .null, .null, .null, .null, .null, .null, .int 0, .null, .null, .null, .int 0])), (q8, .inl (cB, 4020, .inl (fun _ => 0))), (q17, .inl (cI, 4021, .inl (fun _ => 0))), (q26, .inl (cI, 4021, .inl (fun _ => 0))), (q35, .inl (cI, 6000, .inl (fun _ => 0))), (q44, .inl (cI, 6000, .inl (fun _ => 0))), (q53, .inl (cI, 6000, .inl (fun _ => 0)))] := hD
  refine lv_aload_n hx hb d_Mr_init_58 rfl (lv_at hl 0 rfl) ?_
  refine lv_bipush (v := 80) hx hb d_Mr_init_59 (by decide) ?_
  refine ka_newa (atype := .int) (ty := .int) (N' := 80) (a0 := (80, .inl (fun _ => 0))) hx hb (hts _ (List.mem_cons_of_mem _ mw_53)) rfl hK.1 hP hD hS hA 0 rfl (fun _ => rfl) (by decide) (by decide) (by decide) (Nat.le_of_ble_eq_true rfl) (Nat.le_of_ble_eq_true rfl) d_Mr_init_61 (fun q61 H hP hD hS => ?_)
  refine W.widen (k := 7) (n := 30142) (Nat.le_refl _) (Nat.le_refl _) ?_
  refine va_putF (D := (dC, dI)) (ci := 14) (v := .ref q61) (ty := (.array .int)) (C := R_Mr) (T := F_Mr) (N := 25) hx hb hts (fun w h => List.mem_cons_of_mem _ (in_Mr w h)) t_Mr t_Mr_ok n_Mr hown hK.1 hP hD hS 0 rfl rfl 14 (by decide) (hts _ (List.mem_cons_of_mem _ mw_1726)) (fun _ h9 => h9) rfl hin rfl (by decide +kernel) rfl rfl (Nat.le_of_ble_eq_true rfl) d_Mr_init_63 (fun H locs hP hD hS => ?_)
  have hP : va_P (dC, dI) classes [(h0, .inr (14, [.ref q8, .int 0, .ref q17, .ref q26, .int 0, .int 0, .int 0, .int 0, .ref q35, .ref q44, .ref q53, .int 0, .int 0, .int 0, .ref q61, .null, .null, .null, .null, .null, .int 0, .null, .null, .null, .int 0])), (q8, .inl (cB, 4020, .inl (fun _ => 0))), (q17, .inl (cI, 4021, .inl (fun _ => 0))), (q26, .inl (cI, 4021, .inl (fun _ => 0))), (q35, .inl (cI, 6000, .inl (fun _ => 0))), (q44, .inl (cI, 6000, .inl (fun _ => 0))), (q53, .inl (cI, 6000, .inl (fun _ => 0))), (q61, .inl (cI, 80, .inl (fun _ => 0)))] H := hP
  have hD : va_D A [(h0, .inr (14, [.ref q8, .int 0, .ref q17, .ref q26, .int 0, .int 0, .int 0, .int 0, .ref q35, .ref q44, .ref q53, .int 0, .int 0, .int 0, .ref q61, .null, .null, .null, .null, .null, .int 0, .null, .null, .null, .int 0])), (q8, .inl (cB, 4020, .inl (fun _ => 0))), (q17, .inl (cI, 4021, .inl (fun _ => 0))), (q26, .inl (cI, 4021, .inl (fun _ => 0))), (q35, .inl (cI, 6000, .inl (fun _ => 0))), (q44, .inl (cI, 6000, .inl (fun _ => 0))), (q53, .inl (cI, 6000, .inl (fun _ => 0))), (q61, .inl (cI, 80, .inl (fun _ => 0)))] := hD
  refine lv_aload_n hx hb d_Mr_init_66 rfl (lv_at hl 0 rfl) ?_
  refine lv_bipush (v := 80) hx hb d_Mr_init_67 (by decide) ?_
  refine ka_newa (atype := .int) (ty := .int) (N' := 80) (a0 := (80, .inl (fun _ => 0))) hx hb (hts _ (List.mem_cons_of_mem _ mw_53)) rfl hK.1 hP hD hS hA 0 rfl (fun _ => rfl) (by decide) (by decide) (by decide) (Nat.le_of_ble_eq_true rfl) (Nat.le_of_ble_eq_true rfl) d_Mr_init_69 (fun q69 H hP hD hS => ?_)
  refine W.widen (k := 8) (n := 30222) (Nat.le_refl _) (Nat.le_refl _) ?_
  refine va_putF (D := (dC, dI)) (ci := 14) (v := .ref q69) (ty := (.array .int)) (C := R_Mr) (T := F_Mr) (N := 25) hx hb hts (fun w h => List.mem_cons_of_mem _ (in_Mr w h)) t_Mr t_Mr_ok n_Mr hown hK.1 hP hD hS 0 rfl rfl 15 (by decide) (hts _ (List.mem_cons_of_mem _ mw_1727)) (fun _ h9 => h9) rfl hin rfl (by decide +kernel) rfl rfl (Nat.le_of_ble_eq_true rfl) d_Mr_init_71 (fun H locs hP hD hS => ?_)
  have hP : va_P (dC, dI) classes [(h0, .inr (14, [.ref q8, .int 0, .ref q17, .ref q26, .int 0, .int 0, .int 0, .int 0, .ref q35, .ref q44, .ref q53, .int 0, .int 0, .int 0, .ref q61, .ref q69, .null, .null, .null, .null, .int 0, .null, .null, .null, .int 0])), (q8, .inl (cB, 4020, .inl (fun _ => 0))), (q17, .inl (cI, 4021, .inl (fun _ => 0))), (q26, .inl (cI, 4021, .inl (fun _ => 0))), (q35, .inl (cI, 6000, .inl (fun _ => 0))), (q44, .inl (cI, 6000, .inl (fun _ => 0))), (q53, .inl (cI, 6000, .inl (fun _ => 0))), (q61, .inl (cI, 80, .inl (fun _ => 0))), (q69, .inl (cI, 80, .inl (fun _ => 0)))] H := hP
  have hD : va_D A [(h0, .inr (14, [.ref q8, .int 0, .ref q17, .ref q26, .int 0, .int 0, .int 0, .int 0, .ref q35, .ref q44, .ref q53, .int 0, .int 0, .int 0, .ref q61, .ref q69, .null, .null, .null, .null, .int 0, .null, .null, .null, .int 0])), (q8, .inl (cB, 4020, .inl (fun _ => 0))), (q17, .inl (cI, 4021, .inl (fun _ => 0))), (q26, .inl (cI, 4021, .inl (fun _ => 0))), (q35, .inl (cI, 6000, .inl (fun _ => 0))), (q44, .inl (cI, 6000, .inl (fun _ => 0))), (q53, .inl (cI, 6000, .inl (fun _ => 0))), (q61, .inl (cI, 80, .inl (fun _ => 0))), (q69, .inl (cI, 80, .inl (fun _ => 0)))] := hD
  refine lv_aload_n hx hb d_Mr_init_74 rfl (lv_at hl 0 rfl) ?_
  refine lv_sipush (v := 640) hx hb d_Mr_init_75 (by decide) ?_
  refine ka_newa (atype := .int) (ty := .int) (N' := 640) (a0 := (640, .inl (fun _ => 0))) hx hb (hts _ (List.mem_cons_of_mem _ mw_53)) rfl hK.1 hP hD hS hA 0 rfl (fun _ => rfl) (by decide) (by decide) (by decide) (Nat.le_of_ble_eq_true rfl) (Nat.le_of_ble_eq_true rfl) d_Mr_init_78 (fun q78 H hP hD hS => ?_)
  refine W.widen (k := 9) (n := 30862) (Nat.le_refl _) (Nat.le_refl _) ?_
  refine va_putF (D := (dC, dI)) (ci := 14) (v := .ref q78) (ty := (.array .int)) (C := R_Mr) (T := F_Mr) (N := 25) hx hb hts (fun w h => List.mem_cons_of_mem _ (in_Mr w h)) t_Mr t_Mr_ok n_Mr hown hK.1 hP hD hS 0 rfl rfl 16 (by decide) (hts _ (List.mem_cons_of_mem _ mw_1728)) (fun _ h9 => h9) rfl hin rfl (by decide +kernel) rfl rfl (Nat.le_of_ble_eq_true rfl) d_Mr_init_80 (fun H locs hP hD hS => ?_)
  have hP : va_P (dC, dI) classes [(h0, .inr (14, [.ref q8, .int 0, .ref q17, .ref q26, .int 0, .int 0, .int 0, .int 0, .ref q35, .ref q44, .ref q53, .int 0, .int 0, .int 0, .ref q61, .ref q69, .ref q78, .null, .null, .null, .int 0, .null, .null, .null, .int 0])), (q8, .inl (cB, 4020, .inl (fun _ => 0))), (q17, .inl (cI, 4021, .inl (fun _ => 0))), (q26, .inl (cI, 4021, .inl (fun _ => 0))), (q35, .inl (cI, 6000, .inl (fun _ => 0))), (q44, .inl (cI, 6000, .inl (fun _ => 0))), (q53, .inl (cI, 6000, .inl (fun _ => 0))), (q61, .inl (cI, 80, .inl (fun _ => 0))), (q69, .inl (cI, 80, .inl (fun _ => 0))), (q78, .inl (cI, 640, .inl (fun _ => 0)))] H := hP
  have hD : va_D A [(h0, .inr (14, [.ref q8, .int 0, .ref q17, .ref q26, .int 0, .int 0, .int 0, .int 0, .ref q35, .ref q44, .ref q53, .int 0, .int 0, .int 0, .ref q61, .ref q69, .ref q78, .null, .null, .null, .int 0, .null, .null, .null, .int 0])), (q8, .inl (cB, 4020, .inl (fun _ => 0))), (q17, .inl (cI, 4021, .inl (fun _ => 0))), (q26, .inl (cI, 4021, .inl (fun _ => 0))), (q35, .inl (cI, 6000, .inl (fun _ => 0))), (q44, .inl (cI, 6000, .inl (fun _ => 0))), (q53, .inl (cI, 6000, .inl (fun _ => 0))), (q61, .inl (cI, 80, .inl (fun _ => 0))), (q69, .inl (cI, 80, .inl (fun _ => 0))), (q78, .inl (cI, 640, .inl (fun _ => 0)))] := hD
  refine lv_aload_n hx hb d_Mr_init_83 rfl (lv_at hl 0 rfl) ?_
  refine lv_bipush (v := 80) hx hb d_Mr_init_84 (by decide) ?_
  refine ka_newa (atype := .int) (ty := .int) (N' := 80) (a0 := (80, .inl (fun _ => 0))) hx hb (hts _ (List.mem_cons_of_mem _ mw_53)) rfl hK.1 hP hD hS hA 0 rfl (fun _ => rfl) (by decide) (by decide) (by decide) (Nat.le_of_ble_eq_true rfl) (Nat.le_of_ble_eq_true rfl) d_Mr_init_86 (fun q86 H hP hD hS => ?_)
  refine W.widen (k := 10) (n := 30942) (Nat.le_refl _) (Nat.le_refl _) ?_
  refine va_putF (D := (dC, dI)) (ci := 14) (v := .ref q86) (ty := (.array .int)) (C := R_Mr) (T := F_Mr) (N := 25) hx hb hts (fun w h => List.mem_cons_of_mem _ (in_Mr w h)) t_Mr t_Mr_ok n_Mr hown hK.1 hP hD hS 0 rfl rfl 17 (by decide) (hts _ (List.mem_cons_of_mem _ mw_1729)) (fun _ h9 => h9) rfl hin rfl (by decide +kernel) rfl rfl (Nat.le_of_ble_eq_true rfl) d_Mr_init_88 (fun H locs hP hD hS => ?_)
  have hP : va_P (dC, dI) classes [(h0, .inr (14, [.ref q8, .int 0, .ref q17, .ref q26, .int 0, .int 0, .int 0, .int 0, .ref q35, .ref q44, .ref q53, .int 0, .int 0, .int 0, .ref q61, .ref q69, .ref q78, .ref q86, .null, .null, .int 0, .null, .null, .null, .int 0])), (q8, .inl (cB, 4020, .inl (fun _ => 0))), (q17, .inl (cI, 4021, .inl (fun _ => 0))), (q26, .inl (cI, 4021, .inl (fun _ => 0))), (q35, .inl (cI, 6000, .inl (fun _ => 0))), (q44, .inl (cI, 6000, .inl (fun _ => 0))), (q53, .inl (cI, 6000, .inl (fun _ => 0))), (q61, .inl (cI, 80, .inl (fun _ => 0))), (q69, .inl (cI, 80, .inl (fun _ => 0))), (q78, .inl (cI, 640, .inl (fun _ => 0))), (q86, .inl (cI, 80, .inl (fun _ => 0)))] H := hP
  have hD : va_D A [(h0, .inr (14, [.ref q8, .int 0, .ref q17, .ref q26, .int 0, .int 0, .int 0, .int 0, .ref q35, .ref q44, .ref q53, .int 0, .int 0, .int 0, .ref q61, .ref q69, .ref q78, .ref q86, .null, .null, .int 0, .null, .null, .null, .int 0])), (q8, .inl (cB, 4020, .inl (fun _ => 0))), (q17, .inl (cI, 4021, .inl (fun _ => 0))), (q26, .inl (cI, 4021, .inl (fun _ => 0))), (q35, .inl (cI, 6000, .inl (fun _ => 0))), (q44, .inl (cI, 6000, .inl (fun _ => 0))), (q53, .inl (cI, 6000, .inl (fun _ => 0))), (q61, .inl (cI, 80, .inl (fun _ => 0))), (q69, .inl (cI, 80, .inl (fun _ => 0))), (q78, .inl (cI, 640, .inl (fun _ => 0))), (q86, .inl (cI, 80, .inl (fun _ => 0)))] := hD
  refine lv_aload_n hx hb d_Mr_init_91 rfl (lv_at hl 0 rfl) ?_
  refine lv_bipush (v := 80) hx hb d_Mr_init_92 (by decide) ?_
  refine ka_newa (atype := .boolean) (ty := .boolean) (N' := 80) (a0 := (80, .inl (fun _ => 0))) hx hb (hts _ (List.mem_cons_of_mem _ mw_275)) rfl hK.1 hP hD hS hA 2 rfl (fun _ => rfl) (by decide) (by decide) (by decide) (Nat.le_of_ble_eq_true rfl) (Nat.le_of_ble_eq_true rfl) d_Mr_init_94 (fun q94 H hP hD hS => ?_)
  refine W.widen (k := 11) (n := 31022) (Nat.le_refl _) (Nat.le_refl _) ?_
  refine va_putF (D := (dC, dI)) (ci := 14) (v := .ref q94) (ty := (.array .boolean)) (C := R_Mr) (T := F_Mr) (N := 25) hx hb hts (fun w h => List.mem_cons_of_mem _ (in_Mr w h)) t_Mr t_Mr_ok n_Mr hown hK.1 hP hD hS 0 rfl rfl 18 (by decide) (hts _ (List.mem_cons_of_mem _ mw_1730)) (fun _ h9 => h9) rfl hin rfl (by decide +kernel) rfl rfl (Nat.le_of_ble_eq_true rfl) d_Mr_init_96 (fun H locs hP hD hS => ?_)
  have hP : va_P (dC, dI) classes [(h0, .inr (14, [.ref q8, .int 0, .ref q17, .ref q26, .int 0, .int 0, .int 0, .int 0, .ref q35, .ref q44, .ref q53, .int 0, .int 0, .int 0, .ref q61, .ref q69, .ref q78, .ref q86, .ref q94, .null, .int 0, .null, .null, .null, .int 0])), (q8, .inl (cB, 4020, .inl (fun _ => 0))), (q17, .inl (cI, 4021, .inl (fun _ => 0))), (q26, .inl (cI, 4021, .inl (fun _ => 0))), (q35, .inl (cI, 6000, .inl (fun _ => 0))), (q44, .inl (cI, 6000, .inl (fun _ => 0))), (q53, .inl (cI, 6000, .inl (fun _ => 0))), (q61, .inl (cI, 80, .inl (fun _ => 0))), (q69, .inl (cI, 80, .inl (fun _ => 0))), (q78, .inl (cI, 640, .inl (fun _ => 0))), (q86, .inl (cI, 80, .inl (fun _ => 0))), (q94, .inl (cZ, 80, .inl (fun _ => 0)))] H := hP
  have hD : va_D A [(h0, .inr (14, [.ref q8, .int 0, .ref q17, .ref q26, .int 0, .int 0, .int 0, .int 0, .ref q35, .ref q44, .ref q53, .int 0, .int 0, .int 0, .ref q61, .ref q69, .ref q78, .ref q86, .ref q94, .null, .int 0, .null, .null, .null, .int 0])), (q8, .inl (cB, 4020, .inl (fun _ => 0))), (q17, .inl (cI, 4021, .inl (fun _ => 0))), (q26, .inl (cI, 4021, .inl (fun _ => 0))), (q35, .inl (cI, 6000, .inl (fun _ => 0))), (q44, .inl (cI, 6000, .inl (fun _ => 0))), (q53, .inl (cI, 6000, .inl (fun _ => 0))), (q61, .inl (cI, 80, .inl (fun _ => 0))), (q69, .inl (cI, 80, .inl (fun _ => 0))), (q78, .inl (cI, 640, .inl (fun _ => 0))), (q86, .inl (cI, 80, .inl (fun _ => 0))), (q94, .inl (cZ, 80, .inl (fun _ => 0)))] := hD
  refine lv_aload_n hx hb d_Mr_init_99 rfl (lv_at hl 0 rfl) ?_
  refine lv_bipush (v := 80) hx hb d_Mr_init_100 (by decide) ?_
  refine ka_newa (atype := .int) (ty := .int) (N' := 80) (a0 := (80, .inl (fun _ => 0))) hx hb (hts _ (List.mem_cons_of_mem _ mw_53)) rfl hK.1 hP hD hS hA 0 rfl (fun _ => rfl) (by decide) (by decide) (by decide) (Nat.le_of_ble_eq_true rfl) (Nat.le_of_ble_eq_true rfl) d_Mr_init_102 (fun q102 H hP hD hS => ?_)
  refine W.widen (k := 12) (n := 31102) (Nat.le_refl _) (Nat.le_refl _) ?_
  refine va_putF (D := (dC, dI)) (ci := 14) (v := .ref q102) (ty := (.array .int)) (C := R_Mr) (T := F_Mr) (N := 25) hx hb hts (fun w h => List.mem_cons_of_mem _ (in_Mr w h)) t_Mr t_Mr_ok n_Mr hown hK.1 hP hD hS 0 rfl rfl 19 (by decide) (hts _ (List.mem_cons_of_mem _ mw_1731)) (fun _ h9 => h9) rfl hin rfl (by decide +kernel) rfl rfl (Nat.le_of_ble_eq_true rfl) d_Mr_init_104 (fun H locs hP hD hS => ?_)
  have hP : va_P (dC, dI) classes [(h0, .inr (14, [.ref q8, .int 0, .ref q17, .ref q26, .int 0, .int 0, .int 0, .int 0, .ref q35, .ref q44, .ref q53, .int 0, .int 0, .int 0, .ref q61, .ref q69, .ref q78, .ref q86, .ref q94, .ref q102, .int 0, .null, .null, .null, .int 0])), (q8, .inl (cB, 4020, .inl (fun _ => 0))), (q17, .inl (cI, 4021, .inl (fun _ => 0))), (q26, .inl (cI, 4021, .inl (fun _ => 0))), (q35, .inl (cI, 6000, .inl (fun _ => 0))), (q44, .inl (cI, 6000, .inl (fun _ => 0))), (q53, .inl (cI, 6000, .inl (fun _ => 0))), (q61, .inl (cI, 80, .inl (fun _ => 0))), (q69, .inl (cI, 80, .inl (fun _ => 0))), (q78, .inl (cI, 640, .inl (fun _ => 0))), (q86, .inl (cI, 80, .inl (fun _ => 0))), (q94, .inl (cZ, 80, .inl (fun _ => 0))), (q102, .inl (cI, 80, .inl (fun _ => 0)))] H := hP
  have hD : va_D A [(h0, .inr (14, [.ref q8, .int 0, .ref q17, .ref q26, .int 0, .int 0, .int 0, .int 0, .ref q35, .ref q44, .ref q53, .int 0, .int 0, .int 0, .ref q61, .ref q69, .ref q78, .ref q86, .ref q94, .ref q102, .int 0, .null, .null, .null, .int 0])), (q8, .inl (cB, 4020, .inl (fun _ => 0))), (q17, .inl (cI, 4021, .inl (fun _ => 0))), (q26, .inl (cI, 4021, .inl (fun _ => 0))), (q35, .inl (cI, 6000, .inl (fun _ => 0))), (q44, .inl (cI, 6000, .inl (fun _ => 0))), (q53, .inl (cI, 6000, .inl (fun _ => 0))), (q61, .inl (cI, 80, .inl (fun _ => 0))), (q69, .inl (cI, 80, .inl (fun _ => 0))), (q78, .inl (cI, 640, .inl (fun _ => 0))), (q86, .inl (cI, 80, .inl (fun _ => 0))), (q94, .inl (cZ, 80, .inl (fun _ => 0))), (q102, .inl (cI, 80, .inl (fun _ => 0)))] := hD
  refine lv_aload_n hx hb d_Mr_init_107 rfl (lv_at hl 0 rfl) ?_
  refine lv_bipush (v := 40) hx hb d_Mr_init_108 (by decide) ?_
  refine ka_newa (atype := .int) (ty := .int) (N' := 40) (a0 := (40, .inl (fun _ => 0))) hx hb (hts _ (List.mem_cons_of_mem _ mw_53)) rfl hK.1 hP hD hS hA 0 rfl (fun _ => rfl) (by decide) (by decide) (by decide) (Nat.le_of_ble_eq_true rfl) (Nat.le_of_ble_eq_true rfl) d_Mr_init_110 (fun q110 H hP hD hS => ?_)
  refine W.widen (k := 13) (n := 31142) (Nat.le_refl _) (Nat.le_refl _) ?_
  refine va_putF (D := (dC, dI)) (ci := 14) (v := .ref q110) (ty := (.array .int)) (C := R_Mr) (T := F_Mr) (N := 25) hx hb hts (fun w h => List.mem_cons_of_mem _ (in_Mr w h)) t_Mr t_Mr_ok n_Mr hown hK.1 hP hD hS 0 rfl rfl 21 (by decide) (hts _ (List.mem_cons_of_mem _ mw_1734)) (fun _ h9 => h9) rfl hin rfl (by decide +kernel) rfl rfl (Nat.le_of_ble_eq_true rfl) d_Mr_init_112 (fun H locs hP hD hS => ?_)
  have hP : va_P (dC, dI) classes [(h0, .inr (14, [.ref q8, .int 0, .ref q17, .ref q26, .int 0, .int 0, .int 0, .int 0, .ref q35, .ref q44, .ref q53, .int 0, .int 0, .int 0, .ref q61, .ref q69, .ref q78, .ref q86, .ref q94, .ref q102, .int 0, .ref q110, .null, .null, .int 0])), (q8, .inl (cB, 4020, .inl (fun _ => 0))), (q17, .inl (cI, 4021, .inl (fun _ => 0))), (q26, .inl (cI, 4021, .inl (fun _ => 0))), (q35, .inl (cI, 6000, .inl (fun _ => 0))), (q44, .inl (cI, 6000, .inl (fun _ => 0))), (q53, .inl (cI, 6000, .inl (fun _ => 0))), (q61, .inl (cI, 80, .inl (fun _ => 0))), (q69, .inl (cI, 80, .inl (fun _ => 0))), (q78, .inl (cI, 640, .inl (fun _ => 0))), (q86, .inl (cI, 80, .inl (fun _ => 0))), (q94, .inl (cZ, 80, .inl (fun _ => 0))), (q102, .inl (cI, 80, .inl (fun _ => 0))), (q110, .inl (cI, 40, .inl (fun _ => 0)))] H := hP
  have hD : va_D A [(h0, .inr (14, [.ref q8, .int 0, .ref q17, .ref q26, .int 0, .int 0, .int 0, .int 0, .ref q35, .ref q44, .ref q53, .int 0, .int 0, .int 0, .ref q61, .ref q69, .ref q78, .ref q86, .ref q94, .ref q102, .int 0, .ref q110, .null, .null, .int 0])), (q8, .inl (cB, 4020, .inl (fun _ => 0))), (q17, .inl (cI, 4021, .inl (fun _ => 0))), (q26, .inl (cI, 4021, .inl (fun _ => 0))), (q35, .inl (cI, 6000, .inl (fun _ => 0))), (q44, .inl (cI, 6000, .inl (fun _ => 0))), (q53, .inl (cI, 6000, .inl (fun _ => 0))), (q61, .inl (cI, 80, .inl (fun _ => 0))), (q69, .inl (cI, 80, .inl (fun _ => 0))), (q78, .inl (cI, 640, .inl (fun _ => 0))), (q86, .inl (cI, 80, .inl (fun _ => 0))), (q94, .inl (cZ, 80, .inl (fun _ => 0))), (q102, .inl (cI, 80, .inl (fun _ => 0))), (q110, .inl (cI, 40, .inl (fun _ => 0)))] := hD
  refine lv_aload_n hx hb d_Mr_init_115 rfl (lv_at hl 0 rfl) ?_
  refine lv_bipush (v := 40) hx hb d_Mr_init_116 (by decide) ?_
  refine ka_newa (atype := .boolean) (ty := .boolean) (N' := 40) (a0 := (40, .inl (fun _ => 0))) hx hb (hts _ (List.mem_cons_of_mem _ mw_275)) rfl hK.1 hP hD hS hA 2 rfl (fun _ => rfl) (by decide) (by decide) (by decide) (Nat.le_of_ble_eq_true rfl) (Nat.le_of_ble_eq_true rfl) d_Mr_init_118 (fun q118 H hP hD hS => ?_)
  refine W.widen (k := 14) (n := 31182) (Nat.le_refl _) (Nat.le_refl _) ?_
  refine va_putF (D := (dC, dI)) (ci := 14) (v := .ref q118) (ty := (.array .boolean)) (C := R_Mr) (T := F_Mr) (N := 25) hx hb hts (fun w h => List.mem_cons_of_mem _ (in_Mr w h)) t_Mr t_Mr_ok n_Mr hown hK.1 hP hD hS 0 rfl rfl 22 (by decide) (hts _ (List.mem_cons_of_mem _ mw_1736)) (fun _ h9 => h9) rfl hin rfl (by decide +kernel) rfl rfl (Nat.le_of_ble_eq_true rfl) d_Mr_init_120 (fun H locs hP hD hS => ?_)
  have hP : va_P (dC, dI) classes [(h0, .inr (14, [.ref q8, .int 0, .ref q17, .ref q26, .int 0, .int 0, .int 0, .int 0, .ref q35, .ref q44, .ref q53, .int 0, .int 0, .int 0, .ref q61, .ref q69, .ref q78, .ref q86, .ref q94, .ref q102, .int 0, .ref q110, .ref q118, .null, .int 0])), (q8, .inl (cB, 4020, .inl (fun _ => 0))), (q17, .inl (cI, 4021, .inl (fun _ => 0))), (q26, .inl (cI, 4021, .inl (fun _ => 0))), (q35, .inl (cI, 6000, .inl (fun _ => 0))), (q44, .inl (cI, 6000, .inl (fun _ => 0))), (q53, .inl (cI, 6000, .inl (fun _ => 0))), (q61, .inl (cI, 80, .inl (fun _ => 0))), (q69, .inl (cI, 80, .inl (fun _ => 0))), (q78, .inl (cI, 640, .inl (fun _ => 0))), (q86, .inl (cI, 80, .inl (fun _ => 0))), (q94, .inl (cZ, 80, .inl (fun _ => 0))), (q102, .inl (cI, 80, .inl (fun _ => 0))), (q110, .inl (cI, 40, .inl (fun _ => 0))), (q118, .inl (cZ, 40, .inl (fun _ => 0)))] H := hP
  have hD : va_D A [(h0, .inr (14, [.ref q8, .int 0, .ref q17, .ref q26, .int 0, .int 0, .int 0, .int 0, .ref q35, .ref q44, .ref q53, .int 0, .int 0, .int 0, .ref q61, .ref q69, .ref q78, .ref q86, .ref q94, .ref q102, .int 0, .ref q110, .ref q118, .null, .int 0])), (q8, .inl (cB, 4020, .inl (fun _ => 0))), (q17, .inl (cI, 4021, .inl (fun _ => 0))), (q26, .inl (cI, 4021, .inl (fun _ => 0))), (q35, .inl (cI, 6000, .inl (fun _ => 0))), (q44, .inl (cI, 6000, .inl (fun _ => 0))), (q53, .inl (cI, 6000, .inl (fun _ => 0))), (q61, .inl (cI, 80, .inl (fun _ => 0))), (q69, .inl (cI, 80, .inl (fun _ => 0))), (q78, .inl (cI, 640, .inl (fun _ => 0))), (q86, .inl (cI, 80, .inl (fun _ => 0))), (q94, .inl (cZ, 80, .inl (fun _ => 0))), (q102, .inl (cI, 80, .inl (fun _ => 0))), (q110, .inl (cI, 40, .inl (fun _ => 0))), (q118, .inl (cZ, 40, .inl (fun _ => 0)))] := hD
  refine lv_aload_n hx hb d_Mr_init_123 rfl (lv_at hl 0 rfl) ?_
  refine lv_bipush (v := 40) hx hb d_Mr_init_124 (by decide) ?_
  refine ka_newa (atype := .int) (ty := .int) (N' := 40) (a0 := (40, .inl (fun _ => 0))) hx hb (hts _ (List.mem_cons_of_mem _ mw_53)) rfl hK.1 hP hD hS hA 0 rfl (fun _ => rfl) (by decide) (by decide) (by decide) (Nat.le_of_ble_eq_true rfl) (Nat.le_of_ble_eq_true rfl) d_Mr_init_126 (fun q126 H hP hD hS => ?_)
  refine W.widen (k := 15) (n := 31222) (Nat.le_refl _) (Nat.le_refl _) ?_
  refine va_putF (D := (dC, dI)) (ci := 14) (v := .ref q126) (ty := (.array .int)) (C := R_Mr) (T := F_Mr) (N := 25) hx hb hts (fun w h => List.mem_cons_of_mem _ (in_Mr w h)) t_Mr t_Mr_ok n_Mr hown hK.1 hP hD hS 0 rfl rfl 23 (by decide) (hts _ (List.mem_cons_of_mem _ mw_1738)) (fun _ h9 => h9) rfl hin rfl (by decide +kernel) rfl rfl (Nat.le_of_ble_eq_true rfl) d_Mr_init_128 (fun H locs hP hD hS => ?_)
  have hP : va_P (dC, dI) classes [(h0, .inr (14, [.ref q8, .int 0, .ref q17, .ref q26, .int 0, .int 0, .int 0, .int 0, .ref q35, .ref q44, .ref q53, .int 0, .int 0, .int 0, .ref q61, .ref q69, .ref q78, .ref q86, .ref q94, .ref q102, .int 0, .ref q110, .ref q118, .ref q126, .int 0])), (q8, .inl (cB, 4020, .inl (fun _ => 0))), (q17, .inl (cI, 4021, .inl (fun _ => 0))), (q26, .inl (cI, 4021, .inl (fun _ => 0))), (q35, .inl (cI, 6000, .inl (fun _ => 0))), (q44, .inl (cI, 6000, .inl (fun _ => 0))), (q53, .inl (cI, 6000, .inl (fun _ => 0))), (q61, .inl (cI, 80, .inl (fun _ => 0))), (q69, .inl (cI, 80, .inl (fun _ => 0))), (q78, .inl (cI, 640, .inl (fun _ => 0))), (q86, .inl (cI, 80, .inl (fun _ => 0))), (q94, .inl (cZ, 80, .inl (fun _ => 0))), (q102, .inl (cI, 80, .inl (fun _ => 0))), (q110, .inl (cI, 40, .inl (fun _ => 0))), (q118, .inl (cZ, 40, .inl (fun _ => 0))), (q126, .inl (cI, 40, .inl (fun _ => 0)))] H := hP
  have hD : va_D A [(h0, .inr (14, [.ref q8, .int 0, .ref q17, .ref q26, .int 0, .int 0, .int 0, .int 0, .ref q35, .ref q44, .ref q53, .int 0, .int 0, .int 0, .ref q61, .ref q69, .ref q78, .ref q86, .ref q94, .ref q102, .int 0, .ref q110, .ref q118, .ref q126, .int 0])), (q8, .inl (cB, 4020, .inl (fun _ => 0))), (q17, .inl (cI, 4021, .inl (fun _ => 0))), (q26, .inl (cI, 4021, .inl (fun _ => 0))), (q35, .inl (cI, 6000, .inl (fun _ => 0))), (q44, .inl (cI, 6000, .inl (fun _ => 0))), (q53, .inl (cI, 6000, .inl (fun _ => 0))), (q61, .inl (cI, 80, .inl (fun _ => 0))), (q69, .inl (cI, 80, .inl (fun _ => 0))), (q78, .inl (cI, 640, .inl (fun _ => 0))), (q86, .inl (cI, 80, .inl (fun _ => 0))), (q94, .inl (cZ, 80, .inl (fun _ => 0))), (q102, .inl (cI, 80, .inl (fun _ => 0))), (q110, .inl (cI, 40, .inl (fun _ => 0))), (q118, .inl (cZ, 40, .inl (fun _ => 0))), (q126, .inl (cI, 40, .inl (fun _ => 0)))] := hD
  exact W.vret hx hb hr (fun t ht hW => ⟨⟨(), rfl, trivial, ⟨q8, q17, q26, q35, q44, q53, q61, q69, q78, q86, q94, q102, q110, q118, q126, by rw [ht]; exact hP, hD⟩⟩, hS.F ht⟩) hS.2.2 d_Mr_init_131
abbrev t_Tx_init_153 : List UInt8 := 177 :: []
abbrev t_Tx_init_150 : List UInt8 := 181 :: 0 :: 62 :: t_Tx_init_153
abbrev t_Tx_init_148 : List UInt8 := 188 :: 10 :: t_Tx_init_150
abbrev t_Tx_init_145 : List UInt8 := 17 :: 1 :: 44 :: t_Tx_init_148
abbrev t_Tx_init_144 : List UInt8 := 42 :: t_Tx_init_145
abbrev t_Tx_init_141 : List UInt8 := 181 :: 0 :: 59 :: t_Tx_init_144
abbrev t_Tx_init_139 : List UInt8 := 188 :: 10 :: t_Tx_init_141
abbrev t_Tx_init_136 : List UInt8 := 17 :: 1 :: 44 :: t_Tx_init_139
abbrev t_Tx_init_135 : List UInt8 := 42 :: t_Tx_init_136
abbrev t_Tx_init_132 : List UInt8 := 181 :: 0 :: 56 :: t_Tx_init_135
abbrev t_Tx_init_130 : List UInt8 := 188 :: 10 :: t_Tx_init_132
abbrev t_Tx_init_127 : List UInt8 := 17 :: 2 :: 88 :: t_Tx_init_130
abbrev t_Tx_init_126 : List UInt8 := 42 :: t_Tx_init_127
abbrev t_Tx_init_123 : List UInt8 := 181 :: 0 :: 53 :: t_Tx_init_126
abbrev t_Tx_init_121 : List UInt8 := 188 :: 10 :: t_Tx_init_123
abbrev t_Tx_init_119 : List UInt8 := 16 :: 80 :: t_Tx_init_121
abbrev t_Tx_init_118 : List UInt8 := 42 :: t_Tx_init_119
abbrev t_Tx_init_115 : List UInt8 := 181 :: 0 :: 50 :: t_Tx_init_118
abbrev t_Tx_init_113 : List UInt8 := 188 :: 10 :: t_Tx_init_115
abbrev t_Tx_init_111 : List UInt8 := 16 :: 80 :: t_Tx_init_113
abbrev t_Tx_init_110 : List UInt8 := 42 :: t_Tx_init_111
abbrev t_Tx_init_107 : List UInt8 := 181 :: 0 :: 47 :: t_Tx_init_110
abbrev t_Tx_init_105 : List UInt8 := 188 :: 10 :: t_Tx_init_107
abbrev t_Tx_init_103 : List UInt8 := 16 :: 80 :: t_Tx_init_105
abbrev t_Tx_init_102 : List UInt8 := 42 :: t_Tx_init_103
abbrev t_Tx_init_99 : List UInt8 := 181 :: 0 :: 44 :: t_Tx_init_102
abbrev t_Tx_init_97 : List UInt8 := 188 :: 10 :: t_Tx_init_99
abbrev t_Tx_init_95 : List UInt8 := 16 :: 80 :: t_Tx_init_97
abbrev t_Tx_init_94 : List UInt8 := 42 :: t_Tx_init_95
abbrev t_Tx_init_91 : List UInt8 := 181 :: 0 :: 41 :: t_Tx_init_94
abbrev t_Tx_init_89 : List UInt8 := 188 :: 8 :: t_Tx_init_91
abbrev t_Tx_init_86 : List UInt8 := 17 :: 3 :: 192 :: t_Tx_init_89
abbrev t_Tx_init_85 : List UInt8 := 42 :: t_Tx_init_86
abbrev t_Tx_init_82 : List UInt8 := 181 :: 0 :: 38 :: t_Tx_init_85
abbrev t_Tx_init_80 : List UInt8 := 188 :: 10 :: t_Tx_init_82
abbrev t_Tx_init_77 : List UInt8 := 17 :: 2 :: 88 :: t_Tx_init_80
abbrev t_Tx_init_76 : List UInt8 := 42 :: t_Tx_init_77
abbrev t_Tx_init_73 : List UInt8 := 181 :: 0 :: 35 :: t_Tx_init_76
abbrev t_Tx_init_71 : List UInt8 := 188 :: 10 :: t_Tx_init_73
abbrev t_Tx_init_68 : List UInt8 := 17 :: 2 :: 88 :: t_Tx_init_71
abbrev t_Tx_init_67 : List UInt8 := 42 :: t_Tx_init_68
abbrev t_Tx_init_64 : List UInt8 := 181 :: 0 :: 32 :: t_Tx_init_67
abbrev t_Tx_init_62 : List UInt8 := 188 :: 10 :: t_Tx_init_64
abbrev t_Tx_init_59 : List UInt8 := 17 :: 2 :: 88 :: t_Tx_init_62
abbrev t_Tx_init_58 : List UInt8 := 42 :: t_Tx_init_59
abbrev t_Tx_init_55 : List UInt8 := 181 :: 0 :: 29 :: t_Tx_init_58
abbrev t_Tx_init_53 : List UInt8 := 188 :: 10 :: t_Tx_init_55
abbrev t_Tx_init_50 : List UInt8 := 17 :: 2 :: 88 :: t_Tx_init_53
abbrev t_Tx_init_49 : List UInt8 := 42 :: t_Tx_init_50
abbrev t_Tx_init_46 : List UInt8 := 181 :: 0 :: 26 :: t_Tx_init_49
abbrev t_Tx_init_44 : List UInt8 := 188 :: 10 :: t_Tx_init_46
abbrev t_Tx_init_41 : List UInt8 := 17 :: 2 :: 88 :: t_Tx_init_44
abbrev t_Tx_init_40 : List UInt8 := 42 :: t_Tx_init_41
abbrev t_Tx_init_37 : List UInt8 := 181 :: 0 :: 23 :: t_Tx_init_40
abbrev t_Tx_init_35 : List UInt8 := 188 :: 10 :: t_Tx_init_37
abbrev t_Tx_init_32 : List UInt8 := 17 :: 2 :: 88 :: t_Tx_init_35
abbrev t_Tx_init_31 : List UInt8 := 42 :: t_Tx_init_32
abbrev t_Tx_init_28 : List UInt8 := 181 :: 0 :: 19 :: t_Tx_init_31
abbrev t_Tx_init_26 : List UInt8 := 188 :: 11 :: t_Tx_init_28
abbrev t_Tx_init_23 : List UInt8 := 17 :: 2 :: 88 :: t_Tx_init_26
abbrev t_Tx_init_22 : List UInt8 := 42 :: t_Tx_init_23
abbrev t_Tx_init_19 : List UInt8 := 181 :: 0 :: 15 :: t_Tx_init_22
abbrev t_Tx_init_17 : List UInt8 := 188 :: 10 :: t_Tx_init_19
abbrev t_Tx_init_14 : List UInt8 := 17 :: 2 :: 88 :: t_Tx_init_17
abbrev t_Tx_init_13 : List UInt8 := 42 :: t_Tx_init_14
abbrev t_Tx_init_10 : List UInt8 := 181 :: 0 :: 11 :: t_Tx_init_13
abbrev t_Tx_init_8 : List UInt8 := 188 :: 8 :: t_Tx_init_10
abbrev t_Tx_init_5 : List UInt8 := 17 :: 15 :: 180 :: t_Tx_init_8
abbrev t_Tx_init_4 : List UInt8 := 42 :: t_Tx_init_5
abbrev t_Tx_init_1 : List UInt8 := 183 :: 0 :: 3 :: t_Tx_init_4
abbrev t_Tx_init_0 : List UInt8 := 42 :: t_Tx_init_1
theorem a_Tx_init_0 : dk_at b_Tx_init 0 t_Tx_init_0 := dk_start (by decide +kernel)
theorem a_Tx_init_1 : dk_at b_Tx_init 1 t_Tx_init_1 := dk_go 1 a_Tx_init_0 rfl
theorem a_Tx_init_4 : dk_at b_Tx_init 4 t_Tx_init_4 := dk_go 3 a_Tx_init_1 rfl
theorem a_Tx_init_5 : dk_at b_Tx_init 5 t_Tx_init_5 := dk_go 1 a_Tx_init_4 rfl
theorem a_Tx_init_8 : dk_at b_Tx_init 8 t_Tx_init_8 := dk_go 3 a_Tx_init_5 rfl
theorem a_Tx_init_10 : dk_at b_Tx_init 10 t_Tx_init_10 := dk_go 2 a_Tx_init_8 rfl
theorem a_Tx_init_13 : dk_at b_Tx_init 13 t_Tx_init_13 := dk_go 3 a_Tx_init_10 rfl
theorem a_Tx_init_14 : dk_at b_Tx_init 14 t_Tx_init_14 := dk_go 1 a_Tx_init_13 rfl
theorem a_Tx_init_17 : dk_at b_Tx_init 17 t_Tx_init_17 := dk_go 3 a_Tx_init_14 rfl
theorem a_Tx_init_19 : dk_at b_Tx_init 19 t_Tx_init_19 := dk_go 2 a_Tx_init_17 rfl
theorem a_Tx_init_22 : dk_at b_Tx_init 22 t_Tx_init_22 := dk_go 3 a_Tx_init_19 rfl
theorem a_Tx_init_23 : dk_at b_Tx_init 23 t_Tx_init_23 := dk_go 1 a_Tx_init_22 rfl
theorem a_Tx_init_26 : dk_at b_Tx_init 26 t_Tx_init_26 := dk_go 3 a_Tx_init_23 rfl
theorem a_Tx_init_28 : dk_at b_Tx_init 28 t_Tx_init_28 := dk_go 2 a_Tx_init_26 rfl
theorem a_Tx_init_31 : dk_at b_Tx_init 31 t_Tx_init_31 := dk_go 3 a_Tx_init_28 rfl
theorem a_Tx_init_32 : dk_at b_Tx_init 32 t_Tx_init_32 := dk_go 1 a_Tx_init_31 rfl
theorem a_Tx_init_35 : dk_at b_Tx_init 35 t_Tx_init_35 := dk_go 3 a_Tx_init_32 rfl
theorem a_Tx_init_37 : dk_at b_Tx_init 37 t_Tx_init_37 := dk_go 2 a_Tx_init_35 rfl
theorem a_Tx_init_40 : dk_at b_Tx_init 40 t_Tx_init_40 := dk_go 3 a_Tx_init_37 rfl
theorem a_Tx_init_41 : dk_at b_Tx_init 41 t_Tx_init_41 := dk_go 1 a_Tx_init_40 rfl
theorem a_Tx_init_44 : dk_at b_Tx_init 44 t_Tx_init_44 := dk_go 3 a_Tx_init_41 rfl
theorem a_Tx_init_46 : dk_at b_Tx_init 46 t_Tx_init_46 := dk_go 2 a_Tx_init_44 rfl
theorem a_Tx_init_49 : dk_at b_Tx_init 49 t_Tx_init_49 := dk_go 3 a_Tx_init_46 rfl
theorem a_Tx_init_50 : dk_at b_Tx_init 50 t_Tx_init_50 := dk_go 1 a_Tx_init_49 rfl
theorem a_Tx_init_53 : dk_at b_Tx_init 53 t_Tx_init_53 := dk_go 3 a_Tx_init_50 rfl
theorem a_Tx_init_55 : dk_at b_Tx_init 55 t_Tx_init_55 := dk_go 2 a_Tx_init_53 rfl
theorem a_Tx_init_58 : dk_at b_Tx_init 58 t_Tx_init_58 := dk_go 3 a_Tx_init_55 rfl
theorem a_Tx_init_59 : dk_at b_Tx_init 59 t_Tx_init_59 := dk_go 1 a_Tx_init_58 rfl
theorem a_Tx_init_62 : dk_at b_Tx_init 62 t_Tx_init_62 := dk_go 3 a_Tx_init_59 rfl
theorem a_Tx_init_64 : dk_at b_Tx_init 64 t_Tx_init_64 := dk_go 2 a_Tx_init_62 rfl
theorem a_Tx_init_67 : dk_at b_Tx_init 67 t_Tx_init_67 := dk_go 3 a_Tx_init_64 rfl
theorem a_Tx_init_68 : dk_at b_Tx_init 68 t_Tx_init_68 := dk_go 1 a_Tx_init_67 rfl
theorem a_Tx_init_71 : dk_at b_Tx_init 71 t_Tx_init_71 := dk_go 3 a_Tx_init_68 rfl
theorem a_Tx_init_73 : dk_at b_Tx_init 73 t_Tx_init_73 := dk_go 2 a_Tx_init_71 rfl
theorem a_Tx_init_76 : dk_at b_Tx_init 76 t_Tx_init_76 := dk_go 3 a_Tx_init_73 rfl
theorem a_Tx_init_77 : dk_at b_Tx_init 77 t_Tx_init_77 := dk_go 1 a_Tx_init_76 rfl
theorem a_Tx_init_80 : dk_at b_Tx_init 80 t_Tx_init_80 := dk_go 3 a_Tx_init_77 rfl
theorem a_Tx_init_82 : dk_at b_Tx_init 82 t_Tx_init_82 := dk_go 2 a_Tx_init_80 rfl
theorem a_Tx_init_85 : dk_at b_Tx_init 85 t_Tx_init_85 := dk_go 3 a_Tx_init_82 rfl
theorem a_Tx_init_86 : dk_at b_Tx_init 86 t_Tx_init_86 := dk_go 1 a_Tx_init_85 rfl
theorem a_Tx_init_89 : dk_at b_Tx_init 89 t_Tx_init_89 := dk_go 3 a_Tx_init_86 rfl
theorem a_Tx_init_91 : dk_at b_Tx_init 91 t_Tx_init_91 := dk_go 2 a_Tx_init_89 rfl
theorem a_Tx_init_94 : dk_at b_Tx_init 94 t_Tx_init_94 := dk_go 3 a_Tx_init_91 rfl
theorem a_Tx_init_95 : dk_at b_Tx_init 95 t_Tx_init_95 := dk_go 1 a_Tx_init_94 rfl
theorem a_Tx_init_97 : dk_at b_Tx_init 97 t_Tx_init_97 := dk_go 2 a_Tx_init_95 rfl
theorem a_Tx_init_99 : dk_at b_Tx_init 99 t_Tx_init_99 := dk_go 2 a_Tx_init_97 rfl
theorem a_Tx_init_102 : dk_at b_Tx_init 102 t_Tx_init_102 := dk_go 3 a_Tx_init_99 rfl
theorem a_Tx_init_103 : dk_at b_Tx_init 103 t_Tx_init_103 := dk_go 1 a_Tx_init_102 rfl
theorem a_Tx_init_105 : dk_at b_Tx_init 105 t_Tx_init_105 := dk_go 2 a_Tx_init_103 rfl
theorem a_Tx_init_107 : dk_at b_Tx_init 107 t_Tx_init_107 := dk_go 2 a_Tx_init_105 rfl
theorem a_Tx_init_110 : dk_at b_Tx_init 110 t_Tx_init_110 := dk_go 3 a_Tx_init_107 rfl
theorem a_Tx_init_111 : dk_at b_Tx_init 111 t_Tx_init_111 := dk_go 1 a_Tx_init_110 rfl
theorem a_Tx_init_113 : dk_at b_Tx_init 113 t_Tx_init_113 := dk_go 2 a_Tx_init_111 rfl
theorem a_Tx_init_115 : dk_at b_Tx_init 115 t_Tx_init_115 := dk_go 2 a_Tx_init_113 rfl
theorem a_Tx_init_118 : dk_at b_Tx_init 118 t_Tx_init_118 := dk_go 3 a_Tx_init_115 rfl
theorem a_Tx_init_119 : dk_at b_Tx_init 119 t_Tx_init_119 := dk_go 1 a_Tx_init_118 rfl
theorem a_Tx_init_121 : dk_at b_Tx_init 121 t_Tx_init_121 := dk_go 2 a_Tx_init_119 rfl
theorem a_Tx_init_123 : dk_at b_Tx_init 123 t_Tx_init_123 := dk_go 2 a_Tx_init_121 rfl
theorem a_Tx_init_126 : dk_at b_Tx_init 126 t_Tx_init_126 := dk_go 3 a_Tx_init_123 rfl
theorem a_Tx_init_127 : dk_at b_Tx_init 127 t_Tx_init_127 := dk_go 1 a_Tx_init_126 rfl
theorem a_Tx_init_130 : dk_at b_Tx_init 130 t_Tx_init_130 := dk_go 3 a_Tx_init_127 rfl
theorem a_Tx_init_132 : dk_at b_Tx_init 132 t_Tx_init_132 := dk_go 2 a_Tx_init_130 rfl
theorem a_Tx_init_135 : dk_at b_Tx_init 135 t_Tx_init_135 := dk_go 3 a_Tx_init_132 rfl
theorem a_Tx_init_136 : dk_at b_Tx_init 136 t_Tx_init_136 := dk_go 1 a_Tx_init_135 rfl
theorem a_Tx_init_139 : dk_at b_Tx_init 139 t_Tx_init_139 := dk_go 3 a_Tx_init_136 rfl
theorem a_Tx_init_141 : dk_at b_Tx_init 141 t_Tx_init_141 := dk_go 2 a_Tx_init_139 rfl
theorem a_Tx_init_144 : dk_at b_Tx_init 144 t_Tx_init_144 := dk_go 3 a_Tx_init_141 rfl
theorem a_Tx_init_145 : dk_at b_Tx_init 145 t_Tx_init_145 := dk_go 1 a_Tx_init_144 rfl
theorem a_Tx_init_148 : dk_at b_Tx_init 148 t_Tx_init_148 := dk_go 3 a_Tx_init_145 rfl
theorem a_Tx_init_150 : dk_at b_Tx_init 150 t_Tx_init_150 := dk_go 2 a_Tx_init_148 rfl
theorem a_Tx_init_153 : dk_at b_Tx_init 153 t_Tx_init_153 := dk_go 3 a_Tx_init_150 rfl
theorem d_Tx_init_0 : decode b_Tx_init 0 = .ok (.aload_n 0, 1) := dk_0 a_Tx_init_0 (dko_42 _)
theorem d_Tx_init_1 : decode b_Tx_init 1 = .ok (.invokespecial 3, 3) := dk_U2 a_Tx_init_1 (dko_183 _) rfl
theorem d_Tx_init_4 : decode b_Tx_init 4 = .ok (.aload_n 0, 1) := dk_0 a_Tx_init_4 (dko_42 _)
theorem d_Tx_init_5 : decode b_Tx_init 5 = .ok (.sipush 4020, 3) := dk_S2 a_Tx_init_5 (dko_17 _) (by decide +kernel)
theorem d_Tx_init_8 : decode b_Tx_init 8 = .ok (.newarray .byte, 2) := dk_N a_Tx_init_8 (dko_188 _) rfl
theorem d_Tx_init_10 : decode b_Tx_init 10 = .ok (.putfield 11, 3) := dk_U2 a_Tx_init_10 (dko_181 _) rfl
theorem d_Tx_init_13 : decode b_Tx_init 13 = .ok (.aload_n 0, 1) := dk_0 a_Tx_init_13 (dko_42 _)
theorem d_Tx_init_14 : decode b_Tx_init 14 = .ok (.sipush 600, 3) := dk_S2 a_Tx_init_14 (dko_17 _) (by decide +kernel)
theorem d_Tx_init_17 : decode b_Tx_init 17 = .ok (.newarray .int, 2) := dk_N a_Tx_init_17 (dko_188 _) rfl
theorem d_Tx_init_19 : decode b_Tx_init 19 = .ok (.putfield 15, 3) := dk_U2 a_Tx_init_19 (dko_181 _) rfl
theorem d_Tx_init_22 : decode b_Tx_init 22 = .ok (.aload_n 0, 1) := dk_0 a_Tx_init_22 (dko_42 _)
theorem d_Tx_init_23 : decode b_Tx_init 23 = .ok (.sipush 600, 3) := dk_S2 a_Tx_init_23 (dko_17 _) (by decide +kernel)
theorem d_Tx_init_26 : decode b_Tx_init 26 = .ok (.newarray .long, 2) := dk_N a_Tx_init_26 (dko_188 _) rfl
theorem d_Tx_init_28 : decode b_Tx_init 28 = .ok (.putfield 19, 3) := dk_U2 a_Tx_init_28 (dko_181 _) rfl
theorem d_Tx_init_31 : decode b_Tx_init 31 = .ok (.aload_n 0, 1) := dk_0 a_Tx_init_31 (dko_42 _)
theorem d_Tx_init_32 : decode b_Tx_init 32 = .ok (.sipush 600, 3) := dk_S2 a_Tx_init_32 (dko_17 _) (by decide +kernel)
theorem d_Tx_init_35 : decode b_Tx_init 35 = .ok (.newarray .int, 2) := dk_N a_Tx_init_35 (dko_188 _) rfl
theorem d_Tx_init_37 : decode b_Tx_init 37 = .ok (.putfield 23, 3) := dk_U2 a_Tx_init_37 (dko_181 _) rfl
theorem d_Tx_init_40 : decode b_Tx_init 40 = .ok (.aload_n 0, 1) := dk_0 a_Tx_init_40 (dko_42 _)
theorem d_Tx_init_41 : decode b_Tx_init 41 = .ok (.sipush 600, 3) := dk_S2 a_Tx_init_41 (dko_17 _) (by decide +kernel)
theorem d_Tx_init_44 : decode b_Tx_init 44 = .ok (.newarray .int, 2) := dk_N a_Tx_init_44 (dko_188 _) rfl
theorem d_Tx_init_46 : decode b_Tx_init 46 = .ok (.putfield 26, 3) := dk_U2 a_Tx_init_46 (dko_181 _) rfl
theorem d_Tx_init_49 : decode b_Tx_init 49 = .ok (.aload_n 0, 1) := dk_0 a_Tx_init_49 (dko_42 _)
theorem d_Tx_init_50 : decode b_Tx_init 50 = .ok (.sipush 600, 3) := dk_S2 a_Tx_init_50 (dko_17 _) (by decide +kernel)
theorem d_Tx_init_53 : decode b_Tx_init 53 = .ok (.newarray .int, 2) := dk_N a_Tx_init_53 (dko_188 _) rfl
theorem d_Tx_init_55 : decode b_Tx_init 55 = .ok (.putfield 29, 3) := dk_U2 a_Tx_init_55 (dko_181 _) rfl
theorem d_Tx_init_58 : decode b_Tx_init 58 = .ok (.aload_n 0, 1) := dk_0 a_Tx_init_58 (dko_42 _)
theorem d_Tx_init_59 : decode b_Tx_init 59 = .ok (.sipush 600, 3) := dk_S2 a_Tx_init_59 (dko_17 _) (by decide +kernel)
theorem d_Tx_init_62 : decode b_Tx_init 62 = .ok (.newarray .int, 2) := dk_N a_Tx_init_62 (dko_188 _) rfl
theorem d_Tx_init_64 : decode b_Tx_init 64 = .ok (.putfield 32, 3) := dk_U2 a_Tx_init_64 (dko_181 _) rfl
theorem d_Tx_init_67 : decode b_Tx_init 67 = .ok (.aload_n 0, 1) := dk_0 a_Tx_init_67 (dko_42 _)
theorem d_Tx_init_68 : decode b_Tx_init 68 = .ok (.sipush 600, 3) := dk_S2 a_Tx_init_68 (dko_17 _) (by decide +kernel)
theorem d_Tx_init_71 : decode b_Tx_init 71 = .ok (.newarray .int, 2) := dk_N a_Tx_init_71 (dko_188 _) rfl
theorem d_Tx_init_73 : decode b_Tx_init 73 = .ok (.putfield 35, 3) := dk_U2 a_Tx_init_73 (dko_181 _) rfl
theorem d_Tx_init_76 : decode b_Tx_init 76 = .ok (.aload_n 0, 1) := dk_0 a_Tx_init_76 (dko_42 _)
theorem d_Tx_init_77 : decode b_Tx_init 77 = .ok (.sipush 600, 3) := dk_S2 a_Tx_init_77 (dko_17 _) (by decide +kernel)
theorem d_Tx_init_80 : decode b_Tx_init 80 = .ok (.newarray .int, 2) := dk_N a_Tx_init_80 (dko_188 _) rfl
theorem d_Tx_init_82 : decode b_Tx_init 82 = .ok (.putfield 38, 3) := dk_U2 a_Tx_init_82 (dko_181 _) rfl
theorem d_Tx_init_85 : decode b_Tx_init 85 = .ok (.aload_n 0, 1) := dk_0 a_Tx_init_85 (dko_42 _)
theorem d_Tx_init_86 : decode b_Tx_init 86 = .ok (.sipush 960, 3) := dk_S2 a_Tx_init_86 (dko_17 _) (by decide +kernel)
theorem d_Tx_init_89 : decode b_Tx_init 89 = .ok (.newarray .byte, 2) := dk_N a_Tx_init_89 (dko_188 _) rfl
theorem d_Tx_init_91 : decode b_Tx_init 91 = .ok (.putfield 41, 3) := dk_U2 a_Tx_init_91 (dko_181 _) rfl
theorem d_Tx_init_94 : decode b_Tx_init 94 = .ok (.aload_n 0, 1) := dk_0 a_Tx_init_94 (dko_42 _)
theorem d_Tx_init_95 : decode b_Tx_init 95 = .ok (.bipush 80, 2) := dk_S1 a_Tx_init_95 (dko_16 _) (by decide +kernel)
theorem d_Tx_init_97 : decode b_Tx_init 97 = .ok (.newarray .int, 2) := dk_N a_Tx_init_97 (dko_188 _) rfl
theorem d_Tx_init_99 : decode b_Tx_init 99 = .ok (.putfield 44, 3) := dk_U2 a_Tx_init_99 (dko_181 _) rfl
theorem d_Tx_init_102 : decode b_Tx_init 102 = .ok (.aload_n 0, 1) := dk_0 a_Tx_init_102 (dko_42 _)
theorem d_Tx_init_103 : decode b_Tx_init 103 = .ok (.bipush 80, 2) := dk_S1 a_Tx_init_103 (dko_16 _) (by decide +kernel)
theorem d_Tx_init_105 : decode b_Tx_init 105 = .ok (.newarray .int, 2) := dk_N a_Tx_init_105 (dko_188 _) rfl
theorem d_Tx_init_107 : decode b_Tx_init 107 = .ok (.putfield 47, 3) := dk_U2 a_Tx_init_107 (dko_181 _) rfl
theorem d_Tx_init_110 : decode b_Tx_init 110 = .ok (.aload_n 0, 1) := dk_0 a_Tx_init_110 (dko_42 _)
theorem d_Tx_init_111 : decode b_Tx_init 111 = .ok (.bipush 80, 2) := dk_S1 a_Tx_init_111 (dko_16 _) (by decide +kernel)
theorem d_Tx_init_113 : decode b_Tx_init 113 = .ok (.newarray .int, 2) := dk_N a_Tx_init_113 (dko_188 _) rfl
theorem d_Tx_init_115 : decode b_Tx_init 115 = .ok (.putfield 50, 3) := dk_U2 a_Tx_init_115 (dko_181 _) rfl
theorem d_Tx_init_118 : decode b_Tx_init 118 = .ok (.aload_n 0, 1) := dk_0 a_Tx_init_118 (dko_42 _)
theorem d_Tx_init_119 : decode b_Tx_init 119 = .ok (.bipush 80, 2) := dk_S1 a_Tx_init_119 (dko_16 _) (by decide +kernel)
theorem d_Tx_init_121 : decode b_Tx_init 121 = .ok (.newarray .int, 2) := dk_N a_Tx_init_121 (dko_188 _) rfl
theorem d_Tx_init_123 : decode b_Tx_init 123 = .ok (.putfield 53, 3) := dk_U2 a_Tx_init_123 (dko_181 _) rfl
theorem d_Tx_init_126 : decode b_Tx_init 126 = .ok (.aload_n 0, 1) := dk_0 a_Tx_init_126 (dko_42 _)
theorem d_Tx_init_127 : decode b_Tx_init 127 = .ok (.sipush 600, 3) := dk_S2 a_Tx_init_127 (dko_17 _) (by decide +kernel)
theorem d_Tx_init_130 : decode b_Tx_init 130 = .ok (.newarray .int, 2) := dk_N a_Tx_init_130 (dko_188 _) rfl
theorem d_Tx_init_132 : decode b_Tx_init 132 = .ok (.putfield 56, 3) := dk_U2 a_Tx_init_132 (dko_181 _) rfl
theorem d_Tx_init_135 : decode b_Tx_init 135 = .ok (.aload_n 0, 1) := dk_0 a_Tx_init_135 (dko_42 _)
theorem d_Tx_init_136 : decode b_Tx_init 136 = .ok (.sipush 300, 3) := dk_S2 a_Tx_init_136 (dko_17 _) (by decide +kernel)
theorem d_Tx_init_139 : decode b_Tx_init 139 = .ok (.newarray .int, 2) := dk_N a_Tx_init_139 (dko_188 _) rfl
theorem d_Tx_init_141 : decode b_Tx_init 141 = .ok (.putfield 59, 3) := dk_U2 a_Tx_init_141 (dko_181 _) rfl
theorem d_Tx_init_144 : decode b_Tx_init 144 = .ok (.aload_n 0, 1) := dk_0 a_Tx_init_144 (dko_42 _)
theorem d_Tx_init_145 : decode b_Tx_init 145 = .ok (.sipush 300, 3) := dk_S2 a_Tx_init_145 (dko_17 _) (by decide +kernel)
theorem d_Tx_init_148 : decode b_Tx_init 148 = .ok (.newarray .int, 2) := dk_N a_Tx_init_148 (dko_188 _) rfl
theorem d_Tx_init_150 : decode b_Tx_init 150 = .ok (.putfield 62, 3) := dk_U2 a_Tx_init_150 (dko_181 _) rfl
theorem d_Tx_init_153 : decode b_Tx_init 153 = .ok (.return_, 1) := dk_0 a_Tx_init_153 (dko_177 _)
set_option maxHeartbeats 4000000 in
set_option maxRecDepth 100000 in
theorem c_Tx_init (l : Launch) (dC : Nat → ClassId) (dI : Nat → Nat → Nat) (cI cB cZ cJ : ClassId) (h0 : Nat) (sz : Nat) : Met l y_Tx_init w_Tx_init ({ frames := 1, cells := 17, slots := 11300, locals := 20 }) (va_Pc [.ref h0] (PW dC dI cI cB cZ cJ [(h0, .inr (13, [.null, .int 0, .int 0, .int 0, .int 0, .int 0, .int 0, .int 0, .long 0, .int 0, .int 0, .int 0, .int 0, .int 0, .null, .null, .null, .null, .null, .null, .null, .int 0, .null, .int 0, .int 0, .null, .null, .null, .null, .null, .int 0, .int 0, .int 0, .int 0, .null, .int 0, .null, .null, .int 0]))] sz)) (va_Qv (fun _ : Unit => True) (fun (_ : Unit) (t : State) => ∃ q8 q17 q26 q35 q44 q53 q62 q71 q80 q89 q97 q105 q113 q121 q130 q139 q148 : Nat, va_P (dC, dI) classes [(h0, .inr (13, [.ref q8, .int 0, .int 0, .int 0, .int 0, .int 0, .int 0, .int 0, .long 0, .int 0, .int 0, .int 0, .int 0, .int 0, .ref q17, .ref q26, .ref q35, .ref q44, .ref q53, .ref q62, .ref q71, .int 0, .ref q80, .int 0, .int 0, .ref q89, .ref q97, .ref q105, .ref q113, .ref q121, .int 0, .int 0, .int 0, .int 0, .ref q130, .int 0, .ref q139, .ref q148, .int 0])), (q8, .inl (cB, 4020, .inl (fun _ => 0))), (q17, .inl (cI, 600, .inl (fun _ => 0))), (q26, .inl (cJ, 600, .inr (.inl (fun _ => 0)))), (q35, .inl (cI, 600, .inl (fun _ => 0))), (q44, .inl (cI, 600, .inl (fun _ => 0))), (q53, .inl (cI, 600, .inl (fun _ => 0))), (q62, .inl (cI, 600, .inl (fun _ => 0))), (q71, .inl (cI, 600, .inl (fun _ => 0))), (q80, .inl (cI, 600, .inl (fun _ => 0))), (q89, .inl (cB, 960, .inl (fun _ => 0))), (q97, .inl (cI, 80, .inl (fun _ => 0))), (q105, .inl (cI, 80, .inl (fun _ => 0))), (q113, .inl (cI, 80, .inl (fun _ => 0))), (q121, .inl (cI, 80, .inl (fun _ => 0))), (q130, .inl (cI, 600, .inl (fun _ => 0))), (q139, .inl (cI, 300, .inl (fun _ => 0))), (q148, .inl (cI, 300, .inl (fun _ => 0)))] t.heap ∧ va_D (va_A [(h0, .inr (13, [.null, .int 0, .int 0, .int 0, .int 0, .int 0, .int 0, .int 0, .long 0, .int 0, .int 0, .int 0, .int 0, .int 0, .null, .null, .null, .null, .null, .null, .null, .int 0, .null, .int 0, .int 0, .null, .null, .null, .null, .null, .int 0, .int 0, .int 0, .int 0, .null, .int 0, .null, .null, .int 0]))] sz) [(h0, .inr (13, [.ref q8, .int 0, .int 0, .int 0, .int 0, .int 0, .int 0, .int 0, .long 0, .int 0, .int 0, .int 0, .int 0, .int 0, .ref q17, .ref q26, .ref q35, .ref q44, .ref q53, .ref q62, .ref q71, .int 0, .ref q80, .int 0, .int 0, .ref q89, .ref q97, .ref q105, .ref q113, .ref q121, .int 0, .int 0, .int 0, .int 0, .ref q130, .int 0, .ref q139, .ref q148, .int 0])), (q8, .inl (cB, 4020, .inl (fun _ => 0))), (q17, .inl (cI, 600, .inl (fun _ => 0))), (q26, .inl (cJ, 600, .inr (.inl (fun _ => 0)))), (q35, .inl (cI, 600, .inl (fun _ => 0))), (q44, .inl (cI, 600, .inl (fun _ => 0))), (q53, .inl (cI, 600, .inl (fun _ => 0))), (q62, .inl (cI, 600, .inl (fun _ => 0))), (q71, .inl (cI, 600, .inl (fun _ => 0))), (q80, .inl (cI, 600, .inl (fun _ => 0))), (q89, .inl (cB, 960, .inl (fun _ => 0))), (q97, .inl (cI, 80, .inl (fun _ => 0))), (q105, .inl (cI, 80, .inl (fun _ => 0))), (q113, .inl (cI, 80, .inl (fun _ => 0))), (q121, .inl (cI, 80, .inl (fun _ => 0))), (q130, .inl (cI, 600, .inl (fun _ => 0))), (q139, .inl (cI, 300, .inl (fun _ => 0))), (q148, .inl (cI, 300, .inl (fun _ => 0)))]) (va_A [(h0, .inr (13, [.null, .int 0, .int 0, .int 0, .int 0, .int 0, .int 0, .int 0, .long 0, .int 0, .int 0, .int 0, .int 0, .int 0, .null, .null, .null, .null, .null, .null, .null, .int 0, .null, .int 0, .int 0, .null, .null, .null, .null, .null, .int 0, .int 0, .int 0, .int 0, .null, .int 0, .null, .null, .int 0]))] sz)) 17 11300 (va_A [(h0, .inr (13, [.null, .int 0, .int 0, .int 0, .int 0, .int 0, .int 0, .int 0, .long 0, .int 0, .int 0, .int 0, .int 0, .int 0, .null, .null, .null, .null, .null, .null, .null, .int 0, .null, .int 0, .int 0, .null, .null, .null, .null, .null, .int 0, .int 0, .int 0, .int 0, .null, .int 0, .null, .null, .int 0]))] sz) := by
  refine Met.ofW (cc := b_Tx_init) (maxL := 1) (ret := none) (by decide) rfl ?_
  intro p e s m args below meth c s₁ B hml hv
  obtain ⟨rfl, hsz, hP, hK, hD⟩ := hv
  have hx := B.exec
  have hb := B.bytes
  have hr := B.returns
  have hts := atoms_spec (ws := w_Tx_init) B.pre
  have hown : s.vm.findClass R_Tx = some m.cls := findClass_of_methodNamed B.named
  have hlocks := B.notSynchronized
  have hin : meth.name = "<init>" := (name_of_methodNamed B.named B.method).1
  subst hsz
  have hD := hD.self (sz := s.heap.size)
  generalize hAe : va_A [(h0, .inr (13, [.null, .int 0, .int 0, .int 0, .int 0, .int 0, .int 0, .int 0, .long 0, .int 0, .int 0, .int 0, .int 0, .int 0, .null, .null, .null, .null, .null, .null, .null, .int 0, .null, .int 0, .int 0, .null, .null, .null, .null, .null, .int 0, .int 0, .int 0, .int 0, .null, .int 0, .null, .null, .int 0]))] s.heap.size = A at hD ⊢
  have hA : ∀ q : Nat, s.heap.size ≤ q → A q := fun q h => by rw [← hAe]; exact Or.inr h
  have hS : va_S A s.heap s.heap [] := va_S.rf
  have hP : va_P (dC, dI) classes [(h0, .inr (13, [.null, .int 0, .int 0, .int 0, .int 0, .int 0, .int 0, .int 0, .long 0, .int 0, .int 0, .int 0, .int 0, .int 0, .null, .null, .null, .null, .null, .null, .null, .int 0, .null, .int 0, .int 0, .null, .null, .null, .null, .null, .int 0, .int 0, .int 0, .int 0, .null, .int 0, .null, .null, .int 0]))] s.heap := hP
  have hl := lv_entry ([.ref h0]) (n := 1) (Nat.le_of_ble_eq_true rfl)
  rw [lg_entry_eq]
  generalize (lg_sl ([.ref h0]) ++ List.replicate (1 - (lg_sl ([.ref h0])).length) Slot.unset).toArray = ls at hl ⊢
  have hl : lv_has ls 1 [(0, .ref h0)] := hl
  refine lv_aload_n hx hb d_Tx_init_0 rfl (lv_at hl 0 rfl) ?_
  refine W.objInit hx hb hown (hts _ (List.mem_cons_of_mem _ mw_1578)) (hts _ (List.mem_cons_of_mem _ mw_30)) (hts _ (List.mem_cons_of_mem _ mw_31)) rfl (by rw [hml]; exact hl.1) rfl d_Tx_init_1 (Nat.le_of_ble_eq_true rfl) (Nat.le_of_ble_eq_true rfl) ?_
  refine W.eq (g2 := F0 m 4 ls []) rfl ?_
  refine lv_aload_n hx hb d_Tx_init_4 rfl (lv_at hl 0 rfl) ?_
  refine lv_sipush (v := 4020) hx hb d_Tx_init_5 (by decide) ?_
  refine ka_newa (atype := .byte) (ty := .byte) (N' := 4020) (a0 := (4020, .inl (fun _ => 0))) hx hb (hts _ (List.mem_cons_of_mem _ mw_676)) rfl hK.1 hP hD hS hA 1 rfl (fun _ => rfl) (by decide) (by decide) (by decide) (Nat.le_of_ble_eq_true rfl) (Nat.le_of_ble_eq_true rfl) d_Tx_init_8 (fun q8 H hP hD hS => ?_)
  refine W.widen (k := 1) (n := 4020) (Nat.le_refl _) (Nat.le_refl _) ?_
  refine va_putF (D := (dC, dI)) (ci := 13) (v := .ref q8) (ty := (.array .byte)) (C := R_Tx) (T := F_Tx) (N := 39) hx hb hts (fun w h => List.mem_cons_of_mem _ (in_Tx w h)) t_Tx t_Tx_ok n_Tx hown hK.1 hP hD hS 0 rfl rfl 0 (by decide) (hts _ (List.mem_cons_of_mem _ mw_1579)) (fun _ h9 => h9) rfl hin rfl (by decide +kernel) rfl rfl (Nat.le_of_ble_eq_true rfl) d_Tx_init_10 (fun H locs hP hD hS => ?_)
  have hP : va_P (dC, dI) classes [(h0, .inr (13, [.ref q8, .int 0, .int 0, .int 0, .int 0, .int 0, .int 0, .int 0, .long 0, .int 0, .int 0, .int 0, .int 0, .int 0, .null, .null, .null, .null, .null, .null, .null, .int 0, .null, .int 0, .int 0, .null, .null, .null, .null, .null, .int 0, .int 0, .int 0, .int 0, .null, .int 0, .null, .null, .int 0])), (q8, .inl (cB, 4020, .inl (fun _ => 0)))] H := hP
  have hD : va_D A [(h0, .inr (13, [.ref q8, .int 0, .int 0, .int 0, .int 0, .int 0, .int 0, .int 0, .long 0, .int 0, .int 0, .int 0, .int 0, .int 0, .null, .null, .null, .null, .null, .null, .null, .int 0, .null, .int 0, .int 0, .null, .null, .null, .null, .null, .int 0, .int 0, .int 0, .int 0, .null, .int 0, .null, .null, .int 0])), (q8, .inl (cB, 4020, .inl (fun _ => 0)))] := hD
  refine lv_aload_n hx hb d_Tx_init_13 rfl (lv_at hl 0 rfl) ?_
  refine lv_sipush (v := 600) hx hb d_Tx_init_14 (by decide) ?_
  refine ka_newa (atype := .int) (ty := .int) (N' := 600) (a0 := (600, .inl (fun _ => 0))) hx hb (hts _ (List.mem_cons_of_mem _ mw_53)) rfl hK.1 hP hD hS hA 0 rfl (fun _ => rfl) (by decide) (by decide) (by decide) (Nat.le_of_ble_eq_true rfl) (Nat.le_of_ble_eq_true rfl) d_Tx_init_17 (fun q17 H hP hD hS => ?_)
  refine W.widen (k := 2) (n := 4620) (Nat.le_refl _) (Nat.le_refl _) ?_
  refine va_putF (D := (dC, dI)) (ci := 13) (v := .ref q17) (ty := (.array .int)) (C := R_Tx) (T := F_Tx) (N := 39) hx hb hts (fun w h => List.mem_cons_of_mem _ (in_Tx w h)) t_Tx t_Tx_ok n_Tx hown hK.1 hP hD hS 0 rfl rfl 14 (by decide) (hts _ (List.mem_cons_of_mem _ mw_1594)) (fun _ h9 => h9) rfl hin rfl (by decide +kernel) rfl rfl (Nat.le_of_ble_eq_true rfl) d_Tx_init_19 (fun H locs hP hD hS => ?_)
  have hP : va_P (dC, dI) classes [(h0, .inr (13, [.ref q8, .int 0, .int 0, .int 0, .int 0, .int 0, .int 0, .int 0, .long 0, .int 0, .int 0, .int 0, .int 0, .int 0, .ref q17, .null, .null, .null, .null, .null, .null, .int 0, .null, .int 0, .int 0, .null, .null, .null, .null, .null, .int 0, .int 0, .int 0, .int 0, .null, .int 0, .null, .null, .int 0])), (q8, .inl (cB, 4020, .inl (fun _ => 0))), (q17, .inl (cI, 600, .inl (fun _ => 0)))] H := hP
  have hD : va_D A [(h0, .inr (13, [.ref q8, .int 0, .int 0, .int 0, .int 0, .int 0, .int 0, .int 0, .long 0, .int 0, .int 0, .int 0, .int 0, .int 0, .ref q17, .null, .null, .null, .null, .null, .null, .int 0, .null, .int 0, .int 0, .null, .null, .null, .null, .null, .int 0, .int 0, .int 0, .int 0, .null, .int 0, .null, .null, .int 0])), (q8, .inl (cB, 4020, .inl (fun _ => 0))), (q17, .inl (cI, 600, .inl (fun _ => 0)))] := hD
  refine lv_aload_n hx hb d_Tx_init_22 rfl (lv_at hl 0 rfl) ?_
  refine lv_sipush (v := 600) hx hb d_Tx_init_23 (by decide) ?_
  refine ka_newa (atype := .long) (ty := .long) (N' := 600) (a0 := (600, .inr (.inl (fun _ => 0)))) hx hb (hts _ (List.mem_cons_of_mem _ mw_208)) rfl hK.1 hP hD hS hA 3 rfl (fun _ => rfl) (by decide) (by decide) (by decide) (Nat.le_of_ble_eq_true rfl) (Nat.le_of_ble_eq_true rfl) d_Tx_init_26 (fun q26 H hP hD hS => ?_)
  refine W.widen (k := 3) (n := 5220) (Nat.le_refl _) (Nat.le_refl _) ?_
  refine va_putF (D := (dC, dI)) (ci := 13) (v := .ref q26) (ty := (.array .long)) (C := R_Tx) (T := F_Tx) (N := 39) hx hb hts (fun w h => List.mem_cons_of_mem _ (in_Tx w h)) t_Tx t_Tx_ok n_Tx hown hK.1 hP hD hS 0 rfl rfl 15 (by decide) (hts _ (List.mem_cons_of_mem _ mw_1596)) (fun _ h9 => h9) rfl hin rfl (by decide +kernel) rfl rfl (Nat.le_of_ble_eq_true rfl) d_Tx_init_28 (fun H locs hP hD hS => ?_)
  have hP : va_P (dC, dI) classes [(h0, .inr (13, [.ref q8, .int 0, .int 0, .int 0, .int 0, .int 0, .int 0, .int 0, .long 0, .int 0, .int 0, .int 0, .int 0, .int 0, .ref q17, .ref q26, .null, .null, .null, .null, .null, .int 0, .null, .int 0, .int 0, .null, .null, .null, .null, .null, .int 0, .int 0, .int 0, .int 0, .null, .int 0, .null, .null, .int 0])), (q8, .inl (cB, 4020, .inl (fun _ => 0))), (q17, .inl (cI, 600, .inl (fun _ => 0))), (q26, .inl (cJ, 600, .inr (.inl (fun _ => 0))))] H := hP
  have hD : va_D A [(h0, .inr (13, [.ref q8, .int 0, .int 0, .int 0, .int 0, .int 0, .int 0, .int 0, .long 0, .int 0, .int 0, .int 0, .int 0, .int 0, .ref q17, .ref q26, .null, .null, .null, .null, .null, .int 0, .null, .int 0, .int 0, .null, .null, .null, .null, .null, .int 0, .int 0, .int 0, .int 0, .null, .int 0, .null, .null, .int 0])), (q8, .inl (cB, 4020, .inl (fun _ => 0))), (q17, .inl (cI, 600, .inl (fun _ => 0))), (q26, .inl (cJ, 600, .inr (.inl (fun _ => 0))))] := hD
  refine lv_aload_n hx hb d_Tx_init_31 rfl (lv_at hl 0 rfl) ?_
  refine lv_sipush (v := 600) hx hb d_Tx_init_32 (by decide) ?_
  refine ka_newa (atype := .int) (ty := .int) (N' := 600) (a0 := (600, .inl (fun _ => 0))) hx hb (hts _ (List.mem_cons_of_mem _ mw_53)) rfl hK.1 hP hD hS hA 0 rfl (fun _ => rfl) (by decide) (by decide) (by decide) (Nat.le_of_ble_eq_true rfl) (Nat.le_of_ble_eq_true rfl) d_Tx_init_35 (fun q35 H hP hD hS => ?_)
  refine W.widen (k := 4) (n := 5820) (Nat.le_refl _) (Nat.le_refl _) ?_
  refine va_putF (D := (dC, dI)) (ci := 13) (v := .ref q35) (ty := (.array .int)) (C := R_Tx) (T := F_Tx) (N := 39) hx hb hts (fun w h => List.mem_cons_of_mem _ (in_Tx w h)) t_Tx t_Tx_ok n_Tx hown hK.1 hP hD hS 0 rfl rfl 16 (by decide) (hts _ (List.mem_cons_of_mem _ mw_1598)) (fun _ h9 => h9) rfl hin rfl (by decide +kernel) rfl rfl (Nat.le_of_ble_eq_true rfl) d_Tx_init_37 (fun H locs hP hD hS => ?_)
  have hP : va_P (dC, dI) classes [(h0, .inr (13, [.ref q8, .int 0, .int 0, .int 0, .int 0, .int 0, .int 0, .int 0, .long 0, .int 0, .int 0, .int 0, .int 0, .int 0, .ref q17, .ref q26, .ref q35, .null, .null, .null, .null, .int 0, .null, .int 0, .int 0, .null, .null, .null, .null, .null, .int 0, .int 0, .int 0, .int 0, .null, .int 0, .null, .null, .int 0])), (q8, .inl (cB, 4020, .inl (fun _ => 0))), (q17, .inl (cI, 600, .inl (fun _ => 0))), (q26, .inl (cJ, 600, .inr (.inl (fun _ => 0)))), (q35, .inl (cI, 600, .inl (fun _ => 0)))] H := hP
  have hD : va_D A [(h0, .inr (13, [.ref q8, .int 0, .int 0, .int 0, .int 0, .int 0, .int 0, .int 0, .long 0, .int 0, .int 0, .int 0, .int 0, .int 0, .ref q17, .ref q26, .ref q35, .null, .null, .null, .null, .int 0, .null, .int 0, .int 0, .null, .null, .null, .null, .null, .int 0, .int 0, .int 0, .int 0, .null, .int 0, .null, .null, .int 0])), (q8, .inl (cB, 4020, .inl (fun _ => 0))), (q17, .inl (cI, 600, .inl (fun _ => 0))), (q26, .inl (cJ, 600, .inr (.inl (fun _ => 0)))), (q35, .inl (cI, 600, .inl (fun _ => 0)))] := hD
  refine lv_aload_n hx hb d_Tx_init_40 rfl (lv_at hl 0 rfl) ?_
  refine lv_sipush (v := 600) hx hb d_Tx_init_41 (by decide) ?_
  refine ka_newa (atype := .int) (ty := .int) (N' := 600) (a0 := (600, .inl (fun _ => 0))) hx hb (hts _ (List.mem_cons_of_mem _ mw_53)) rfl hK.1 hP hD hS hA 0 rfl (fun _ => rfl) (by decide) (by decide) (by decide) (Nat.le_of_ble_eq_true rfl) (Nat.le_of_ble_eq_true rfl) d_Tx_init_44 (fun q44 H hP hD hS => ?_)
  refine W.widen (k := 5) (n := 6420) (Nat.le_refl _) (Nat.le_refl _) ?_
  refine va_putF (D := (dC, dI)) (ci := 13) (v := .ref q44) (ty := (.array .int)) (C := R_Tx) (T := F_Tx) (N := 39) hx hb hts (fun w h => List.mem_cons_of_mem _ (in_Tx w h)) t_Tx t_Tx_ok n_Tx hown hK.1 hP hD hS 0 rfl rfl 17 (by decide) (hts _ (List.mem_cons_of_mem _ mw_1599)) (fun _ h9 => h9) rfl hin rfl (by decide +kernel) rfl rfl (Nat.le_of_ble_eq_true rfl) d_Tx_init_46 (fun H locs hP hD hS => ?_)
  have hP : va_P (dC, dI) classes [(h0, .inr (13, [.ref q8, .int 0, .int 0, .int 0, .int 0, .int 0, .int 0, .int 0, .long 0, .int 0, .int 0, .int 0, .int 0, .int 0, .ref q17, .ref q26, .ref q35, .ref q44, .null, .null, .null, .int 0, .null, .int 0, .int 0, .null, .null, .null, .null, .null, .int 0, .int 0, .int 0, .int 0, .null, .int 0, .null, .null, .int 0])), (q8, .inl (cB, 4020, .inl (fun _ => 0))), (q17, .inl (cI, 600, .inl (fun _ => 0))), (q26, .inl (cJ, 600, .inr (.inl (fun _ => 0)))), (q35, .inl (cI, 600, .inl (fun _ => 0))), (q44, .inl (cI, 600, .inl (fun _ => 0)))] H := hP
  have hD : va_D A [(h0, .inr (13, [.ref q8, .int 0, .int 0, .int 0, .int 0, .int 0, .int 0, .int 0, .long 0, .int 0, .int 0, .int 0, .int 0, .int 0, .ref q17, .ref q26, .ref q35, .ref q44, .null, .null, .null, .int 0, .null, .int 0, .int 0, .null, .null, .null, .null, .null, .int 0, .int 0, .int 0, .int 0, .null, .int 0, .null, .null, .int 0])), (q8, .inl (cB, 4020, .inl (fun _ => 0))), (q17, .inl (cI, 600, .inl (fun _ => 0))), (q26, .inl (cJ, 600, .inr (.inl (fun _ => 0)))), (q35, .inl (cI, 600, .inl (fun _ => 0))), (q44, .inl (cI, 600, .inl (fun _ => 0)))] := hD
  refine lv_aload_n hx hb d_Tx_init_49 rfl (lv_at hl 0 rfl) ?_
  refine lv_sipush (v := 600) hx hb d_Tx_init_50 (by decide) ?_
  refine ka_newa (atype := .int) (ty := .int) (N' := 600) (a0 := (600, .inl (fun _ => 0))) hx hb (hts _ (List.mem_cons_of_mem _ mw_53)) rfl hK.1 hP hD hS hA 0 rfl (fun _ => rfl) (by decide) (by decide) (by decide) (Nat.le_of_ble_eq_true rfl) (Nat.le_of_ble_eq_true rfl) d_Tx_init_53 (fun q53 H hP hD hS => ?_)
  refine W.widen (k := 6) (n := 7020) (Nat.le_refl _) (Nat.le_refl _) ?_
  refine va_putF (D := (dC, dI)) (ci := 13) (v := .ref q53) (ty := (.array .int)) (C := R_Tx) (T := F_Tx) (N := 39) hx hb hts (fun w h => List.mem_cons_of_mem _ (in_Tx w h)) t_Tx t_Tx_ok n_Tx hown hK.1 hP hD hS 0 rfl rfl 18 (by decide) (hts _ (List.mem_cons_of_mem _ mw_1600)) (fun _ h9 => h9) rfl hin rfl (by decide +kernel) rfl rfl (Nat.le_of_ble_eq_true rfl) d_Tx_init_55 (fun H locs hP hD hS => ?_)
  have hP : va_P (dC, dI) classes [(h0, .inr (13, [.ref q8, .int 0, .int 0, .int 0, .int 0, .int 0, .int 0, .int 0, .long 0, .int 0, .int 0, .int 0, .int 0, .int 0, .ref q17, .ref q26, .ref q35, .ref q44, .ref q53, .null, .null, .int 0, .null, .int 0, .int 0, .null, .null, .null, .null, .null, .int 0, .int 0, .int 0, .int 0, .null, .int 0, .null, .null, .int 0])), (q8, .inl (cB, 4020, .inl (fun _ => 0))), (q17, .inl (cI, 600, .inl (fun _ => 0))), (q26, .inl (cJ, 600, .inr (.inl (fun _ => 0)))), (q35, .inl (cI, 600, .inl (fun _ => 0))), (q44, .inl (cI, 600, .inl (fun _ => 0))), (q53, .inl (cI, 600, .inl (fun _ => 0)))] H := hP
  have hD : va_D A [(h0, .inr (13, [.ref q8, .int 0, .int 0, .int 0, .int 0, .int 0, .int 0, .int 0, .long 0, .int 0, .int 0, .int 0, .int 0, .int 0, .ref q17, .ref q26, .ref q35, .ref q44, .ref q53, .null, .null, .int 0, .null, .int 0, .int 0, .null, .null, .null, .null, .null, .int 0, .int 0, .int 0, .int 0, .null, .int 0, .null, .null, .int 0])), (q8, .inl (cB, 4020, .inl (fun _ => 0))), (q17, .inl (cI, 600, .inl (fun _ => 0))), (q26, .inl (cJ, 600, .inr (.inl (fun _ => 0)))), (q35, .inl (cI, 600, .inl (fun _ => 0))), (q44, .inl (cI, 600, .inl (fun _ => 0))), (q53, .inl (cI, 600, .inl (fun _ => 0)))] := hD
  refine lv_aload_n hx hb d_Tx_init_58 rfl (lv_at hl 0 rfl) ?_
  refine lv_sipush (v := 600) hx hb d_Tx_init_59 (by decide) ?_
  refine ka_newa (atype := .int) (ty := .int) (N' := 600) (a0 := (600, .inl (fun _ => 0))) hx hb (hts _ (List.mem_cons_of_mem _ mw_53)) rfl hK.1 hP hD hS hA 0 rfl (fun _ => rfl) (by decide) (by decide) (by decide) (Nat.le_of_ble_eq_true rfl) (Nat.le_of_ble_eq_true rfl) d_Tx_init_62 (fun q62 H hP hD hS => ?_)
  refine W.widen (k := 7) (n := 7620) (Nat.le_refl _) (Nat.le_refl _) ?_
  refine va_putF (D := (dC, dI)) (ci := 13) (v := .ref q62) (ty := (.array .int)) (C := R_Tx) (T := F_Tx) (N := 39) hx hb hts (fun w h => List.mem_cons_of_mem _ (in_Tx w h)) t_Tx t_Tx_ok n_Tx hown hK.1 hP hD hS 0 rfl rfl 19 (by decide) (hts _ (List.mem_cons_of_mem _ mw_1601)) (fun _ h9 => h9) rfl hin rfl (by decide +kernel) rfl rfl (Nat.le_of_ble_eq_true rfl) d_Tx_init_64 (fun H locs hP hD hS => ?_)
  have hP : va_P (dC, dI) classes [(h0, .inr (13, [.ref q8, .int 0, .int 0, .int 0, .int 0, .int 0, .int 0, .int 0, .long 0, .int 0, .int 0, .int 0, .int 0, .int 0, .ref q17, .ref q26, .ref q35, .ref q44, .ref q53, .ref q62, .null, .int 0, .null, .int 0, .int 0, .null, .null, .null, .null, .null, .int 0, .int 0, .int 0, .int 0, .null, .int 0, .null, .null, .int 0])), (q8, .inl (cB, 4020, .inl (fun _ => 0))), (q17, .inl (cI, 600, .inl (fun _ => 0))), (q26, .inl (cJ, 600, .inr (.inl (fun _ => 0)))), (q35, .inl (cI, 600, .inl (fun _ => 0))), (q44, .inl (cI, 600, .inl (fun _ => 0))), (q53, .inl (cI, 600, .inl (fun _ => 0))), (q62, .inl (cI, 600, .inl (fun _ => 0)))] H := hP
  have hD : va_D A [(h0, .inr (13, [.ref q8, .int 0, .int 0, .int 0, .int 0, .int 0, .int 0, .int 0, .long 0, .int 0, .int 0, .int 0, .int 0, .int 0, .ref q17, .ref q26, .ref q35, .ref q44, .ref q53, .ref q62, .null, .int 0, .null, .int 0, .int 0, .null, .null, .null, .null, .null, .int 0, .int 0, .int 0, .int 0, .null, .int 0, .null, .null, .int 0])), (q8, .inl (cB, 4020, .inl (fun _ => 0))), (q17, .inl (cI, 600, .inl (fun _ => 0))), (q26, .inl (cJ, 600, .inr (.inl (fun _ => 0)))), (q35, .inl (cI, 600, .inl (fun _ => 0))), (q44, .inl (cI, 600, .inl (fun _ => 0))), (q53, .inl (cI, 600, .inl (fun _ => 0))), (q62, .inl (cI, 600, .inl (fun _ => 0)))] := hD
  refine lv_aload_n hx hb d_Tx_init_67 rfl (lv_at hl 0 rfl) ?_
  refine lv_sipush (v := 600) hx hb d_Tx_init_68 (by decide) ?_
  refine ka_newa (atype := .int) (ty := .int) (N' := 600) (a0 := (600, .inl (fun _ => 0))) hx hb (hts _ (List.mem_cons_of_mem _ mw_53)) rfl hK.1 hP hD hS hA 0 rfl (fun _ => rfl) (by decide) (by decide) (by decide) (Nat.le_of_ble_eq_true rfl) (Nat.le_of_ble_eq_true rfl) d_Tx_init_71 (fun q71 H hP hD hS => ?_)
  refine W.widen (k := 8) (n := 8220) (Nat.le_refl _) (Nat.le_refl _) ?_
  refine va_putF (D := (dC, dI)) (ci := 13) (v := .ref q71) (ty := (.array .int)) (C := R_Tx) (T := F_Tx) (N := 39) hx hb hts (fun w h => List.mem_cons_of_mem _ (in_Tx w h)) t_Tx t_Tx_ok n_Tx hown hK.1 hP hD hS 0 rfl rfl 20 (by decide) (hts _ (List.mem_cons_of_mem _ mw_1603)) (fun _ h9 => h9) rfl hin rfl (by decide +kernel) rfl rfl (Nat.le_of_ble_eq_true rfl) d_Tx_init_73 (fun H locs hP hD hS => ?_)
  have hP : va_P (dC, dI) classes [(h0, .inr (13, [.ref q8, .int 0, .int 0, .int 0, .int 0, .int 0, .int 0, .int 0, .long 0, .int 0, .int 0, .int 0, .int 0, .int 0, .ref q17, .ref q26, .ref q35, .ref q44, .ref q53, .ref q62, .ref q71, .int 0, .null, .int 0, .int 0, .null, .null, .null, .null, .null, .int 0, .int 0, .int 0, .int 0, .null, .int 0, .null, .null, .int 0])), (q8, .inl (cB, 4020, .inl (fun _ => 0))), (q17, .inl (cI, 600, .inl (fun _ => 0))), (q26, .inl (cJ, 600, .inr (.inl (fun _ => 0)))), (q35, .inl (cI, 600, .inl (fun _ => 0))), (q44, .inl (cI, 600, .inl (fun _ => 0))), (q53, .inl (cI, 600, .inl (fun _ => 0))), (q62, .inl (cI, 600, .inl (fun _ => 0))), (q71, .inl (cI, 600, .inl (fun _ => 0)))] H := hP
  have hD : va_D A [(h0, .inr (13, [.ref q8, .int 0, .int 0, .int 0, .int 0, .int 0, .int 0, .int 0, .long 0, .int 0, .int 0, .int 0, .int 0, .int 0, .ref q17, .ref q26, .ref q35, .ref q44, .ref q53, .ref q62, .ref q71, .int 0, .null, .int 0, .int 0, .null, .null, .null, .null, .null, .int 0, .int 0, .int 0, .int 0, .null, .int 0, .null, .null, .int 0])), (q8, .inl (cB, 4020, .inl (fun _ => 0))), (q17, .inl (cI, 600, .inl (fun _ => 0))), (q26, .inl (cJ, 600, .inr (.inl (fun _ => 0)))), (q35, .inl (cI, 600, .inl (fun _ => 0))), (q44, .inl (cI, 600, .inl (fun _ => 0))), (q53, .inl (cI, 600, .inl (fun _ => 0))), (q62, .inl (cI, 600, .inl (fun _ => 0))), (q71, .inl (cI, 600, .inl (fun _ => 0)))] := hD
  refine lv_aload_n hx hb d_Tx_init_76 rfl (lv_at hl 0 rfl) ?_
  refine lv_sipush (v := 600) hx hb d_Tx_init_77 (by decide) ?_
  refine ka_newa (atype := .int) (ty := .int) (N' := 600) (a0 := (600, .inl (fun _ => 0))) hx hb (hts _ (List.mem_cons_of_mem _ mw_53)) rfl hK.1 hP hD hS hA 0 rfl (fun _ => rfl) (by decide) (by decide) (by decide) (Nat.le_of_ble_eq_true rfl) (Nat.le_of_ble_eq_true rfl) d_Tx_init_80 (fun q80 H hP hD hS => ?_)
  refine W.widen (k := 9) (n := 8820) (Nat.le_refl _) (Nat.le_refl _) ?_
  refine va_putF (D := (dC, dI)) (ci := 13) (v := .ref q80) (ty := (.array .int)) (C := R_Tx) (T := F_Tx) (N := 39) hx hb hts (fun w h => List.mem_cons_of_mem _ (in_Tx w h)) t_Tx t_Tx_ok n_Tx hown hK.1 hP hD hS 0 rfl rfl 22 (by decide) (hts _ (List.mem_cons_of_mem _ mw_1605)) (fun _ h9 => h9) rfl hin rfl (by decide +kernel) rfl rfl (Nat.le_of_ble_eq_true rfl) d_Tx_init_82 (fun H locs hP hD hS => ?_)
  have hP : va_P (dC, dI) classes [(h0, .inr (13, [.ref q8, .int 0, .int 0, .int 0, .int 0, .int 0, .int 0, .int 0, .long 0, .int 0, .int 0, .int 0, .int 0, .int 0, .ref q17, .ref q26, .ref q35, .ref q44, .ref q53, .ref q62, .ref q71, .int 0, .ref q80, .int 0, .int 0, .null, .null, .null, .null, .null, .int 0, .int 0, .int 0, .int 0, .null, .int 0, .null, .null, .int 0])), (q8, .inl (cB, 4020, .inl (fun _ => 0))), (q17, .inl (cI, 600, .inl (fun _ => 0))), (q26, .inl (cJ, 600, .inr (.inl (fun _ => 0)))), (q35, .inl (cI, 600, .inl (fun _ => 0))), (q44, .inl (cI, 600, .inl (fun _ => 0))), (q53, .inl (cI, 600, .inl (fun _ => 0))), (q62, .inl (cI, 600, .inl (fun _ => 0))), (q71, .inl (cI, 600, .inl (fun _ => 0))), (q80, .inl (cI, 600, .inl (fun _ => 0)))] H := hP
  have hD : va_D A [(h0, .inr (13, [.ref q8, .int 0, .int 0, .int 0, .int 0, .int 0, .int 0, .int 0, .long 0, .int 0, .int 0, .int 0, .int 0, .int 0, .ref q17, .ref q26, .ref q35, .ref q44, .ref q53, .ref q62, .ref q71, .int 0, .ref q80, .int 0, .int 0, .null, .null, .null, .null, .null, .int 0, .int 0, .int 0, .int 0, .null, .int 0, .null, .null, .int 0])), (q8, .inl (cB, 4020, .inl (fun _ => 0))), (q17, .inl (cI, 600, .inl (fun _ => 0))), (q26, .inl (cJ, 600, .inr (.inl (fun _ => 0)))), (q35, .inl (cI, 600, .inl (fun _ => 0))), (q44, .inl (cI, 600, .inl (fun _ => 0))), (q53, .inl (cI, 600, .inl (fun _ => 0))), (q62, .inl (cI, 600, .inl (fun _ => 0))), (q71, .inl (cI, 600, .inl (fun _ => 0))), (q80, .inl (cI, 600, .inl (fun _ => 0)))] := hD
  refine lv_aload_n hx hb d_Tx_init_85 rfl (lv_at hl 0 rfl) ?_
  refine lv_sipush (v := 960) hx hb d_Tx_init_86 (by decide) ?_
  refine ka_newa (atype := .byte) (ty := .byte) (N' := 960) (a0 := (960, .inl (fun _ => 0))) hx hb (hts _ (List.mem_cons_of_mem _ mw_676)) rfl hK.1 hP hD hS hA 1 rfl (fun _ => rfl) (by decide) (by decide) (by decide) (Nat.le_of_ble_eq_true rfl) (Nat.le_of_ble_eq_true rfl) d_Tx_init_89 (fun q89 H hP hD hS => ?_)
  refine W.widen (k := 10) (n := 9780) (Nat.le_refl _) (Nat.le_refl _) ?_
  refine va_putF (D := (dC, dI)) (ci := 13) (v := .ref q89) (ty := (.array .byte)) (C := R_Tx) (T := F_Tx) (N := 39) hx hb hts (fun w h => List.mem_cons_of_mem _ (in_Tx w h)) t_Tx t_Tx_ok n_Tx hown hK.1 hP hD hS 0 rfl rfl 25 (by decide) (hts _ (List.mem_cons_of_mem _ mw_1609)) (fun _ h9 => h9) rfl hin rfl (by decide +kernel) rfl rfl (Nat.le_of_ble_eq_true rfl) d_Tx_init_91 (fun H locs hP hD hS => ?_)
  have hP : va_P (dC, dI) classes [(h0, .inr (13, [.ref q8, .int 0, .int 0, .int 0, .int 0, .int 0, .int 0, .int 0, .long 0, .int 0, .int 0, .int 0, .int 0, .int 0, .ref q17, .ref q26, .ref q35, .ref q44, .ref q53, .ref q62, .ref q71, .int 0, .ref q80, .int 0, .int 0, .ref q89, .null, .null, .null, .null, .int 0, .int 0, .int 0, .int 0, .null, .int 0, .null, .null, .int 0])), (q8, .inl (cB, 4020, .inl (fun _ => 0))), (q17, .inl (cI, 600, .inl (fun _ => 0))), (q26, .inl (cJ, 600, .inr (.inl (fun _ => 0)))), (q35, .inl (cI, 600, .inl (fun _ => 0))), (q44, .inl (cI, 600, .inl (fun _ => 0))), (q53, .inl (cI, 600, .inl (fun _ => 0))), (q62, .inl (cI, 600, .inl (fun _ => 0))), (q71, .inl (cI, 600, .inl (fun _ => 0))), (q80, .inl (cI, 600, .inl (fun _ => 0))), (q89, .inl (cB, 960, .inl (fun _ => 0)))] H := hP
  have hD : va_D A [(h0, .inr (13, [.ref q8, .int 0, .int 0, .int 0, .int 0, .int 0, .int 0, .int 0, .long 0, .int 0, .int 0, .int 0, .int 0, .int 0, .ref q17, .ref q26, .ref q35, .ref q44, .ref q53, .ref q62, .ref q71, .int 0, .ref q80, .int 0, .int 0, .ref q89, .null, .null, .null, .null, .int 0, .int 0, .int 0, .int 0, .null, .int 0, .null, .null, .int 0])), (q8, .inl (cB, 4020, .inl (fun _ => 0))), (q17, .inl (cI, 600, .inl (fun _ => 0))), (q26, .inl (cJ, 600, .inr (.inl (fun _ => 0)))), (q35, .inl (cI, 600, .inl (fun _ => 0))), (q44, .inl (cI, 600, .inl (fun _ => 0))), (q53, .inl (cI, 600, .inl (fun _ => 0))), (q62, .inl (cI, 600, .inl (fun _ => 0))), (q71, .inl (cI, 600, .inl (fun _ => 0))), (q80, .inl (cI, 600, .inl (fun _ => 0))), (q89, .inl (cB, 960, .inl (fun _ => 0)))] := hD
  refine lv_aload_n hx hb d_Tx_init_94 rfl (lv_at hl 0 rfl) ?_
  refine lv_bipush (v := 80) hx hb d_Tx_init_95 (by decide) ?_
  refine ka_newa (atype := .int) (ty := .int) (N' := 80) (a0 := (80, .inl (fun _ => 0))) hx hb (hts _ (List.mem_cons_of_mem _ mw_53)) rfl hK.1 hP hD hS hA 0 rfl (fun _ => rfl) (by decide) (by decide) (by decide) (Nat.le_of_ble_eq_true rfl) (Nat.le_of_ble_eq_true rfl) d_Tx_init_97 (fun q97 H hP hD hS => ?_)
  refine W.widen (k := 11) (n := 9860) (Nat.le_refl _) (Nat.le_refl _) ?_
  refine va_putF (D := (dC, dI)) (ci := 13) (v := .ref q97) (ty := (.array .int)) (C := R_Tx) (T := F_Tx) (N := 39) hx hb hts (fun w h => List.mem_cons_of_mem _ (in_Tx w h)) t_Tx t_Tx_ok n_Tx hown hK.1 hP hD hS 0 rfl rfl 26 (by decide) (hts _ (List.mem_cons_of_mem _ mw_1610)) (fun _ h9 => h9) rfl hin rfl (by decide +kernel) rfl rfl (Nat.le_of_ble_eq_true rfl) d_Tx_init_99 (fun H locs hP hD hS => ?_)
  have hP : va_P (dC, dI) classes [(h0, .inr (13, [.ref q8, .int 0, .int 0, .int 0, .int 0, .int 0, .int 0, .int 0, .long 0, .int 0, .int 0, .int 0, .int 0, .int 0, .ref q17, .ref q26, .ref q35, .ref q44, .ref q53, .ref q62, .ref q71, .int 0, .ref q80, .int 0, .int 0, .ref q89, .ref q97, .null, .null, .null, .int 0, .int 0, .int 0, .int 0, .null, .int 0, .null, .null, .int 0])), (q8, .inl (cB, 4020, .inl (fun _ => 0))), (q17, .inl (cI, 600, .inl (fun _ => 0))), (q26, .inl (cJ, 600, .inr (.inl (fun _ => 0)))), (q35, .inl (cI, 600, .inl (fun _ => 0))), (q44, .inl (cI, 600, .inl (fun _ => 0))), (q53, .inl (cI, 600, .inl (fun _ => 0))), (q62, .inl (cI, 600, .inl (fun _ => 0))), (q71, .inl (cI, 600, .inl (fun _ => 0))), (q80, .inl (cI, 600, .inl (fun _ => 0))), (q89, .inl (cB, 960, .inl (fun _ => 0))), (q97, .inl (cI, 80, .inl (fun _ => 0)))] H := hP
  have hD : va_D A [(h0, .inr (13, [.ref q8, .int 0, .int 0, .int 0, .int 0, .int 0, .int 0, .int 0, .long 0, .int 0, .int 0, .int 0, .int 0, .int 0, .ref q17, .ref q26, .ref q35, .ref q44, .ref q53, .ref q62, .ref q71, .int 0, .ref q80, .int 0, .int 0, .ref q89, .ref q97, .null, .null, .null, .int 0, .int 0, .int 0, .int 0, .null, .int 0, .null, .null, .int 0])), (q8, .inl (cB, 4020, .inl (fun _ => 0))), (q17, .inl (cI, 600, .inl (fun _ => 0))), (q26, .inl (cJ, 600, .inr (.inl (fun _ => 0)))), (q35, .inl (cI, 600, .inl (fun _ => 0))), (q44, .inl (cI, 600, .inl (fun _ => 0))), (q53, .inl (cI, 600, .inl (fun _ => 0))), (q62, .inl (cI, 600, .inl (fun _ => 0))), (q71, .inl (cI, 600, .inl (fun _ => 0))), (q80, .inl (cI, 600, .inl (fun _ => 0))), (q89, .inl (cB, 960, .inl (fun _ => 0))), (q97, .inl (cI, 80, .inl (fun _ => 0)))] := hD
  refine lv_aload_n hx hb d_Tx_init_102 rfl (lv_at hl 0 rfl) ?_
  refine lv_bipush (v := 80) hx hb d_Tx_init_103 (by decide) ?_
  refine ka_newa (atype := .int) (ty := .int) (N' := 80) (a0 := (80, .inl (fun _ => 0))) hx hb (hts _ (List.mem_cons_of_mem _ mw_53)) rfl hK.1 hP hD hS hA 0 rfl (fun _ => rfl) (by decide) (by decide) (by decide) (Nat.le_of_ble_eq_true rfl) (Nat.le_of_ble_eq_true rfl) d_Tx_init_105 (fun q105 H hP hD hS => ?_)
  refine W.widen (k := 12) (n := 9940) (Nat.le_refl _) (Nat.le_refl _) ?_
  refine va_putF (D := (dC, dI)) (ci := 13) (v := .ref q105) (ty := (.array .int)) (C := R_Tx) (T := F_Tx) (N := 39) hx hb hts (fun w h => List.mem_cons_of_mem _ (in_Tx w h)) t_Tx t_Tx_ok n_Tx hown hK.1 hP hD hS 0 rfl rfl 27 (by decide) (hts _ (List.mem_cons_of_mem _ mw_1611)) (fun _ h9 => h9) rfl hin rfl (by decide +kernel) rfl rfl (Nat.le_of_ble_eq_true rfl) d_Tx_init_107 (fun H locs hP hD hS => ?_)
  have hP : va_P (dC, dI) classes [(h0, .inr (13, [.ref q8, .int 0, .int 0, .int 0, .int 0, .int 0, .int 0, .int 0, .long 0, .int 0, .int 0, .int 0, .int 0, .int 0, .ref q17, .ref q26, .ref q35, .ref q44, .ref q53, .ref q62, .ref q71, .int 0, .ref q80, .int 0, .int 0, .ref q89, .ref q97, .ref q105, .null, .null, .int 0, .int 0, .int 0, .int 0, .null, .int 0, .null, .null, .int 0])), (q8, .inl (cB, 4020, .inl (fun _ => 0))), (q17, .inl (cI, 600, .inl (fun _ => 0))), (q26, .inl (cJ, 600, .inr (.inl (fun _ => 0)))), (q35, .inl (cI, 600, .inl (fun _ => 0))), (q44, .inl (cI, 600, .inl (fun _ => 0))), (q53, .inl (cI, 600, .inl (fun _ => 0))), (q62, .inl (cI, 600, .inl (fun _ => 0))), (q71, .inl (cI, 600, .inl (fun _ => 0))), (q80, .inl (cI, 600, .inl (fun _ => 0))), (q89, .inl (cB, 960, .inl (fun _ => 0))), (q97, .inl (cI, 80, .inl (fun _ => 0))), (q105, .inl (cI, 80, .inl (fun _ => 0)))] H := hP
  have hD : va_D A [(h0, .inr (13, [.ref q8, .int 0, .int 0, .int 0, .int 0, .int 0, .int 0, .int 0, .long 0, .int 0, .int 0, .int 0, .int 0, .int 0, .ref q17, .ref q26, .ref q35, .ref q44, .ref q53, .ref q62, .ref q71, .int 0, .ref q80, .int 0, .int 0, .ref q89, .ref q97, .ref q105, .null, .null, .int 0, .int 0, .int 0, .int 0, .null, .int 0, .null, .null, .int 0])), (q8, .inl (cB, 4020, .inl (fun _ => 0))), (q17, .inl (cI, 600, .inl (fun _ => 0))), (q26, .inl (cJ, 600, .inr (.inl (fun _ => 0)))), (q35, .inl (cI, 600, .inl (fun _ => 0))), (q44, .inl (cI, 600, .inl (fun _ => 0))), (q53, .inl (cI, 600, .inl (fun _ => 0))), (q62, .inl (cI, 600, .inl (fun _ => 0))), (q71, .inl (cI, 600, .inl (fun _ => 0))), (q80, .inl (cI, 600, .inl (fun _ => 0))), (q89, .inl (cB, 960, .inl (fun _ => 0))), (q97, .inl (cI, 80, .inl (fun _ => 0))), (q105, .inl (cI, 80, .inl (fun _ => 0)))] := hD
  refine lv_aload_n hx hb d_Tx_init_110 rfl (lv_at hl 0 rfl) ?_
  refine lv_bipush (v := 80) hx hb d_Tx_init_111 (by decide) ?_
  refine ka_newa (atype := .int) (ty := .int) (N' := 80) (a0 := (80, .inl (fun _ => 0))) hx hb (hts _ (List.mem_cons_of_mem _ mw_53)) rfl hK.1 hP hD hS hA 0 rfl (fun _ => rfl) (by decide) (by decide) (by decide) (Nat.le_of_ble_eq_true rfl) (Nat.le_of_ble_eq_true rfl) d_Tx_init_113 (fun q113 H hP hD hS => ?_)
  refine W.widen (k := 13) (n := 10020) (Nat.le_refl _) (Nat.le_refl _) ?_
  refine va_putF (D := (dC, dI)) (ci := 13) (v := .ref q113) (ty := (.array .int)) (C := R_Tx) (T := F_Tx) (N := 39) hx hb hts (fun w h => List.mem_cons_of_mem _ (in_Tx w h)) t_Tx t_Tx_ok n_Tx hown hK.1 hP hD hS 0 rfl rfl 28 (by decide) (hts _ (List.mem_cons_of_mem _ mw_1613)) (fun _ h9 => h9) rfl hin rfl (by decide +kernel) rfl rfl (Nat.le_of_ble_eq_true rfl) d_Tx_init_115 (fun H locs hP hD hS => ?_)
  have hP : va_P (dC, dI) classes [(h0, .inr (13, [.ref q8, .int 0, .int 0, .int 0, .int 0, .int 0, .int 0, .int 0, .long 0, .int 0, .int 0, .int 0, .int 0, .int 0, .ref q17, .ref q26, .ref q35, .ref q44, .ref q53, .ref q62, .ref q71, .int 0, .ref q80, .int 0, .int 0, .ref q89, .ref q97, .ref q105, .ref q113, .null, .int 0, .int 0, .int 0, .int 0, .null, .int 0, .null, .null, .int 0])), (q8, .inl (cB, 4020, .inl (fun _ => 0))), (q17, .inl (cI, 600, .inl (fun _ => 0))), (q26, .inl (cJ, 600, .inr (.inl (fun _ => 0)))), (q35, .inl (cI, 600, .inl (fun _ => 0))), (q44, .inl (cI, 600, .inl (fun _ => 0))), (q53, .inl (cI, 600, .inl (fun _ => 0))), (q62, .inl (cI, 600, .inl (fun _ => 0))), (q71, .inl (cI, 600, .inl (fun _ => 0))), (q80, .inl (cI, 600, .inl (fun _ => 0))), (q89, .inl (cB, 960, .inl (fun _ => 0))), (q97, .inl (cI, 80, .inl (fun _ => 0))), (q105, .inl (cI, 80, .inl (fun _ => 0))), (q113, .inl (cI, 80, .inl (fun _ => 0)))] H := hP
  have hD : va_D A [(h0, .inr (13, [.ref q8, .int 0, .int 0, .int 0, .int 0, .int 0, .int 0, .int 0, .long 0, .int 0, .int 0, .int 0, .int 0, .int 0, .ref q17, .ref q26, .ref q35, .ref q44, .ref q53, .ref q62, .ref q71, .int 0, .ref q80, .int 0, .int 0, .ref q89, .ref q97, .ref q105, .ref q113, .null, .int 0, .int 0, .int 0, .int 0, .null, .int 0, .null, .null, .int 0])), (q8, .inl (cB, 4020, .inl (fun _ => 0))), (q17, .inl (cI, 600, .inl (fun _ => 0))), (q26, .inl (cJ, 600, .inr (.inl (fun _ => 0)))), (q35, .inl (cI, 600, .inl (fun _ => 0))), (q44, .inl (cI, 600, .inl (fun _ => 0))), (q53, .inl (cI, 600, .inl (fun _ => 0))), (q62, .inl (cI, 600, .inl (fun _ => 0))), (q71, .inl (cI, 600, .inl (fun _ => 0))), (q80, .inl (cI, 600, .inl (fun _ => 0))), (q89, .inl (cB, 960, .inl (fun _ => 0))), (q97, .inl (cI, 80, .inl (fun _ => 0))), (q105, .inl (cI, 80, .inl (fun _ => 0))), (q113, .inl (cI, 80, .inl (fun _ => 0)))] := hD
  refine lv_aload_n hx hb d_Tx_init_118 rfl (lv_at hl 0 rfl) ?_
  refine lv_bipush (v := 80) hx hb d_Tx_init_119 (by decide) ?_
  refine ka_newa (atype := .int) (ty := .int) (N' := 80) (a0 := (80, .inl (fun _ => 0))) hx hb (hts _ (List.mem_cons_of_mem _ mw_53)) rfl hK.1 hP hD hS hA 0 rfl (fun _ => rfl) (by decide) (by decide) (by decide) (Nat.le_of_ble_eq_true rfl) (Nat.le_of_ble_eq_true rfl) d_Tx_init_121 (fun q121 H hP hD hS => ?_)
  refine W.widen (k := 14) (n := 10100) (Nat.le_refl _) (Nat.le_refl _) ?_
  refine va_putF (D := (dC, dI)) (ci := 13) (v := .ref q121) (ty := (.array .int)) (C := R_Tx) (T := F_Tx) (N := 39) hx hb hts (fun w h => List.mem_cons_of_mem _ (in_Tx w h)) t_Tx t_Tx_ok n_Tx hown hK.1 hP hD hS 0 rfl rfl 29 (by decide) (hts _ (List.mem_cons_of_mem _ mw_1614)) (fun _ h9 => h9) rfl hin rfl (by decide +kernel) rfl rfl (Nat.le_of_ble_eq_true rfl) d_Tx_init_123 (fun H locs hP hD hS => ?_)
  have hP : va_P (dC, dI) classes [(h0, .inr (13, [.ref q8, .int 0, .int 0, .int 0, .int 0, .int 0, .int 0, .int 0, .long 0, .int 0, .int 0, .int 0, .int 0, .int 0, .ref q17, .ref q26, .ref q35, .ref q44, .ref q53, .ref q62, .ref q71, .int 0, .ref q80, .int 0, .int 0, .ref q89, .ref q97, .ref q105, .ref q113, .ref q121, .int 0, .int 0, .int 0, .int 0, .null, .int 0, .null, .null, .int 0])), (q8, .inl (cB, 4020, .inl (fun _ => 0))), (q17, .inl (cI, 600, .inl (fun _ => 0))), (q26, .inl (cJ, 600, .inr (.inl (fun _ => 0)))), (q35, .inl (cI, 600, .inl (fun _ => 0))), (q44, .inl (cI, 600, .inl (fun _ => 0))), (q53, .inl (cI, 600, .inl (fun _ => 0))), (q62, .inl (cI, 600, .inl (fun _ => 0))), (q71, .inl (cI, 600, .inl (fun _ => 0))), (q80, .inl (cI, 600, .inl (fun _ => 0))), (q89, .inl (cB, 960, .inl (fun _ => 0))), (q97, .inl (cI, 80, .inl (fun _ => 0))), (q105, .inl (cI, 80, .inl (fun _ => 0))), (q113, .inl (cI, 80, .inl (fun _ => 0))), (q121, .inl (cI, 80, .inl (fun _ => 0)))] H := hP
  have hD : va_D A [(h0, .inr (13, [.ref q8, .int 0, .int 0, .int 0, .int 0, .int 0, .int 0, .int 0, .long 0, .int 0, .int 0, .int 0, .int 0, .int 0, .ref q17, .ref q26, .ref q35, .ref q44, .ref q53, .ref q62, .ref q71, .int 0, .ref q80, .int 0, .int 0, .ref q89, .ref q97, .ref q105, .ref q113, .ref q121, .int 0, .int 0, .int 0, .int 0, .null, .int 0, .null, .null, .int 0])), (q8, .inl (cB, 4020, .inl (fun _ => 0))), (q17, .inl (cI, 600, .inl (fun _ => 0))), (q26, .inl (cJ, 600, .inr (.inl (fun _ => 0)))), (q35, .inl (cI, 600, .inl (fun _ => 0))), (q44, .inl (cI, 600, .inl (fun _ => 0))), (q53, .inl (cI, 600, .inl (fun _ => 0))), (q62, .inl (cI, 600, .inl (fun _ => 0))), (q71, .inl (cI, 600, .inl (fun _ => 0))), (q80, .inl (cI, 600, .inl (fun _ => 0))), (q89, .inl (cB, 960, .inl (fun _ => 0))), (q97, .inl (cI, 80, .inl (fun _ => 0))), (q105, .inl (cI, 80, .inl (fun _ => 0))), (q113, .inl (cI, 80, .inl (fun _ => 0))), (q121, .inl (cI, 80, .inl (fun _ => 0)))] := hD
  refine lv_aload_n hx hb d_Tx_init_126 rfl (lv_at hl 0 rfl) ?_
  refine lv_sipush (v := 600) hx hb d_Tx_init_127 (by decide) ?_
  refine ka_newa (atype := .int) (ty := .int) (N' := 600) (a0 := (600, .inl (fun _ => 0))) hx hb (hts _ (List.mem_cons_of_mem _ mw_53)) rfl hK.1 hP hD hS hA 0 rfl (fun _ => rfl) (by decide) (by decide) (by decide) (Nat.le_of_ble_eq_true rfl) (Nat.le_of_ble_eq_true rfl) d_Tx_init_130 (fun q130 H hP hD hS => ?_)
  refine W.widen (k := 15) (n := 10700) (Nat.le_refl _) (Nat.le_refl _) ?_
  refine va_putF (D := (dC, dI)) (ci := 13) (v := .ref q130) (ty := (.array .int)) (C := R_Tx) (T := F_Tx) (N := 39) hx hb hts (fun w h => List.mem_cons_of_mem _ (in_Tx w h)) t_Tx t_Tx_ok n_Tx hown hK.1 hP hD hS 0 rfl rfl 34 (by decide) (hts _ (List.mem_cons_of_mem _ mw_1622)) (fun _ h9 => h9) rfl hin rfl (by decide +kernel) rfl rfl (Nat.le_of_ble_eq_true rfl) d_Tx_init_132 (fun H locs hP hD hS => ?_)
  have hP : va_P (dC, dI) classes [(h0, .inr (13, [.ref q8, .int 0, .int 0, .int 0, .int 0, .int 0, .int 0, .int 0, .long 0, .int 0, .int 0, .int 0, .int 0, .int 0, .ref q17, .ref q26, .ref q35, .ref q44, .ref q53, .ref q62, .ref q71, .int 0, .ref q80, .int 0, .int 0, .ref q89, .ref q97, .ref q105, .ref q113, .ref q121, .int 0, .int 0, .int 0, .int 0, .ref q130, .int 0, .null, .null, .int 0])), (q8, .inl (cB, 4020, .inl (fun _ => 0))), (q17, .inl (cI, 600, .inl (fun _ => 0))), (q26, .inl (cJ, 600, .inr (.inl (fun _ => 0)))), (q35, .inl (cI, 600, .inl (fun _ => 0))), (q44, .inl (cI, 600, .inl (fun _ => 0))), (q53, .inl (cI, 600, .inl (fun _ => 0))), (q62, .inl (cI, 600, .inl (fun _ => 0))), (q71, .inl (cI, 600, .inl (fun _ => 0))), (q80, .inl (cI, 600, .inl (fun _ => 0))), (q89, .inl (cB, 960, .inl (fun _ => 0))), (q97, .inl (cI, 80, .inl (fun _ => 0))), (q105, .inl (cI, 80, .inl (fun _ => 0))), (q113, .inl (cI, 80, .inl (fun _ => 0))), (q121, .inl (cI, 80, .inl (fun _ => 0))), (q130, .inl (cI, 600, .inl (fun _ => 0)))] H := hP
  have hD : va_D A [(h0, .inr (13, [.ref q8, .int 0, .int 0, .int 0, .int 0, .int 0, .int 0, .int 0, .long 0, .int 0, .int 0, .int 0, .int 0, .int 0, .ref q17, .ref q26, .ref q35, .ref q44, .ref q53, .ref q62, .ref q71, .int 0, .ref q80, .int 0, .int 0, .ref q89, .ref q97, .ref q105, .ref q113, .ref q121, .int 0, .int 0, .int 0, .int 0, .ref q130, .int 0, .null, .null, .int 0])), (q8, .inl (cB, 4020, .inl (fun _ => 0))), (q17, .inl (cI, 600, .inl (fun _ => 0))), (q26, .inl (cJ, 600, .inr (.inl (fun _ => 0)))), (q35, .inl (cI, 600, .inl (fun _ => 0))), (q44, .inl (cI, 600, .inl (fun _ => 0))), (q53, .inl (cI, 600, .inl (fun _ => 0))), (q62, .inl (cI, 600, .inl (fun _ => 0))), (q71, .inl (cI, 600, .inl (fun _ => 0))), (q80, .inl (cI, 600, .inl (fun _ => 0))), (q89, .inl (cB, 960, .inl (fun _ => 0))), (q97, .inl (cI, 80, .inl (fun _ => 0))), (q105, .inl (cI, 80, .inl (fun _ => 0))), (q113, .inl (cI, 80, .inl (fun _ => 0))), (q121, .inl (cI, 80, .inl (fun _ => 0))), (q130, .inl (cI, 600, .inl (fun _ => 0)))] := hD
  refine lv_aload_n hx hb d_Tx_init_135 rfl (lv_at hl 0 rfl) ?_
  refine lv_sipush (v := 300) hx hb d_Tx_init_136 (by decide) ?_
  refine ka_newa (atype := .int) (ty := .int) (N' := 300) (a0 := (300, .inl (fun _ => 0))) hx hb (hts _ (List.mem_cons_of_mem _ mw_53)) rfl hK.1 hP hD hS hA 0 rfl (fun _ => rfl) (by decide) (by decide) (by decide) (Nat.le_of_ble_eq_true rfl) (Nat.le_of_ble_eq_true rfl) d_Tx_init_139 (fun q139 H hP hD hS => ?_)
  refine W.widen (k := 16) (n := 11000) (Nat.le_refl _) (Nat.le_refl _) ?_
  refine va_putF (D := (dC, dI)) (ci := 13) (v := .ref q139) (ty := (.array .int)) (C := R_Tx) (T := F_Tx) (N := 39) hx hb hts (fun w h => List.mem_cons_of_mem _ (in_Tx w h)) t_Tx t_Tx_ok n_Tx hown hK.1 hP hD hS 0 rfl rfl 36 (by decide) (hts _ (List.mem_cons_of_mem _ mw_1624)) (fun _ h9 => h9) rfl hin rfl (by decide +kernel) rfl rfl (Nat.le_of_ble_eq_true rfl) d_Tx_init_141 (fun H locs hP hD hS => ?_)
  have hP : va_P (dC, dI) classes [(h0, .inr (13, [.ref q8, .int 0, .int 0, .int 0, .int 0, .int 0, .int 0, .int 0, .long 0, .int 0, .int 0, .int 0, .int 0, .int 0, .ref q17, .ref q26, .ref q35, .ref q44, .ref q53, .ref q62, .ref q71, .int 0, .ref q80, .int 0, .int 0, .ref q89, .ref q97, .ref q105, .ref q113, .ref q121, .int 0, .int 0, .int 0, .int 0, .ref q130, .int 0, .ref q139, .null, .int 0])), (q8, .inl (cB, 4020, .inl (fun _ => 0))), (q17, .inl (cI, 600, .inl (fun _ => 0))), (q26, .inl (cJ, 600, .inr (.inl (fun _ => 0)))), (q35, .inl (cI, 600, .inl (fun _ => 0))), (q44, .inl (cI, 600, .inl (fun _ => 0))), (q53, .inl (cI, 600, .inl (fun _ => 0))), (q62, .inl (cI, 600, .inl (fun _ => 0))), (q71, .inl (cI, 600, .inl (fun _ => 0))), (q80, .inl (cI, 600, .inl (fun _ => 0))), (q89, .inl (cB, 960, .inl (fun _ => 0))), (q97, .inl (cI, 80, .inl (fun _ => 0))), (q105, .inl (cI, 80, .inl (fun _ => 0))), (q113, .inl (cI, 80, .inl (fun _ => 0))), (q121, .inl (cI, 80, .inl (fun _ => 0))), (q130, .inl (cI, 600, .inl (fun _ => 0))), (q139, .inl (cI, 300, .inl (fun _ => 0)))] H := hP
  have hD : va_D A [(h0, .inr (13, [.ref q8, .int 0, .int 0, .int 0, .int 0, .int 0, .int 0, .int 0, .long 0, .int 0, .int 0, .int 0, .int 0, .int 0, .ref q17, .ref q26, .ref q35, .ref q44, .ref q53, .ref q62, .ref q71, .int 0, .ref q80, .int 0, .int 0, .ref q89, .ref q97, .ref q105, .ref q113, .ref q121, .int 0, .int 0, .int 0, .int 0, .ref q130, .int 0, .ref q139, .null, .int 0])), (q8, .inl (cB, 4020, .inl (fun _ => 0))), (q17, .inl (cI, 600, .inl (fun _ => 0))), (q26, .inl (cJ, 600, .inr (.inl (fun _ => 0)))), (q35, .inl (cI, 600, .inl (fun _ => 0))), (q44, .inl (cI, 600, .inl (fun _ => 0))), (q53, .inl (cI, 600, .inl (fun _ => 0))), (q62, .inl (cI, 600, .inl (fun _ => 0))), (q71, .inl (cI, 600, .inl (fun _ => 0))), (q80, .inl (cI, 600, .inl (fun _ => 0))), (q89, .inl (cB, 960, .inl (fun _ => 0))), (q97, .inl (cI, 80, .inl (fun _ => 0))), (q105, .inl (cI, 80, .inl (fun _ => 0))), (q113, .inl (cI, 80, .inl (fun _ => 0))), (q121, .inl (cI, 80, .inl (fun _ => 0))), (q130, .inl (cI, 600, .inl (fun _ => 0))), (q139, .inl (cI, 300, .inl (fun _ => 0)))] := hD
  refine lv_aload_n hx hb d_Tx_init_144 rfl (lv_at hl 0 rfl) ?_
  refine lv_sipush (v := 300) hx hb d_Tx_init_145 (by decide) ?_
  refine ka_newa (atype := .int) (ty := .int) (N' := 300) (a0 := (300, .inl (fun _ => 0))) hx hb (hts _ (List.mem_cons_of_mem _ mw_53)) rfl hK.1 hP hD hS hA 0 rfl (fun _ => rfl) (by decide) (by decide) (by decide) (Nat.le_of_ble_eq_true rfl) (Nat.le_of_ble_eq_true rfl) d_Tx_init_148 (fun q148 H hP hD hS => ?_)
  refine W.widen (k := 17) (n := 11300) (Nat.le_refl _) (Nat.le_refl _) ?_
  refine va_putF (D := (dC, dI)) (ci := 13) (v := .ref q148) (ty := (.array .int)) (C := R_Tx) (T := F_Tx) (N := 39) hx hb hts (fun w h => List.mem_cons_of_mem _ (in_Tx w h)) t_Tx t_Tx_ok n_Tx hown hK.1 hP hD hS 0 rfl rfl 37 (by decide) (hts _ (List.mem_cons_of_mem _ mw_1625)) (fun _ h9 => h9) rfl hin rfl (by decide +kernel) rfl rfl (Nat.le_of_ble_eq_true rfl) d_Tx_init_150 (fun H locs hP hD hS => ?_)
  have hP : va_P (dC, dI) classes [(h0, .inr (13, [.ref q8, .int 0, .int 0, .int 0, .int 0, .int 0, .int 0, .int 0, .long 0, .int 0, .int 0, .int 0, .int 0, .int 0, .ref q17, .ref q26, .ref q35, .ref q44, .ref q53, .ref q62, .ref q71, .int 0, .ref q80, .int 0, .int 0, .ref q89, .ref q97, .ref q105, .ref q113, .ref q121, .int 0, .int 0, .int 0, .int 0, .ref q130, .int 0, .ref q139, .ref q148, .int 0])), (q8, .inl (cB, 4020, .inl (fun _ => 0))), (q17, .inl (cI, 600, .inl (fun _ => 0))), (q26, .inl (cJ, 600, .inr (.inl (fun _ => 0)))), (q35, .inl (cI, 600, .inl (fun _ => 0))), (q44, .inl (cI, 600, .inl (fun _ => 0))), (q53, .inl (cI, 600, .inl (fun _ => 0))), (q62, .inl (cI, 600, .inl (fun _ => 0))), (q71, .inl (cI, 600, .inl (fun _ => 0))), (q80, .inl (cI, 600, .inl (fun _ => 0))), (q89, .inl (cB, 960, .inl (fun _ => 0))), (q97, .inl (cI, 80, .inl (fun _ => 0))), (q105, .inl (cI, 80, .inl (fun _ => 0))), (q113, .inl (cI, 80, .inl (fun _ => 0))), (q121, .inl (cI, 80, .inl (fun _ => 0))), (q130, .inl (cI, 600, .inl (fun _ => 0))), (q139, .inl (cI, 300, .inl (fun _ => 0))), (q148, .inl (cI, 300, .inl (fun _ => 0)))] H := hP
  have hD : va_D A [(h0, .inr (13, [.ref q8, .int 0, .int 0, .int 0, .int 0, .int 0, .int 0, .int 0, .long 0, .int 0, .int 0, .int 0, .int 0, .int 0, .ref q17, .ref q26, .ref q35, .ref q44, .ref q53, .ref q62, .ref q71, .int 0, .ref q80, .int 0, .int 0, .ref q89, .ref q97, .ref q105, .ref q113, .ref q121, .int 0, .int 0, .int 0, .int 0, .ref q130, .int 0, .ref q139, .ref q148, .int 0])), (q8, .inl (cB, 4020, .inl (fun _ => 0))), (q17, .inl (cI, 600, .inl (fun _ => 0))), (q26, .inl (cJ, 600, .inr (.inl (fun _ => 0)))), (q35, .inl (cI, 600, .inl (fun _ => 0))), (q44, .inl (cI, 600, .inl (fun _ => 0))), (q53, .inl (cI, 600, .inl (fun _ => 0))), (q62, .inl (cI, 600, .inl (fun _ => 0))), (q71, .inl (cI, 600, .inl (fun _ => 0))), (q80, .inl (cI, 600, .inl (fun _ => 0))), (q89, .inl (cB, 960, .inl (fun _ => 0))), (q97, .inl (cI, 80, .inl (fun _ => 0))), (q105, .inl (cI, 80, .inl (fun _ => 0))), (q113, .inl (cI, 80, .inl (fun _ => 0))), (q121, .inl (cI, 80, .inl (fun _ => 0))), (q130, .inl (cI, 600, .inl (fun _ => 0))), (q139, .inl (cI, 300, .inl (fun _ => 0))), (q148, .inl (cI, 300, .inl (fun _ => 0)))] := hD
  exact W.vret hx hb hr (fun t ht hW => ⟨⟨(), rfl, trivial, ⟨q8, q17, q26, q35, q44, q53, q62, q71, q80, q89, q97, q105, q113, q121, q130, q139, q148, by rw [ht]; exact hP, hD⟩⟩, hS.F ht⟩) hS.2.2 d_Tx_init_153
