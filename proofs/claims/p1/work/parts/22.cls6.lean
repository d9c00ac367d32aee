abbrev b_Tp_isText : ByteArray := prog_11_method_8_code
def y_Tp_isText : MethodName := ⟨R_Tp, "isText", "()Z"⟩
abbrev w_Tp_isText : List Cond := .code y_Tp_isText b_Tp_isText 3 (some .boolean) :: lw_gd
abbrev b_Tp_at : ByteArray := prog_11_method_4_code
def y_Tp_at : MethodName := ⟨R_Tp, "at", "(I)I"⟩
abbrev w_Tp_at : List Cond := .code y_Tp_at b_Tp_at 2 (some .int) :: lw_gd
abbrev b_Pl_read : ByteArray := prog_4_method_2_code
def y_Pl_read : MethodName := ⟨R_Pl, "read", "(LBreweryHouse$Tape;)I"⟩
abbrev w_Pl_read : List Cond := .code y_Pl_read b_Pl_read 3 (some .int) :: lw_gd
abbrev b_Ro_nextWord : ByteArray := prog_7_method_7_code
def y_Ro_nextWord : MethodName := ⟨R_Ro, "nextWord", "()V"⟩
abbrev w_Ro_nextWord : List Cond := .code y_Ro_nextWord b_Ro_nextWord 1 none :: lw_gd
abbrev b_Ro_read : ByteArray := prog_7_method_6_code
def y_Ro_read : MethodName := ⟨R_Ro, "read", "(LBreweryHouse$Tape;)I"⟩
abbrev w_Ro_read : List Cond := .code y_Ro_read b_Ro_read 3 (some .int) :: lw_gd
abbrev b_Pr_clear : ByteArray := prog_5_method_2_code
def y_Pr_clear : MethodName := ⟨R_Pr, "clear", "()V"⟩
abbrev w_Pr_clear : List Cond := .code y_Pr_clear b_Pr_clear 1 none :: lw_gd
abbrev b_Rd_nextWord : ByteArray := prog_6_method_4_code
def y_Rd_nextWord : MethodName := ⟨R_Rd, "nextWord", "()V"⟩
abbrev w_Rd_nextWord : List Cond := .code y_Rd_nextWord b_Rd_nextWord 2 none :: lw_gd
abbrev b_Rd_read : ByteArray := prog_6_method_2_code
def y_Rd_read : MethodName := ⟨R_Rd, "read", "(LBreweryHouse$Tape;LBreweryHouse$Program;)I"⟩
abbrev w_Rd_read : List Cond := .code y_Rd_read b_Rd_read 9 (some .int) :: lw_gd
theorem mw_13 : (.initialized "BreweryHouse$ProgramReader" : Cond) ∈ lw_gd := tb_mem (i := 13) (by decide +kernel) (by decide +kernel)
theorem mw_41 : (.fieldLink "BreweryHouse$Plant" 47 "BreweryHouse$Tape" "end" "I" : Cond) ∈ lw_gd := tb_mem (i := 41) (by decide +kernel) (by decide +kernel)
theorem mw_43 : (.fieldLink "BreweryHouse$Tape" 19 "BreweryHouse$Tape" "end" "I" : Cond) ∈ lw_gd := tb_mem (i := 43) (by decide +kernel) (by decide +kernel)
theorem mw_44 : (.fieldLink "BreweryHouse$ProgramReader" 114 "BreweryHouse$Tape" "end" "I" : Cond) ∈ lw_gd := tb_mem (i := 44) (by decide +kernel) (by decide +kernel)
theorem mw_45 : (.fieldLink "BreweryHouse$Rows" 82 "BreweryHouse$Tape" "end" "I" : Cond) ∈ lw_gd := tb_mem (i := 45) (by decide +kernel) (by decide +kernel)
theorem mw_86 : (.fieldLink "BreweryHouse$Plant" 37 "BreweryHouse$Plant" "things" "I" : Cond) ∈ lw_gd := tb_mem (i := 86) (by decide +kernel) (by decide +kernel)
theorem mw_92 : (.fieldLink "BreweryHouse$Plant" 41 "BreweryHouse$Plant" "pipes" "I" : Cond) ∈ lw_gd := tb_mem (i := 92) (by decide +kernel) (by decide +kernel)
theorem mw_117 : (.fieldLink "BreweryHouse$Plant" 33 "BreweryHouse$Plant" "tape" "LBreweryHouse$Tape;" : Cond) ∈ lw_gd := tb_mem (i := 117) (by decide +kernel) (by decide +kernel)
theorem mw_118 : (.fieldLink "BreweryHouse$Plant" 44 "BreweryHouse$Plant" "at" "I" : Cond) ∈ lw_gd := tb_mem (i := 118) (by decide +kernel) (by decide +kernel)
theorem mw_344 : (.fieldLink "BreweryHouse$Rows" 61 "BreweryHouse$Rows" "used" "I" : Cond) ∈ lw_gd := tb_mem (i := 344) (by decide +kernel) (by decide +kernel)
theorem mw_345 : (.fieldLink "BreweryHouse$Rows" 57 "BreweryHouse$Rows" "tape" "LBreweryHouse$Tape;" : Cond) ∈ lw_gd := tb_mem (i := 345) (by decide +kernel) (by decide +kernel)
theorem mw_346 : (.fieldLink "BreweryHouse$Rows" 79 "BreweryHouse$Rows" "wordAt" "I" : Cond) ∈ lw_gd := tb_mem (i := 346) (by decide +kernel) (by decide +kernel)
theorem mw_347 : (.fieldLink "BreweryHouse$Rows" 73 "BreweryHouse$Rows" "wordEnd" "I" : Cond) ∈ lw_gd := tb_mem (i := 347) (by decide +kernel) (by decide +kernel)
theorem mw_348 : (.fieldLink "BreweryHouse$Rows" 70 "BreweryHouse$Rows" "word" "I" : Cond) ∈ lw_gd := tb_mem (i := 348) (by decide +kernel) (by decide +kernel)
theorem mw_349 : (.fieldLink "BreweryHouse$Rows" 67 "BreweryHouse$Rows" "open" "I" : Cond) ∈ lw_gd := tb_mem (i := 349) (by decide +kernel) (by decide +kernel)
theorem mw_351 : (.fieldLink "BreweryHouse$Rows" 64 "BreweryHouse$Rows" "wrong" "I" : Cond) ∈ lw_gd := tb_mem (i := 351) (by decide +kernel) (by decide +kernel)
theorem mw_428 : (.fieldLink "BreweryHouse$Program" 59 "BreweryHouse$Program" "statements" "I" : Cond) ∈ lw_gd := tb_mem (i := 428) (by decide +kernel) (by decide +kernel)
theorem mw_431 : (.fieldLink "BreweryHouse$Program" 62 "BreweryHouse$Program" "nodes" "I" : Cond) ∈ lw_gd := tb_mem (i := 431) (by decide +kernel) (by decide +kernel)
theorem mw_433 : (.fieldLink "BreweryHouse$Program" 9 "BreweryHouse$Program" "opening" "I" : Cond) ∈ lw_gd := tb_mem (i := 433) (by decide +kernel) (by decide +kernel)
theorem mw_636 : (.fieldLink "BreweryHouse$ProgramReader" 40 "BreweryHouse$ProgramReader" "tape" "LBreweryHouse$Tape;" : Cond) ∈ lw_gd := tb_mem (i := 636) (by decide +kernel) (by decide +kernel)
theorem mw_637 : (.fieldLink "BreweryHouse$ProgramReader" 44 "BreweryHouse$ProgramReader" "program" "LBreweryHouse$Program;" : Cond) ∈ lw_gd := tb_mem (i := 637) (by decide +kernel) (by decide +kernel)
theorem mw_638 : (.fieldLink "BreweryHouse$ProgramReader" 53 "BreweryHouse$ProgramReader" "at" "I" : Cond) ∈ lw_gd := tb_mem (i := 638) (by decide +kernel) (by decide +kernel)
theorem mw_639 : (.fieldLink "BreweryHouse$ProgramReader" 66 "BreweryHouse$ProgramReader" "word" "I" : Cond) ∈ lw_gd := tb_mem (i := 639) (by decide +kernel) (by decide +kernel)
theorem mw_640 : (.fieldLink "BreweryHouse$ProgramReader" 111 "BreweryHouse$ProgramReader" "place" "I" : Cond) ∈ lw_gd := tb_mem (i := 640) (by decide +kernel) (by decide +kernel)
theorem mw_644 : (.fieldLink "BreweryHouse$ProgramReader" 57 "BreweryHouse$ProgramReader" "open" "I" : Cond) ∈ lw_gd := tb_mem (i := 644) (by decide +kernel) (by decide +kernel)
theorem mw_645 : (.fieldLink "BreweryHouse$ProgramReader" 60 "BreweryHouse$ProgramReader" "wrong" "I" : Cond) ∈ lw_gd := tb_mem (i := 645) (by decide +kernel) (by decide +kernel)
theorem mw_754 : (.instanceMethod y_Tp_at : Cond) ∈ lw_gd := tb_mem (i := 754) (by decide +kernel) (by decide +kernel)
theorem mw_755 : (.selects "BreweryHouse$Tape" y_Tp_at y_Tp_at : Cond) ∈ lw_gd := tb_mem (i := 755) (by decide +kernel) (by decide +kernel)
theorem mw_756 : (.code y_Tp_at b_Tp_at 2 (some .int) : Cond) ∈ lw_gd := tb_mem (i := 756) (by decide +kernel) (by decide +kernel)
theorem mw_815 : (.methodLink "BreweryHouse$Rows" 76 y_Ro_nextWord : Cond) ∈ lw_gd := tb_mem (i := 815) (by decide +kernel) (by decide +kernel)
theorem mw_817 : (.instanceMethod y_Ro_nextWord : Cond) ∈ lw_gd := tb_mem (i := 817) (by decide +kernel) (by decide +kernel)
theorem mw_818 : (.code y_Ro_nextWord b_Ro_nextWord 1 none : Cond) ∈ lw_gd := tb_mem (i := 818) (by decide +kernel) (by decide +kernel)
theorem mw_883 : (.methodLink "BreweryHouse$ProgramReader" 48 y_Pr_clear : Cond) ∈ lw_gd := tb_mem (i := 883) (by decide +kernel) (by decide +kernel)
theorem mw_884 : (.instanceMethod y_Pr_clear : Cond) ∈ lw_gd := tb_mem (i := 884) (by decide +kernel) (by decide +kernel)
theorem mw_885 : (.selects "BreweryHouse$Program" y_Pr_clear y_Pr_clear : Cond) ∈ lw_gd := tb_mem (i := 885) (by decide +kernel) (by decide +kernel)
theorem mw_886 : (.code y_Pr_clear b_Pr_clear 1 none : Cond) ∈ lw_gd := tb_mem (i := 886) (by decide +kernel) (by decide +kernel)
theorem mw_887 : (.methodLink "BreweryHouse$ProgramReader" 63 y_Rd_nextWord : Cond) ∈ lw_gd := tb_mem (i := 887) (by decide +kernel) (by decide +kernel)
theorem mw_889 : (.instanceMethod y_Rd_nextWord : Cond) ∈ lw_gd := tb_mem (i := 889) (by decide +kernel) (by decide +kernel)
theorem mw_890 : (.code y_Rd_nextWord b_Rd_nextWord 2 none : Cond) ∈ lw_gd := tb_mem (i := 890) (by decide +kernel) (by decide +kernel)
theorem mw_891 : (.methodLink "BreweryHouse$ProgramReader" 119 y_Tp_at : Cond) ∈ lw_gd := tb_mem (i := 891) (by decide +kernel) (by decide +kernel)
theorem sl_20 : (.selects "BreweryHouse$ProgramReader" y_Rd_nextWord y_Rd_nextWord : Cond) ∈ lw_gd := List.mem_filter.mpr ⟨List.mem_append_left _ (List.mem_of_getElem? (i := 20) (by decide +kernel)), by decide +kernel⟩
theorem sl_9 : (.selects "BreweryHouse$Rows" y_Ro_nextWord y_Ro_nextWord : Cond) ∈ lw_gd := List.mem_filter.mpr ⟨List.mem_append_left _ (List.mem_of_getElem? (i := 9) (by decide +kernel)), by decide +kernel⟩
abbrev t_Tp_isText_35 : List UInt8 := 172 :: []
abbrev t_Tp_isText_34 : List UInt8 := 4 :: t_Tp_isText_35
abbrev t_Tp_isText_31 : List UInt8 := 167 :: 255 :: 227 :: t_Tp_isText_34
abbrev t_Tp_isText_28 : List UInt8 := 132 :: 1 :: 1 :: t_Tp_isText_31
abbrev t_Tp_isText_27 : List UInt8 := 172 :: t_Tp_isText_28
abbrev t_Tp_isText_26 : List UInt8 := 3 :: t_Tp_isText_27
abbrev t_Tp_isText_23 : List UInt8 := 164 :: 0 :: 5 :: t_Tp_isText_26
abbrev t_Tp_isText_21 : List UInt8 := 16 :: 127 :: t_Tp_isText_23
abbrev t_Tp_isText_20 : List UInt8 := 28 :: t_Tp_isText_21
abbrev t_Tp_isText_17 : List UInt8 := 158 :: 0 :: 9 :: t_Tp_isText_20
abbrev t_Tp_isText_16 : List UInt8 := 28 :: t_Tp_isText_17
abbrev t_Tp_isText_15 : List UInt8 := 61 :: t_Tp_isText_16
abbrev t_Tp_isText_12 : List UInt8 := 182 :: 0 :: 22 :: t_Tp_isText_15
abbrev t_Tp_isText_11 : List UInt8 := 27 :: t_Tp_isText_12
abbrev t_Tp_isText_10 : List UInt8 := 42 :: t_Tp_isText_11
abbrev t_Tp_isText_7 : List UInt8 := 162 :: 0 :: 27 :: t_Tp_isText_10
abbrev t_Tp_isText_4 : List UInt8 := 180 :: 0 :: 19 :: t_Tp_isText_7
abbrev t_Tp_isText_3 : List UInt8 := 42 :: t_Tp_isText_4
abbrev t_Tp_isText_2 : List UInt8 := 27 :: t_Tp_isText_3
abbrev t_Tp_isText_1 : List UInt8 := 60 :: t_Tp_isText_2
abbrev t_Tp_isText_0 : List UInt8 := 3 :: t_Tp_isText_1
theorem a_Tp_isText_0 : dk_at b_Tp_isText 0 t_Tp_isText_0 := dk_start (by decide +kernel)
theorem a_Tp_isText_1 : dk_at b_Tp_isText 1 t_Tp_isText_1 := dk_go 1 a_Tp_isText_0 rfl
theorem a_Tp_isText_2 : dk_at b_Tp_isText 2 t_Tp_isText_2 := dk_go 1 a_Tp_isText_1 rfl
theorem a_Tp_isText_3 : dk_at b_Tp_isText 3 t_Tp_isText_3 := dk_go 1 a_Tp_isText_2 rfl
theorem a_Tp_isText_4 : dk_at b_Tp_isText 4 t_Tp_isText_4 := dk_go 1 a_Tp_isText_3 rfl
theorem a_Tp_isText_7 : dk_at b_Tp_isText 7 t_Tp_isText_7 := dk_go 3 a_Tp_isText_4 rfl
theorem a_Tp_isText_10 : dk_at b_Tp_isText 10 t_Tp_isText_10 := dk_go 3 a_Tp_isText_7 rfl
theorem a_Tp_isText_11 : dk_at b_Tp_isText 11 t_Tp_isText_11 := dk_go 1 a_Tp_isText_10 rfl
theorem a_Tp_isText_12 : dk_at b_Tp_isText 12 t_Tp_isText_12 := dk_go 1 a_Tp_isText_11 rfl
theorem a_Tp_isText_15 : dk_at b_Tp_isText 15 t_Tp_isText_15 := dk_go 3 a_Tp_isText_12 rfl
theorem a_Tp_isText_16 : dk_at b_Tp_isText 16 t_Tp_isText_16 := dk_go 1 a_Tp_isText_15 rfl
theorem a_Tp_isText_17 : dk_at b_Tp_isText 17 t_Tp_isText_17 := dk_go 1 a_Tp_isText_16 rfl
theorem a_Tp_isText_20 : dk_at b_Tp_isText 20 t_Tp_isText_20 := dk_go 3 a_Tp_isText_17 rfl
theorem a_Tp_isText_21 : dk_at b_Tp_isText 21 t_Tp_isText_21 := dk_go 1 a_Tp_isText_20 rfl
theorem a_Tp_isText_23 : dk_at b_Tp_isText 23 t_Tp_isText_23 := dk_go 2 a_Tp_isText_21 rfl
theorem a_Tp_isText_26 : dk_at b_Tp_isText 26 t_Tp_isText_26 := dk_go 3 a_Tp_isText_23 rfl
theorem a_Tp_isText_27 : dk_at b_Tp_isText 27 t_Tp_isText_27 := dk_go 1 a_Tp_isText_26 rfl
theorem a_Tp_isText_28 : dk_at b_Tp_isText 28 t_Tp_isText_28 := dk_go 1 a_Tp_isText_27 rfl
theorem a_Tp_isText_31 : dk_at b_Tp_isText 31 t_Tp_isText_31 := dk_go 3 a_Tp_isText_28 rfl
theorem a_Tp_isText_34 : dk_at b_Tp_isText 34 t_Tp_isText_34 := dk_go 3 a_Tp_isText_31 rfl
theorem a_Tp_isText_35 : dk_at b_Tp_isText 35 t_Tp_isText_35 := dk_go 1 a_Tp_isText_34 rfl
theorem d_Tp_isText_0 : decode b_Tp_isText 0 = .ok (.iconst 0, 1) := dk_0 a_Tp_isText_0 (dko_3 _)
theorem d_Tp_isText_1 : decode b_Tp_isText 1 = .ok (.istore_n 1, 1) := dk_0 a_Tp_isText_1 (dko_60 _)
theorem d_Tp_isText_2 : decode b_Tp_isText 2 = .ok (.iload_n 1, 1) := dk_0 a_Tp_isText_2 (dko_27 _)
theorem d_Tp_isText_3 : decode b_Tp_isText 3 = .ok (.aload_n 0, 1) := dk_0 a_Tp_isText_3 (dko_42 _)
theorem d_Tp_isText_4 : decode b_Tp_isText 4 = .ok (.getfield 19, 3) := dk_U2 a_Tp_isText_4 (dko_180 _) rfl
theorem d_Tp_isText_7 : decode b_Tp_isText 7 = .ok (.if_icmp .ge 27, 3) := dk_S2 a_Tp_isText_7 (dko_162 _) (by decide +kernel)
theorem d_Tp_isText_34 : decode b_Tp_isText 34 = .ok (.iconst 1, 1) := dk_0 a_Tp_isText_34 (dko_4 _)
theorem d_Tp_isText_35 : decode b_Tp_isText 35 = .ok (.ireturn, 1) := dk_0 a_Tp_isText_35 (dko_172 _)
set_option maxHeartbeats 4000000 in
set_option maxRecDepth 100000 in
theorem c_Tp_isText (l : Launch) (dC : Nat → ClassId) (dI : Nat → Nat → Nat) (cI cB cZ cJ : ClassId) (nn : Int32) (hnn : ¬ 0 < nn) (oTp : Nat) (xt : List Value) (htp_end : fx xt 2 (.int nn)) (sz : Nat) : Met l y_Tp_isText w_Tp_isText ({ frames := 0, cells := 0, slots := 0, locals := 0 }) (va_Pc [.ref oTp] (PW dC dI cI cB cZ cJ [(oTp, .inr (1, xt))] sz)) (va_Qi (fun (r : Int32) (_ : Unit) => r = 1) (fun _ _ => True) (va_A [] sz)) 0 0 (va_A [] sz) := by
  refine Met.ofW (cc := b_Tp_isText) (maxL := 3) (ret := (some .boolean)) (by decide) rfl ?_
  intro p e s m args below meth c s₁ B hml hv
  obtain ⟨rfl, hsz, hP, hK, hD⟩ := hv
  have hx := B.exec
  have hb := B.bytes
  have hr := B.returns
  have hts := atoms_spec (ws := w_Tp_isText) B.pre
  have hown : s.vm.findClass R_Tp = some m.cls := findClass_of_methodNamed B.named
  have hlocks := B.notSynchronized
  subst hsz
  generalize hAe : va_A [] s.heap.size = A at ⊢
  have hA : ∀ q : Nat, s.heap.size ≤ q → A q := fun q h => by rw [← hAe]; exact Or.inr h
  have hS : va_S A s.heap s.heap [] := va_S.rf
  have hP : va_P (dC, dI) classes [(oTp, .inr (1, xt))] s.heap := hP
  have hl := lv_entry ([.ref oTp]) (n := 3) (Nat.le_of_ble_eq_true rfl)
  rw [lg_entry_eq]
  generalize (lg_sl ([.ref oTp]) ++ List.replicate (3 - (lg_sl ([.ref oTp])).length) Slot.unset).toArray = ls at hl ⊢
  have hl : lv_has ls 3 [(0, .ref oTp)] := hl
  refine lv_iconst (v := 0) hx hb d_Tp_isText_0 (by decide) ?_
  refine lv_istore_n hx hb d_Tp_isText_1 rfl hl (by decide) rfl (fun ls hl => ?_)
  have hl : lv_has ls 3 [(1, .int 0), (0, .ref oTp)] := hl
  refine lv_iload_n hx hb d_Tp_isText_2 rfl (lv_at hl 0 rfl) ?_
  refine lv_aload_n hx hb d_Tp_isText_3 rfl (lv_at hl 1 rfl) ?_
  refine va_get (D := (dC, dI)) (ci := 1) (v := .int nn) (C := R_Tp) (T := F_Tp) (N := 3) hx hb hts (fun w h => List.mem_cons_of_mem _ (in_Tp w h)) hown hK.1 hP 0 rfl rfl 2 (by decide) (hts _ (List.mem_cons_of_mem _ mw_43)) (fun _ h9 => h9) htp_end d_Tp_isText_4 ?_
  refine lv_icmp_ge (tgt := 34) hx hb d_Tp_isText_7 (by decide) (fun _ => ?_) (fun h => absurd (nu_le hnn (by decide)) h)
  refine lv_iconst (v := 1) hx hb d_Tp_isText_34 (by decide) ?_
  exact W.zret (v := 1) (ty := .boolean) hx hb hr (by decide) (fun t ht hW => ⟨⟨_, (), rfl, (rfl), trivial⟩, hS.F ht⟩) hS.2.2 d_Tp_isText_35
abbrev t_Tp_at_47 : List UInt8 := 172 :: []
abbrev t_Tp_at_46 : List UInt8 := 126 :: t_Tp_at_47
abbrev t_Tp_at_43 : List UInt8 := 17 :: 0 :: 255 :: t_Tp_at_46
abbrev t_Tp_at_42 : List UInt8 := 124 :: t_Tp_at_43
abbrev t_Tp_at_41 : List UInt8 := 100 :: t_Tp_at_42
abbrev t_Tp_at_40 : List UInt8 := 104 :: t_Tp_at_41
abbrev t_Tp_at_39 : List UInt8 := 126 :: t_Tp_at_40
abbrev t_Tp_at_38 : List UInt8 := 6 :: t_Tp_at_39
abbrev t_Tp_at_37 : List UInt8 := 27 :: t_Tp_at_38
abbrev t_Tp_at_35 : List UInt8 := 16 :: 8 :: t_Tp_at_37
abbrev t_Tp_at_33 : List UInt8 := 16 :: 24 :: t_Tp_at_35
abbrev t_Tp_at_32 : List UInt8 := 46 :: t_Tp_at_33
abbrev t_Tp_at_31 : List UInt8 := 122 :: t_Tp_at_32
abbrev t_Tp_at_30 : List UInt8 := 5 :: t_Tp_at_31
abbrev t_Tp_at_29 : List UInt8 := 27 :: t_Tp_at_30
abbrev t_Tp_at_26 : List UInt8 := 180 :: 0 :: 9 :: t_Tp_at_29
abbrev t_Tp_at_25 : List UInt8 := 42 :: t_Tp_at_26
abbrev t_Tp_at_24 : List UInt8 := 172 :: t_Tp_at_25
abbrev t_Tp_at_23 : List UInt8 := 2 :: t_Tp_at_24
abbrev t_Tp_at_20 : List UInt8 := 161 :: 0 :: 5 :: t_Tp_at_23
abbrev t_Tp_at_19 : List UInt8 := 104 :: t_Tp_at_20
abbrev t_Tp_at_18 : List UInt8 := 190 :: t_Tp_at_19
abbrev t_Tp_at_15 : List UInt8 := 180 :: 0 :: 9 :: t_Tp_at_18
abbrev t_Tp_at_14 : List UInt8 := 42 :: t_Tp_at_15
abbrev t_Tp_at_13 : List UInt8 := 7 :: t_Tp_at_14
abbrev t_Tp_at_12 : List UInt8 := 27 :: t_Tp_at_13
abbrev t_Tp_at_9 : List UInt8 := 162 :: 0 :: 14 :: t_Tp_at_12
abbrev t_Tp_at_6 : List UInt8 := 180 :: 0 :: 19 :: t_Tp_at_9
abbrev t_Tp_at_5 : List UInt8 := 42 :: t_Tp_at_6
abbrev t_Tp_at_4 : List UInt8 := 27 :: t_Tp_at_5
abbrev t_Tp_at_1 : List UInt8 := 155 :: 0 :: 22 :: t_Tp_at_4
abbrev t_Tp_at_0 : List UInt8 := 27 :: t_Tp_at_1
theorem a_Tp_at_0 : dk_at b_Tp_at 0 t_Tp_at_0 := dk_start (by decide +kernel)
theorem a_Tp_at_1 : dk_at b_Tp_at 1 t_Tp_at_1 := dk_go 1 a_Tp_at_0 rfl
theorem a_Tp_at_4 : dk_at b_Tp_at 4 t_Tp_at_4 := dk_go 3 a_Tp_at_1 rfl
theorem a_Tp_at_5 : dk_at b_Tp_at 5 t_Tp_at_5 := dk_go 1 a_Tp_at_4 rfl
theorem a_Tp_at_6 : dk_at b_Tp_at 6 t_Tp_at_6 := dk_go 1 a_Tp_at_5 rfl
theorem a_Tp_at_9 : dk_at b_Tp_at 9 t_Tp_at_9 := dk_go 3 a_Tp_at_6 rfl
theorem a_Tp_at_12 : dk_at b_Tp_at 12 t_Tp_at_12 := dk_go 3 a_Tp_at_9 rfl
theorem a_Tp_at_13 : dk_at b_Tp_at 13 t_Tp_at_13 := dk_go 1 a_Tp_at_12 rfl
theorem a_Tp_at_14 : dk_at b_Tp_at 14 t_Tp_at_14 := dk_go 1 a_Tp_at_13 rfl
theorem a_Tp_at_15 : dk_at b_Tp_at 15 t_Tp_at_15 := dk_go 1 a_Tp_at_14 rfl
theorem a_Tp_at_18 : dk_at b_Tp_at 18 t_Tp_at_18 := dk_go 3 a_Tp_at_15 rfl
theorem a_Tp_at_19 : dk_at b_Tp_at 19 t_Tp_at_19 := dk_go 1 a_Tp_at_18 rfl
theorem a_Tp_at_20 : dk_at b_Tp_at 20 t_Tp_at_20 := dk_go 1 a_Tp_at_19 rfl
theorem a_Tp_at_23 : dk_at b_Tp_at 23 t_Tp_at_23 := dk_go 3 a_Tp_at_20 rfl
theorem a_Tp_at_24 : dk_at b_Tp_at 24 t_Tp_at_24 := dk_go 1 a_Tp_at_23 rfl
theorem a_Tp_at_25 : dk_at b_Tp_at 25 t_Tp_at_25 := dk_go 1 a_Tp_at_24 rfl
theorem a_Tp_at_26 : dk_at b_Tp_at 26 t_Tp_at_26 := dk_go 1 a_Tp_at_25 rfl
theorem a_Tp_at_29 : dk_at b_Tp_at 29 t_Tp_at_29 := dk_go 3 a_Tp_at_26 rfl
theorem a_Tp_at_30 : dk_at b_Tp_at 30 t_Tp_at_30 := dk_go 1 a_Tp_at_29 rfl
theorem a_Tp_at_31 : dk_at b_Tp_at 31 t_Tp_at_31 := dk_go 1 a_Tp_at_30 rfl
theorem a_Tp_at_32 : dk_at b_Tp_at 32 t_Tp_at_32 := dk_go 1 a_Tp_at_31 rfl
theorem a_Tp_at_33 : dk_at b_Tp_at 33 t_Tp_at_33 := dk_go 1 a_Tp_at_32 rfl
theorem a_Tp_at_35 : dk_at b_Tp_at 35 t_Tp_at_35 := dk_go 2 a_Tp_at_33 rfl
theorem a_Tp_at_37 : dk_at b_Tp_at 37 t_Tp_at_37 := dk_go 2 a_Tp_at_35 rfl
theorem a_Tp_at_38 : dk_at b_Tp_at 38 t_Tp_at_38 := dk_go 1 a_Tp_at_37 rfl
theorem a_Tp_at_39 : dk_at b_Tp_at 39 t_Tp_at_39 := dk_go 1 a_Tp_at_38 rfl
theorem a_Tp_at_40 : dk_at b_Tp_at 40 t_Tp_at_40 := dk_go 1 a_Tp_at_39 rfl
theorem a_Tp_at_41 : dk_at b_Tp_at 41 t_Tp_at_41 := dk_go 1 a_Tp_at_40 rfl
theorem a_Tp_at_42 : dk_at b_Tp_at 42 t_Tp_at_42 := dk_go 1 a_Tp_at_41 rfl
theorem a_Tp_at_43 : dk_at b_Tp_at 43 t_Tp_at_43 := dk_go 1 a_Tp_at_42 rfl
theorem a_Tp_at_46 : dk_at b_Tp_at 46 t_Tp_at_46 := dk_go 3 a_Tp_at_43 rfl
theorem a_Tp_at_47 : dk_at b_Tp_at 47 t_Tp_at_47 := dk_go 1 a_Tp_at_46 rfl
theorem d_Tp_at_0 : decode b_Tp_at 0 = .ok (.iload_n 1, 1) := dk_0 a_Tp_at_0 (dko_27 _)
theorem d_Tp_at_1 : decode b_Tp_at 1 = .ok (.ifCond .lt 22, 3) := dk_S2 a_Tp_at_1 (dko_155 _) (by decide +kernel)
theorem d_Tp_at_4 : decode b_Tp_at 4 = .ok (.iload_n 1, 1) := dk_0 a_Tp_at_4 (dko_27 _)
theorem d_Tp_at_5 : decode b_Tp_at 5 = .ok (.aload_n 0, 1) := dk_0 a_Tp_at_5 (dko_42 _)
theorem d_Tp_at_6 : decode b_Tp_at 6 = .ok (.getfield 19, 3) := dk_U2 a_Tp_at_6 (dko_180 _) rfl
theorem d_Tp_at_9 : decode b_Tp_at 9 = .ok (.if_icmp .ge 14, 3) := dk_S2 a_Tp_at_9 (dko_162 _) (by decide +kernel)
theorem d_Tp_at_23 : decode b_Tp_at 23 = .ok (.iconst (-1), 1) := dk_0 a_Tp_at_23 (dko_2 _)
theorem d_Tp_at_24 : decode b_Tp_at 24 = .ok (.ireturn, 1) := dk_0 a_Tp_at_24 (dko_172 _)
set_option maxHeartbeats 4000000 in
set_option maxRecDepth 100000 in
theorem c_Tp_at (l : Launch) (dC : Nat → ClassId) (dI : Nat → Nat → Nat) (cI cB cZ cJ : ClassId) (nn : Int32) (hnn : ¬ 0 < nn) (oTp : Nat) (xt : List Value) (htp_end : fx xt 2 (.int nn)) (sz : Nat) : Met l y_Tp_at w_Tp_at ({ frames := 0, cells := 0, slots := 0, locals := 0 }) (va_Pc [.ref oTp, .int 0] (PW dC dI cI cB cZ cJ [(oTp, .inr (1, xt))] sz)) (va_Qi (fun (r : Int32) (_ : Unit) => r = (-1)) (fun _ _ => True) (va_A [] sz)) 0 0 (va_A [] sz) := by
  refine Met.ofW (cc := b_Tp_at) (maxL := 2) (ret := (some .int)) (by decide) rfl ?_
  intro p e s m args below meth c s₁ B hml hv
  obtain ⟨rfl, hsz, hP, hK, hD⟩ := hv
  have hx := B.exec
  have hb := B.bytes
  have hr := B.returns
  have hts := atoms_spec (ws := w_Tp_at) B.pre
  have hown : s.vm.findClass R_Tp = some m.cls := findClass_of_methodNamed B.named
  have hlocks := B.notSynchronized
  subst hsz
  generalize hAe : va_A [] s.heap.size = A at ⊢
  have hA : ∀ q : Nat, s.heap.size ≤ q → A q := fun q h => by rw [← hAe]; exact Or.inr h
  have hS : va_S A s.heap s.heap [] := va_S.rf
  have hP : va_P (dC, dI) classes [(oTp, .inr (1, xt))] s.heap := hP
  have hl := lv_entry ([.ref oTp, .int 0]) (n := 2) (Nat.le_of_ble_eq_true rfl)
  rw [lg_entry_eq]
  generalize (lg_sl ([.ref oTp, .int 0]) ++ List.replicate (2 - (lg_sl ([.ref oTp, .int 0])).length) Slot.unset).toArray = ls at hl ⊢
  have hl : lv_has ls 2 [(0, .ref oTp), (1, .int 0)] := hl
  refine lv_iload_n hx hb d_Tp_at_0 rfl (lv_at hl 1 rfl) ?_
  refine lv_if_lt (tgt := 23) hx hb d_Tp_at_1 (by decide) (fun h => absurd h (by decide)) (fun _ => ?_)
  refine lv_iload_n hx hb d_Tp_at_4 rfl (lv_at hl 1 rfl) ?_
  refine lv_aload_n hx hb d_Tp_at_5 rfl (lv_at hl 0 rfl) ?_
  refine va_get (D := (dC, dI)) (ci := 1) (v := .int nn) (C := R_Tp) (T := F_Tp) (N := 3) hx hb hts (fun w h => List.mem_cons_of_mem _ (in_Tp w h)) hown hK.1 hP 0 rfl rfl 2 (by decide) (hts _ (List.mem_cons_of_mem _ mw_43)) (fun _ h9 => h9) htp_end d_Tp_at_6 ?_
  refine lv_icmp_ge (tgt := 23) hx hb d_Tp_at_9 (by decide) (fun _ => ?_) (fun h => absurd (nu_le hnn (by decide)) h)
  refine lv_iconst (v := (-1)) hx hb d_Tp_at_23 (by decide) ?_
  exact W.iret (v := (-1)) hx hb hr (fun t ht hW => ⟨⟨_, (), rfl, (rfl), trivial⟩, hS.F ht⟩) hS.2.2 d_Tp_at_24
abbrev t_Pl_read_69 : List UInt8 := 172 :: []
abbrev t_Pl_read_68 : List UInt8 := 2 :: t_Pl_read_69
abbrev t_Pl_read_65 : List UInt8 := 167 :: 255 :: 213 :: t_Pl_read_68
abbrev t_Pl_read_62 : List UInt8 := 132 :: 2 :: 1 :: t_Pl_read_65
abbrev t_Pl_read_59 : List UInt8 := 181 :: 0 :: 44 :: t_Pl_read_62
abbrev t_Pl_read_58 : List UInt8 := 96 :: t_Pl_read_59
abbrev t_Pl_read_57 : List UInt8 := 4 :: t_Pl_read_58
abbrev t_Pl_read_54 : List UInt8 := 180 :: 0 :: 44 :: t_Pl_read_57
abbrev t_Pl_read_53 : List UInt8 := 89 :: t_Pl_read_54
abbrev t_Pl_read_52 : List UInt8 := 42 :: t_Pl_read_53
abbrev t_Pl_read_51 : List UInt8 := 172 :: t_Pl_read_52
abbrev t_Pl_read_48 : List UInt8 := 180 :: 0 :: 44 :: t_Pl_read_51
abbrev t_Pl_read_47 : List UInt8 := 42 :: t_Pl_read_48
abbrev t_Pl_read_44 : List UInt8 := 154 :: 0 :: 8 :: t_Pl_read_47
abbrev t_Pl_read_41 : List UInt8 := 182 :: 0 :: 52 :: t_Pl_read_44
abbrev t_Pl_read_40 : List UInt8 := 42 :: t_Pl_read_41
abbrev t_Pl_read_37 : List UInt8 := 162 :: 0 :: 31 :: t_Pl_read_40
abbrev t_Pl_read_34 : List UInt8 := 180 :: 0 :: 47 :: t_Pl_read_37
abbrev t_Pl_read_33 : List UInt8 := 43 :: t_Pl_read_34
abbrev t_Pl_read_30 : List UInt8 := 180 :: 0 :: 44 :: t_Pl_read_33
abbrev t_Pl_read_29 : List UInt8 := 42 :: t_Pl_read_30
abbrev t_Pl_read_26 : List UInt8 := 163 :: 0 :: 42 :: t_Pl_read_29
abbrev t_Pl_read_23 : List UInt8 := 17 :: 15 :: 160 :: t_Pl_read_26
abbrev t_Pl_read_22 : List UInt8 := 28 :: t_Pl_read_23
abbrev t_Pl_read_21 : List UInt8 := 61 :: t_Pl_read_22
abbrev t_Pl_read_20 : List UInt8 := 3 :: t_Pl_read_21
abbrev t_Pl_read_17 : List UInt8 := 181 :: 0 :: 44 :: t_Pl_read_20
abbrev t_Pl_read_16 : List UInt8 := 3 :: t_Pl_read_17
abbrev t_Pl_read_15 : List UInt8 := 42 :: t_Pl_read_16
abbrev t_Pl_read_12 : List UInt8 := 181 :: 0 :: 41 :: t_Pl_read_15
abbrev t_Pl_read_11 : List UInt8 := 3 :: t_Pl_read_12
abbrev t_Pl_read_10 : List UInt8 := 42 :: t_Pl_read_11
abbrev t_Pl_read_7 : List UInt8 := 181 :: 0 :: 37 :: t_Pl_read_10
abbrev t_Pl_read_6 : List UInt8 := 3 :: t_Pl_read_7
abbrev t_Pl_read_5 : List UInt8 := 42 :: t_Pl_read_6
abbrev t_Pl_read_2 : List UInt8 := 181 :: 0 :: 33 :: t_Pl_read_5
abbrev t_Pl_read_1 : List UInt8 := 43 :: t_Pl_read_2
abbrev t_Pl_read_0 : List UInt8 := 42 :: t_Pl_read_1
theorem a_Pl_read_0 : dk_at b_Pl_read 0 t_Pl_read_0 := dk_start (by decide +kernel)
theorem a_Pl_read_1 : dk_at b_Pl_read 1 t_Pl_read_1 := dk_go 1 a_Pl_read_0 rfl
theorem a_Pl_read_2 : dk_at b_Pl_read 2 t_Pl_read_2 := dk_go 1 a_Pl_read_1 rfl
theorem a_Pl_read_5 : dk_at b_Pl_read 5 t_Pl_read_5 := dk_go 3 a_Pl_read_2 rfl
theorem a_Pl_read_6 : dk_at b_Pl_read 6 t_Pl_read_6 := dk_go 1 a_Pl_read_5 rfl
theorem a_Pl_read_7 : dk_at b_Pl_read 7 t_Pl_read_7 := dk_go 1 a_Pl_read_6 rfl
theorem a_Pl_read_10 : dk_at b_Pl_read 10 t_Pl_read_10 := dk_go 3 a_Pl_read_7 rfl
theorem a_Pl_read_11 : dk_at b_Pl_read 11 t_Pl_read_11 := dk_go 1 a_Pl_read_10 rfl
theorem a_Pl_read_12 : dk_at b_Pl_read 12 t_Pl_read_12 := dk_go 1 a_Pl_read_11 rfl
theorem a_Pl_read_15 : dk_at b_Pl_read 15 t_Pl_read_15 := dk_go 3 a_Pl_read_12 rfl
theorem a_Pl_read_16 : dk_at b_Pl_read 16 t_Pl_read_16 := dk_go 1 a_Pl_read_15 rfl
theorem a_Pl_read_17 : dk_at b_Pl_read 17 t_Pl_read_17 := dk_go 1 a_Pl_read_16 rfl
theorem a_Pl_read_20 : dk_at b_Pl_read 20 t_Pl_read_20 := dk_go 3 a_Pl_read_17 rfl
theorem a_Pl_read_21 : dk_at b_Pl_read 21 t_Pl_read_21 := dk_go 1 a_Pl_read_20 rfl
theorem a_Pl_read_22 : dk_at b_Pl_read 22 t_Pl_read_22 := dk_go 1 a_Pl_read_21 rfl
theorem a_Pl_read_23 : dk_at b_Pl_read 23 t_Pl_read_23 := dk_go 1 a_Pl_read_22 rfl
theorem a_Pl_read_26 : dk_at b_Pl_read 26 t_Pl_read_26 := dk_go 3 a_Pl_read_23 rfl
theorem a_Pl_read_29 : dk_at b_Pl_read 29 t_Pl_read_29 := dk_go 3 a_Pl_read_26 rfl
theorem a_Pl_read_30 : dk_at b_Pl_read 30 t_Pl_read_30 := dk_go 1 a_Pl_read_29 rfl
theorem a_Pl_read_33 : dk_at b_Pl_read 33 t_Pl_read_33 := dk_go 3 a_Pl_read_30 rfl
theorem a_Pl_read_34 : dk_at b_Pl_read 34 t_Pl_read_34 := dk_go 1 a_Pl_read_33 rfl
theorem a_Pl_read_37 : dk_at b_Pl_read 37 t_Pl_read_37 := dk_go 3 a_Pl_read_34 rfl
theorem a_Pl_read_40 : dk_at b_Pl_read 40 t_Pl_read_40 := dk_go 3 a_Pl_read_37 rfl
theorem a_Pl_read_41 : dk_at b_Pl_read 41 t_Pl_read_41 := dk_go 1 a_Pl_read_40 rfl
theorem a_Pl_read_44 : dk_at b_Pl_read 44 t_Pl_read_44 := dk_go 3 a_Pl_read_41 rfl
theorem a_Pl_read_47 : dk_at b_Pl_read 47 t_Pl_read_47 := dk_go 3 a_Pl_read_44 rfl
theorem a_Pl_read_48 : dk_at b_Pl_read 48 t_Pl_read_48 := dk_go 1 a_Pl_read_47 rfl
theorem a_Pl_read_51 : dk_at b_Pl_read 51 t_Pl_read_51 := dk_go 3 a_Pl_read_48 rfl
theorem a_Pl_read_52 : dk_at b_Pl_read 52 t_Pl_read_52 := dk_go 1 a_Pl_read_51 rfl
theorem a_Pl_read_53 : dk_at b_Pl_read 53 t_Pl_read_53 := dk_go 1 a_Pl_read_52 rfl
theorem a_Pl_read_54 : dk_at b_Pl_read 54 t_Pl_read_54 := dk_go 1 a_Pl_read_53 rfl
theorem a_Pl_read_57 : dk_at b_Pl_read 57 t_Pl_read_57 := dk_go 3 a_Pl_read_54 rfl
theorem a_Pl_read_58 : dk_at b_Pl_read 58 t_Pl_read_58 := dk_go 1 a_Pl_read_57 rfl
theorem a_Pl_read_59 : dk_at b_Pl_read 59 t_Pl_read_59 := dk_go 1 a_Pl_read_58 rfl
theorem a_Pl_read_62 : dk_at b_Pl_read 62 t_Pl_read_62 := dk_go 3 a_Pl_read_59 rfl
theorem a_Pl_read_65 : dk_at b_Pl_read 65 t_Pl_read_65 := dk_go 3 a_Pl_read_62 rfl
theorem a_Pl_read_68 : dk_at b_Pl_read 68 t_Pl_read_68 := dk_go 3 a_Pl_read_65 rfl
theorem a_Pl_read_69 : dk_at b_Pl_read 69 t_Pl_read_69 := dk_go 1 a_Pl_read_68 rfl
theorem d_Pl_read_0 : decode b_Pl_read 0 = .ok (.aload_n 0, 1) := dk_0 a_Pl_read_0 (dko_42 _)
theorem d_Pl_read_1 : decode b_Pl_read 1 = .ok (.aload_n 1, 1) := dk_0 a_Pl_read_1 (dko_43 _)
theorem d_Pl_read_2 : decode b_Pl_read 2 = .ok (.putfield 33, 3) := dk_U2 a_Pl_read_2 (dko_181 _) rfl
theorem d_Pl_read_5 : decode b_Pl_read 5 = .ok (.aload_n 0, 1) := dk_0 a_Pl_read_5 (dko_42 _)
theorem d_Pl_read_6 : decode b_Pl_read 6 = .ok (.iconst 0, 1) := dk_0 a_Pl_read_6 (dko_3 _)
theorem d_Pl_read_7 : decode b_Pl_read 7 = .ok (.putfield 37, 3) := dk_U2 a_Pl_read_7 (dko_181 _) rfl
theorem d_Pl_read_10 : decode b_Pl_read 10 = .ok (.aload_n 0, 1) := dk_0 a_Pl_read_10 (dko_42 _)
theorem d_Pl_read_11 : decode b_Pl_read 11 = .ok (.iconst 0, 1) := dk_0 a_Pl_read_11 (dko_3 _)
theorem d_Pl_read_12 : decode b_Pl_read 12 = .ok (.putfield 41, 3) := dk_U2 a_Pl_read_12 (dko_181 _) rfl
theorem d_Pl_read_15 : decode b_Pl_read 15 = .ok (.aload_n 0, 1) := dk_0 a_Pl_read_15 (dko_42 _)
theorem d_Pl_read_16 : decode b_Pl_read 16 = .ok (.iconst 0, 1) := dk_0 a_Pl_read_16 (dko_3 _)
theorem d_Pl_read_17 : decode b_Pl_read 17 = .ok (.putfield 44, 3) := dk_U2 a_Pl_read_17 (dko_181 _) rfl
theorem d_Pl_read_20 : decode b_Pl_read 20 = .ok (.iconst 0, 1) := dk_0 a_Pl_read_20 (dko_3 _)
theorem d_Pl_read_21 : decode b_Pl_read 21 = .ok (.istore_n 2, 1) := dk_0 a_Pl_read_21 (dko_61 _)
theorem d_Pl_read_22 : decode b_Pl_read 22 = .ok (.iload_n 2, 1) := dk_0 a_Pl_read_22 (dko_28 _)
theorem d_Pl_read_23 : decode b_Pl_read 23 = .ok (.sipush 4000, 3) := dk_S2 a_Pl_read_23 (dko_17 _) (by decide +kernel)
theorem d_Pl_read_26 : decode b_Pl_read 26 = .ok (.if_icmp .gt 42, 3) := dk_S2 a_Pl_read_26 (dko_163 _) (by decide +kernel)
theorem d_Pl_read_29 : decode b_Pl_read 29 = .ok (.aload_n 0, 1) := dk_0 a_Pl_read_29 (dko_42 _)
theorem d_Pl_read_30 : decode b_Pl_read 30 = .ok (.getfield 44, 3) := dk_U2 a_Pl_read_30 (dko_180 _) rfl
theorem d_Pl_read_33 : decode b_Pl_read 33 = .ok (.aload_n 1, 1) := dk_0 a_Pl_read_33 (dko_43 _)
theorem d_Pl_read_34 : decode b_Pl_read 34 = .ok (.getfield 47, 3) := dk_U2 a_Pl_read_34 (dko_180 _) rfl
theorem d_Pl_read_37 : decode b_Pl_read 37 = .ok (.if_icmp .ge 31, 3) := dk_S2 a_Pl_read_37 (dko_162 _) (by decide +kernel)
theorem d_Pl_read_68 : decode b_Pl_read 68 = .ok (.iconst (-1), 1) := dk_0 a_Pl_read_68 (dko_2 _)
theorem d_Pl_read_69 : decode b_Pl_read 69 = .ok (.ireturn, 1) := dk_0 a_Pl_read_69 (dko_172 _)
set_option maxHeartbeats 4000000 in
set_option maxRecDepth 100000 in
theorem c_Pl_read (l : Launch) (dC : Nat → ClassId) (dI : Nat → Nat → Nat) (cI cB cZ cJ : ClassId) (nn : Int32) (hnn : ¬ 0 < nn) (oP2 : Nat) (oTp : Nat) (xq : List Value) (hxq_things : fx xq 0 (.int 0)) (hxq_pipes : fx xq 1 (.int 0)) (hxq_tape : fx xq 9 (.null)) (hxq_at : fx xq 10 (.int 0)) (xt : List Value) (htp_end : fx xt 2 (.int nn)) (sz : Nat) : Met l y_Pl_read w_Pl_read ({ frames := 0, cells := 0, slots := 0, locals := 0 }) (va_Pc [.ref oP2, .ref oTp] (PW dC dI cI cB cZ cJ [(oP2, .inr (3, xq)), (oTp, .inr (1, xt))] sz)) (va_Qi (fun (r : Int32) (_ : Unit) => r = (-1)) (fun (_ : Unit) (t : State) => ∃ (n_xq : List Value), fx n_xq 0 (.int 0) ∧ fx n_xq 1 (.int 0) ∧ fx n_xq 9 (.ref oTp) ∧ fx n_xq 10 (.int 0) ∧ fx xt 2 (.int nn) ∧ va_P (dC, dI) classes [(oP2, .inr (3, n_xq)), (oTp, .inr (1, xt))] t.heap ∧ va_D (va_A [(oP2, .inr (3, xq)), (oTp, .inr (1, xt))] sz) [(oP2, .inr (3, n_xq)), (oTp, .inr (1, xt))]) (va_A [(oP2, .inr (3, xq)), (oTp, .inr (1, xt))] sz)) 0 0 (va_A [(oP2, .inr (3, xq)), (oTp, .inr (1, xt))] sz) := by
  refine Met.ofW (cc := b_Pl_read) (maxL := 3) (ret := (some .int)) (by decide) rfl ?_
  intro p e s m args below meth c s₁ B hml hv
  obtain ⟨rfl, hsz, hP, hK, hD⟩ := hv
  have hx := B.exec
  have hb := B.bytes
  have hr := B.returns
  have hts := atoms_spec (ws := w_Pl_read) B.pre
  have hown : s.vm.findClass R_Pl = some m.cls := findClass_of_methodNamed B.named
  have hlocks := B.notSynchronized
  subst hsz
  have hD := hD.self (sz := s.heap.size)
  generalize hAe : va_A [(oP2, .inr (3, xq)), (oTp, .inr (1, xt))] s.heap.size = A at hD ⊢
  have hA : ∀ q : Nat, s.heap.size ≤ q → A q := fun q h => by rw [← hAe]; exact Or.inr h
  have hS : va_S A s.heap s.heap [] := va_S.rf
  have hP : va_P (dC, dI) classes [(oP2, .inr (3, xq)), (oTp, .inr (1, xt))] s.heap := hP
  have hl := lv_entry ([.ref oP2, .ref oTp]) (n := 3) (Nat.le_of_ble_eq_true rfl)
  rw [lg_entry_eq]
  generalize (lg_sl ([.ref oP2, .ref oTp]) ++ List.replicate (3 - (lg_sl ([.ref oP2, .ref oTp])).length) Slot.unset).toArray = ls at hl ⊢
  have hl : lv_has ls 3 [(0, .ref oP2), (1, .ref oTp)] := hl
  refine lv_aload_n hx hb d_Pl_read_0 rfl (lv_at hl 0 rfl) ?_
  refine lv_aload_n hx hb d_Pl_read_1 rfl (lv_at hl 1 rfl) ?_
  refine va_put (D := (dC, dI)) (ci := 3) (v := .ref oTp) (ty := (.object "BreweryHouse$Tape")) (C := R_Pl) (T := F_Pl) (N := 12) hx hb hts (fun w h => List.mem_cons_of_mem _ (in_Pl w h)) t_Pl t_Pl_ok n_Pl hown hK.1 hP hD hS 0 rfl rfl 9 (by decide) (hts _ (List.mem_cons_of_mem _ mw_117)) (fun _ h9 => h9) rfl (t_Pl_ok 9 (by decide)) rfl rfl (st_lt hxq_tape) d_Pl_read_2 (fun H locs hP hD hS => ?_)
  have g2_10 : fx (xq.set 9 (.ref oTp)) 10 (.int 0) := (st_ne hxq_at (by decide))
  have g2_1 : fx (xq.set 9 (.ref oTp)) 1 (.int 0) := (st_ne hxq_pipes (by decide))
  have g2_9 : fx (xq.set 9 (.ref oTp)) 9 (.ref oTp) := (st_eq hxq_tape)
  have g2_0 : fx (xq.set 9 (.ref oTp)) 0 (.int 0) := (st_ne hxq_things (by decide))
  have hP : va_P (dC, dI) classes [(oP2, .inr (3, (xq.set 9 (.ref oTp)))), (oTp, .inr (1, xt))] H := hP
  have hD : va_D A [(oP2, .inr (3, (xq.set 9 (.ref oTp)))), (oTp, .inr (1, xt))] := hD
  generalize (xq.set 9 (.ref oTp)) = s2_1 at hP hD g2_10 g2_1 g2_9 g2_0
  refine lv_aload_n hx hb d_Pl_read_5 rfl (lv_at hl 0 rfl) ?_
  refine lv_iconst (v := 0) hx hb d_Pl_read_6 (by decide) ?_
  refine va_put (D := (dC, dI)) (ci := 3) (v := .int 0) (ty := .int) (C := R_Pl) (T := F_Pl) (N := 12) hx hb hts (fun w h => List.mem_cons_of_mem _ (in_Pl w h)) t_Pl t_Pl_ok n_Pl hown hK.1 hP hD hS 0 rfl rfl 0 (by decide) (hts _ (List.mem_cons_of_mem _ mw_86)) (fun _ h9 => h9) rfl (t_Pl_ok 0 (by decide)) rfl rfl (st_lt g2_0) d_Pl_read_7 (fun H locs hP hD hS => ?_)
  have g7_10 : fx (s2_1.set 0 (.int 0)) 10 (.int 0) := (st_ne g2_10 (by decide))
  have g7_1 : fx (s2_1.set 0 (.int 0)) 1 (.int 0) := (st_ne g2_1 (by decide))
  have g7_9 : fx (s2_1.set 0 (.int 0)) 9 (.ref oTp) := (st_ne g2_9 (by decide))
  have g7_0 : fx (s2_1.set 0 (.int 0)) 0 (.int 0) := (st_eq g2_0)
  have hP : va_P (dC, dI) classes [(oP2, .inr (3, (s2_1.set 0 (.int 0)))), (oTp, .inr (1, xt))] H := hP
  have hD : va_D A [(oP2, .inr (3, (s2_1.set 0 (.int 0)))), (oTp, .inr (1, xt))] := hD
  generalize (s2_1.set 0 (.int 0)) = s7_2 at hP hD g7_10 g7_1 g7_9 g7_0
  refine lv_aload_n hx hb d_Pl_read_10 rfl (lv_at hl 0 rfl) ?_
  refine lv_iconst (v := 0) hx hb d_Pl_read_11 (by decide) ?_
  refine va_put (D := (dC, dI)) (ci := 3) (v := .int 0) (ty := .int) (C := R_Pl) (T := F_Pl) (N := 12) hx hb hts (fun w h => List.mem_cons_of_mem _ (in_Pl w h)) t_Pl t_Pl_ok n_Pl hown hK.1 hP hD hS 0 rfl rfl 1 (by decide) (hts _ (List.mem_cons_of_mem _ mw_92)) (fun _ h9 => h9) rfl (t_Pl_ok 1 (by decide)) rfl rfl (st_lt g7_1) d_Pl_read_12 (fun H locs hP hD hS => ?_)
  have g12_10 : fx (s7_2.set 1 (.int 0)) 10 (.int 0) := (st_ne g7_10 (by decide))
  have g12_1 : fx (s7_2.set 1 (.int 0)) 1 (.int 0) := (st_eq g7_1)
  have g12_9 : fx (s7_2.set 1 (.int 0)) 9 (.ref oTp) := (st_ne g7_9 (by decide))
  have g12_0 : fx (s7_2.set 1 (.int 0)) 0 (.int 0) := (st_ne g7_0 (by decide))
  have hP : va_P (dC, dI) classes [(oP2, .inr (3, (s7_2.set 1 (.int 0)))), (oTp, .inr (1, xt))] H := hP
  have hD : va_D A [(oP2, .inr (3, (s7_2.set 1 (.int 0)))), (oTp, .inr (1, xt))] := hD
  generalize (s7_2.set 1 (.int 0)) = s12_3 at hP hD g12_10 g12_1 g12_9 g12_0
  refine lv_aload_n hx hb d_Pl_read_15 rfl (lv_at hl 0 rfl) ?_
  refine lv_iconst (v := 0) hx hb d_Pl_read_16 (by decide) ?_
  refine va_put (D := (dC, dI)) (ci := 3) (v := .int 0) (ty := .int) (C := R_Pl) (T := F_Pl) (N := 12) hx hb hts (fun w h => List.mem_cons_of_mem _ (in_Pl w h)) t_Pl t_Pl_ok n_Pl hown hK.1 hP hD hS 0 rfl rfl 10 (by decide) (hts _ (List.mem_cons_of_mem _ mw_118)) (fun _ h9 => h9) rfl (t_Pl_ok 10 (by decide)) rfl rfl (st_lt g12_10) d_Pl_read_17 (fun H locs hP hD hS => ?_)
  have g17_10 : fx (s12_3.set 10 (.int 0)) 10 (.int 0) := (st_eq g12_10)
  have g17_1 : fx (s12_3.set 10 (.int 0)) 1 (.int 0) := (st_ne g12_1 (by decide))
  have g17_9 : fx (s12_3.set 10 (.int 0)) 9 (.ref oTp) := (st_ne g12_9 (by decide))
  have g17_0 : fx (s12_3.set 10 (.int 0)) 0 (.int 0) := (st_ne g12_0 (by decide))
  have hP : va_P (dC, dI) classes [(oP2, .inr (3, (s12_3.set 10 (.int 0)))), (oTp, .inr (1, xt))] H := hP
  have hD : va_D A [(oP2, .inr (3, (s12_3.set 10 (.int 0)))), (oTp, .inr (1, xt))] := hD
  generalize (s12_3.set 10 (.int 0)) = s17_4 at hP hD g17_10 g17_1 g17_9 g17_0
  refine lv_iconst (v := 0) hx hb d_Pl_read_20 (by decide) ?_
  refine lv_istore_n hx hb d_Pl_read_21 rfl hl (by decide) rfl (fun ls hl => ?_)
  have hl : lv_has ls 3 [(2, .int 0), (0, .ref oP2), (1, .ref oTp)] := hl
  refine lv_iload_n hx hb d_Pl_read_22 rfl (lv_at hl 0 rfl) ?_
  refine lv_sipush (v := 4000) hx hb d_Pl_read_23 (by decide) ?_
  refine lv_icmp_gt (tgt := 68) hx hb d_Pl_read_26 (by decide) (fun h => absurd h (by decide)) (fun _ => ?_)
  refine lv_aload_n hx hb d_Pl_read_29 rfl (lv_at hl 1 rfl) ?_
  refine va_get (D := (dC, dI)) (ci := 3) (v := .int 0) (C := R_Pl) (T := F_Pl) (N := 12) hx hb hts (fun w h => List.mem_cons_of_mem _ (in_Pl w h)) hown hK.1 hP 0 rfl rfl 10 (by decide) (hts _ (List.mem_cons_of_mem _ mw_118)) (fun _ h9 => h9) g17_10 d_Pl_read_30 ?_
  refine lv_aload_n hx hb d_Pl_read_33 rfl (lv_at hl 2 rfl) ?_
  refine va_get (D := (dC, dI)) (ci := 1) (v := .int nn) (C := R_Tp) (T := F_Tp) (N := 3) hx hb hts (fun w h => List.mem_cons_of_mem _ (in_Tp w h)) hown hK.1 hP 1 rfl rfl 2 (by decide) (hts _ (List.mem_cons_of_mem _ mw_41)) (fun _ h9 => h9) htp_end d_Pl_read_34 ?_
  refine lv_icmp_ge (tgt := 68) hx hb d_Pl_read_37 (by decide) (fun _ => ?_) (fun h => absurd (nu_le hnn (by decide)) h)
  refine lv_iconst (v := (-1)) hx hb d_Pl_read_68 (by decide) ?_
  exact W.iret (v := (-1)) hx hb hr (fun t ht hW => ⟨⟨_, (), rfl, (rfl), ⟨s17_4, g17_0, g17_1, g17_9, g17_10, htp_end, by rw [ht]; exact hP, hD⟩⟩, hS.F ht⟩) hS.2.2 d_Pl_read_69
abbrev t_Ro_nextWord_166 : List UInt8 := 177 :: []
abbrev t_Ro_nextWord_163 : List UInt8 := 181 :: 0 :: 70 :: t_Ro_nextWord_166
abbrev t_Ro_nextWord_162 : List UInt8 := 96 :: t_Ro_nextWord_163
abbrev t_Ro_nextWord_161 : List UInt8 := 4 :: t_Ro_nextWord_162
abbrev t_Ro_nextWord_158 : List UInt8 := 180 :: 0 :: 70 :: t_Ro_nextWord_161
abbrev t_Ro_nextWord_157 : List UInt8 := 89 :: t_Ro_nextWord_158
abbrev t_Ro_nextWord_156 : List UInt8 := 42 :: t_Ro_nextWord_157
abbrev t_Ro_nextWord_153 : List UInt8 := 181 :: 0 :: 73 :: t_Ro_nextWord_156
abbrev t_Ro_nextWord_152 : List UInt8 := 96 :: t_Ro_nextWord_153
abbrev t_Ro_nextWord_151 : List UInt8 := 4 :: t_Ro_nextWord_152
abbrev t_Ro_nextWord_148 : List UInt8 := 180 :: 0 :: 73 :: t_Ro_nextWord_151
abbrev t_Ro_nextWord_147 : List UInt8 := 89 :: t_Ro_nextWord_148
abbrev t_Ro_nextWord_146 : List UInt8 := 42 :: t_Ro_nextWord_147
abbrev t_Ro_nextWord_143 : List UInt8 := 162 :: 0 :: 13 :: t_Ro_nextWord_146
abbrev t_Ro_nextWord_140 : List UInt8 := 180 :: 0 :: 82 :: t_Ro_nextWord_143
abbrev t_Ro_nextWord_137 : List UInt8 := 180 :: 0 :: 57 :: t_Ro_nextWord_140
abbrev t_Ro_nextWord_136 : List UInt8 := 42 :: t_Ro_nextWord_137
abbrev t_Ro_nextWord_133 : List UInt8 := 180 :: 0 :: 79 :: t_Ro_nextWord_136
abbrev t_Ro_nextWord_132 : List UInt8 := 42 :: t_Ro_nextWord_133
abbrev t_Ro_nextWord_129 : List UInt8 := 160 :: 0 :: 27 :: t_Ro_nextWord_132
abbrev t_Ro_nextWord_126 : List UInt8 := 180 :: 0 :: 79 :: t_Ro_nextWord_129
abbrev t_Ro_nextWord_125 : List UInt8 := 42 :: t_Ro_nextWord_126
abbrev t_Ro_nextWord_122 : List UInt8 := 180 :: 0 :: 73 :: t_Ro_nextWord_125
abbrev t_Ro_nextWord_121 : List UInt8 := 42 :: t_Ro_nextWord_122
abbrev t_Ro_nextWord_118 : List UInt8 := 167 :: 255 :: 198 :: t_Ro_nextWord_121
abbrev t_Ro_nextWord_115 : List UInt8 := 181 :: 0 :: 73 :: t_Ro_nextWord_118
abbrev t_Ro_nextWord_114 : List UInt8 := 96 :: t_Ro_nextWord_115
abbrev t_Ro_nextWord_113 : List UInt8 := 4 :: t_Ro_nextWord_114
abbrev t_Ro_nextWord_110 : List UInt8 := 180 :: 0 :: 73 :: t_Ro_nextWord_113
abbrev t_Ro_nextWord_109 : List UInt8 := 89 :: t_Ro_nextWord_110
abbrev t_Ro_nextWord_108 : List UInt8 := 42 :: t_Ro_nextWord_109
abbrev t_Ro_nextWord_105 : List UInt8 := 154 :: 0 :: 16 :: t_Ro_nextWord_108
abbrev t_Ro_nextWord_102 : List UInt8 := 184 :: 0 :: 97 :: t_Ro_nextWord_105
abbrev t_Ro_nextWord_99 : List UInt8 := 182 :: 0 :: 90 :: t_Ro_nextWord_102
abbrev t_Ro_nextWord_96 : List UInt8 := 180 :: 0 :: 73 :: t_Ro_nextWord_99
abbrev t_Ro_nextWord_95 : List UInt8 := 42 :: t_Ro_nextWord_96
abbrev t_Ro_nextWord_92 : List UInt8 := 180 :: 0 :: 57 :: t_Ro_nextWord_95
abbrev t_Ro_nextWord_91 : List UInt8 := 42 :: t_Ro_nextWord_92
abbrev t_Ro_nextWord_88 : List UInt8 := 154 :: 0 :: 33 :: t_Ro_nextWord_91
abbrev t_Ro_nextWord_85 : List UInt8 := 184 :: 0 :: 94 :: t_Ro_nextWord_88
abbrev t_Ro_nextWord_82 : List UInt8 := 182 :: 0 :: 90 :: t_Ro_nextWord_85
abbrev t_Ro_nextWord_79 : List UInt8 := 180 :: 0 :: 73 :: t_Ro_nextWord_82
abbrev t_Ro_nextWord_78 : List UInt8 := 42 :: t_Ro_nextWord_79
abbrev t_Ro_nextWord_75 : List UInt8 := 180 :: 0 :: 57 :: t_Ro_nextWord_78
abbrev t_Ro_nextWord_74 : List UInt8 := 42 :: t_Ro_nextWord_75
abbrev t_Ro_nextWord_71 : List UInt8 := 162 :: 0 :: 50 :: t_Ro_nextWord_74
abbrev t_Ro_nextWord_68 : List UInt8 := 180 :: 0 :: 82 :: t_Ro_nextWord_71
abbrev t_Ro_nextWord_65 : List UInt8 := 180 :: 0 :: 57 :: t_Ro_nextWord_68
abbrev t_Ro_nextWord_64 : List UInt8 := 42 :: t_Ro_nextWord_65
abbrev t_Ro_nextWord_61 : List UInt8 := 180 :: 0 :: 73 :: t_Ro_nextWord_64
abbrev t_Ro_nextWord_60 : List UInt8 := 42 :: t_Ro_nextWord_61
abbrev t_Ro_nextWord_57 : List UInt8 := 181 :: 0 :: 73 :: t_Ro_nextWord_60
abbrev t_Ro_nextWord_54 : List UInt8 := 180 :: 0 :: 79 :: t_Ro_nextWord_57
abbrev t_Ro_nextWord_53 : List UInt8 := 42 :: t_Ro_nextWord_54
abbrev t_Ro_nextWord_52 : List UInt8 := 42 :: t_Ro_nextWord_53
abbrev t_Ro_nextWord_49 : List UInt8 := 167 :: 255 :: 215 :: t_Ro_nextWord_52
abbrev t_Ro_nextWord_46 : List UInt8 := 181 :: 0 :: 79 :: t_Ro_nextWord_49
abbrev t_Ro_nextWord_45 : List UInt8 := 96 :: t_Ro_nextWord_46
abbrev t_Ro_nextWord_44 : List UInt8 := 4 :: t_Ro_nextWord_45
abbrev t_Ro_nextWord_41 : List UInt8 := 180 :: 0 :: 79 :: t_Ro_nextWord_44
abbrev t_Ro_nextWord_40 : List UInt8 := 89 :: t_Ro_nextWord_41
abbrev t_Ro_nextWord_39 : List UInt8 := 42 :: t_Ro_nextWord_40
abbrev t_Ro_nextWord_36 : List UInt8 := 153 :: 0 :: 16 :: t_Ro_nextWord_39
abbrev t_Ro_nextWord_33 : List UInt8 := 184 :: 0 :: 94 :: t_Ro_nextWord_36
abbrev t_Ro_nextWord_30 : List UInt8 := 182 :: 0 :: 90 :: t_Ro_nextWord_33
abbrev t_Ro_nextWord_27 : List UInt8 := 180 :: 0 :: 79 :: t_Ro_nextWord_30
abbrev t_Ro_nextWord_26 : List UInt8 := 42 :: t_Ro_nextWord_27
abbrev t_Ro_nextWord_23 : List UInt8 := 180 :: 0 :: 57 :: t_Ro_nextWord_26
abbrev t_Ro_nextWord_22 : List UInt8 := 42 :: t_Ro_nextWord_23
abbrev t_Ro_nextWord_19 : List UInt8 := 162 :: 0 :: 33 :: t_Ro_nextWord_22
abbrev t_Ro_nextWord_16 : List UInt8 := 180 :: 0 :: 82 :: t_Ro_nextWord_19
abbrev t_Ro_nextWord_13 : List UInt8 := 180 :: 0 :: 57 :: t_Ro_nextWord_16
abbrev t_Ro_nextWord_12 : List UInt8 := 42 :: t_Ro_nextWord_13
abbrev t_Ro_nextWord_9 : List UInt8 := 180 :: 0 :: 79 :: t_Ro_nextWord_12
abbrev t_Ro_nextWord_8 : List UInt8 := 42 :: t_Ro_nextWord_9
abbrev t_Ro_nextWord_5 : List UInt8 := 181 :: 0 :: 79 :: t_Ro_nextWord_8
abbrev t_Ro_nextWord_2 : List UInt8 := 180 :: 0 :: 73 :: t_Ro_nextWord_5
abbrev t_Ro_nextWord_1 : List UInt8 := 42 :: t_Ro_nextWord_2
abbrev t_Ro_nextWord_0 : List UInt8 := 42 :: t_Ro_nextWord_1
theorem a_Ro_nextWord_0 : dk_at b_Ro_nextWord 0 t_Ro_nextWord_0 := dk_start (by decide +kernel)
theorem a_Ro_nextWord_1 : dk_at b_Ro_nextWord 1 t_Ro_nextWord_1 := dk_go 1 a_Ro_nextWord_0 rfl
theorem a_Ro_nextWord_2 : dk_at b_Ro_nextWord 2 t_Ro_nextWord_2 := dk_go 1 a_Ro_nextWord_1 rfl
theorem a_Ro_nextWord_5 : dk_at b_Ro_nextWord 5 t_Ro_nextWord_5 := dk_go 3 a_Ro_nextWord_2 rfl
theorem a_Ro_nextWord_8 : dk_at b_Ro_nextWord 8 t_Ro_nextWord_8 := dk_go 3 a_Ro_nextWord_5 rfl
theorem a_Ro_nextWord_9 : dk_at b_Ro_nextWord 9 t_Ro_nextWord_9 := dk_go 1 a_Ro_nextWord_8 rfl
theorem a_Ro_nextWord_12 : dk_at b_Ro_nextWord 12 t_Ro_nextWord_12 := dk_go 3 a_Ro_nextWord_9 rfl
theorem a_Ro_nextWord_13 : dk_at b_Ro_nextWord 13 t_Ro_nextWord_13 := dk_go 1 a_Ro_nextWord_12 rfl
theorem a_Ro_nextWord_16 : dk_at b_Ro_nextWord 16 t_Ro_nextWord_16 := dk_go 3 a_Ro_nextWord_13 rfl
theorem a_Ro_nextWord_19 : dk_at b_Ro_nextWord 19 t_Ro_nextWord_19 := dk_go 3 a_Ro_nextWord_16 rfl
theorem a_Ro_nextWord_22 : dk_at b_Ro_nextWord 22 t_Ro_nextWord_22 := dk_go 3 a_Ro_nextWord_19 rfl
theorem a_Ro_nextWord_23 : dk_at b_Ro_nextWord 23 t_Ro_nextWord_23 := dk_go 1 a_Ro_nextWord_22 rfl
theorem a_Ro_nextWord_26 : dk_at b_Ro_nextWord 26 t_Ro_nextWord_26 := dk_go 3 a_Ro_nextWord_23 rfl
theorem a_Ro_nextWord_27 : dk_at b_Ro_nextWord 27 t_Ro_nextWord_27 := dk_go 1 a_Ro_nextWord_26 rfl
theorem a_Ro_nextWord_30 : dk_at b_Ro_nextWord 30 t_Ro_nextWord_30 := dk_go 3 a_Ro_nextWord_27 rfl
theorem a_Ro_nextWord_33 : dk_at b_Ro_nextWord 33 t_Ro_nextWord_33 := dk_go 3 a_Ro_nextWord_30 rfl
theorem a_Ro_nextWord_36 : dk_at b_Ro_nextWord 36 t_Ro_nextWord_36 := dk_go 3 a_Ro_nextWord_33 rfl
theorem a_Ro_nextWord_39 : dk_at b_Ro_nextWord 39 t_Ro_nextWord_39 := dk_go 3 a_Ro_nextWord_36 rfl
theorem a_Ro_nextWord_40 : dk_at b_Ro_nextWord 40 t_Ro_nextWord_40 := dk_go 1 a_Ro_nextWord_39 rfl
theorem a_Ro_nextWord_41 : dk_at b_Ro_nextWord 41 t_Ro_nextWord_41 := dk_go 1 a_Ro_nextWord_40 rfl
theorem a_Ro_nextWord_44 : dk_at b_Ro_nextWord 44 t_Ro_nextWord_44 := dk_go 3 a_Ro_nextWord_41 rfl
theorem a_Ro_nextWord_45 : dk_at b_Ro_nextWord 45 t_Ro_nextWord_45 := dk_go 1 a_Ro_nextWord_44 rfl
theorem a_Ro_nextWord_46 : dk_at b_Ro_nextWord 46 t_Ro_nextWord_46 := dk_go 1 a_Ro_nextWord_45 rfl
theorem a_Ro_nextWord_49 : dk_at b_Ro_nextWord 49 t_Ro_nextWord_49 := dk_go 3 a_Ro_nextWord_46 rfl
theorem a_Ro_nextWord_52 : dk_at b_Ro_nextWord 52 t_Ro_nextWord_52 := dk_go 3 a_Ro_nextWord_49 rfl
theorem a_Ro_nextWord_53 : dk_at b_Ro_nextWord 53 t_Ro_nextWord_53 := dk_go 1 a_Ro_nextWord_52 rfl
theorem a_Ro_nextWord_54 : dk_at b_Ro_nextWord 54 t_Ro_nextWord_54 := dk_go 1 a_Ro_nextWord_53 rfl
theorem a_Ro_nextWord_57 : dk_at b_Ro_nextWord 57 t_Ro_nextWord_57 := dk_go 3 a_Ro_nextWord_54 rfl
theorem a_Ro_nextWord_60 : dk_at b_Ro_nextWord 60 t_Ro_nextWord_60 := dk_go 3 a_Ro_nextWord_57 rfl
theorem a_Ro_nextWord_61 : dk_at b_Ro_nextWord 61 t_Ro_nextWord_61 := dk_go 1 a_Ro_nextWord_60 rfl
theorem a_Ro_nextWord_64 : dk_at b_Ro_nextWord 64 t_Ro_nextWord_64 := dk_go 3 a_Ro_nextWord_61 rfl
theorem a_Ro_nextWord_65 : dk_at b_Ro_nextWord 65 t_Ro_nextWord_65 := dk_go 1 a_Ro_nextWord_64 rfl
theorem a_Ro_nextWord_68 : dk_at b_Ro_nextWord 68 t_Ro_nextWord_68 := dk_go 3 a_Ro_nextWord_65 rfl
theorem a_Ro_nextWord_71 : dk_at b_Ro_nextWord 71 t_Ro_nextWord_71 := dk_go 3 a_Ro_nextWord_68 rfl
theorem a_Ro_nextWord_74 : dk_at b_Ro_nextWord 74 t_Ro_nextWord_74 := dk_go 3 a_Ro_nextWord_71 rfl
theorem a_Ro_nextWord_75 : dk_at b_Ro_nextWord 75 t_Ro_nextWord_75 := dk_go 1 a_Ro_nextWord_74 rfl
theorem a_Ro_nextWord_78 : dk_at b_Ro_nextWord 78 t_Ro_nextWord_78 := dk_go 3 a_Ro_nextWord_75 rfl
theorem a_Ro_nextWord_79 : dk_at b_Ro_nextWord 79 t_Ro_nextWord_79 := dk_go 1 a_Ro_nextWord_78 rfl
theorem a_Ro_nextWord_82 : dk_at b_Ro_nextWord 82 t_Ro_nextWord_82 := dk_go 3 a_Ro_nextWord_79 rfl
theorem a_Ro_nextWord_85 : dk_at b_Ro_nextWord 85 t_Ro_nextWord_85 := dk_go 3 a_Ro_nextWord_82 rfl
theorem a_Ro_nextWord_88 : dk_at b_Ro_nextWord 88 t_Ro_nextWord_88 := dk_go 3 a_Ro_nextWord_85 rfl
theorem a_Ro_nextWord_91 : dk_at b_Ro_nextWord 91 t_Ro_nextWord_91 := dk_go 3 a_Ro_nextWord_88 rfl
theorem a_Ro_nextWord_92 : dk_at b_Ro_nextWord 92 t_Ro_nextWord_92 := dk_go 1 a_Ro_nextWord_91 rfl
theorem a_Ro_nextWord_95 : dk_at b_Ro_nextWord 95 t_Ro_nextWord_95 := dk_go 3 a_Ro_nextWord_92 rfl
theorem a_Ro_nextWord_96 : dk_at b_Ro_nextWord 96 t_Ro_nextWord_96 := dk_go 1 a_Ro_nextWord_95 rfl
theorem a_Ro_nextWord_99 : dk_at b_Ro_nextWord 99 t_Ro_nextWord_99 := dk_go 3 a_Ro_nextWord_96 rfl
theorem a_Ro_nextWord_102 : dk_at b_Ro_nextWord 102 t_Ro_nextWord_102 := dk_go 3 a_Ro_nextWord_99 rfl
theorem a_Ro_nextWord_105 : dk_at b_Ro_nextWord 105 t_Ro_nextWord_105 := dk_go 3 a_Ro_nextWord_102 rfl
theorem a_Ro_nextWord_108 : dk_at b_Ro_nextWord 108 t_Ro_nextWord_108 := dk_go 3 a_Ro_nextWord_105 rfl
theorem a_Ro_nextWord_109 : dk_at b_Ro_nextWord 109 t_Ro_nextWord_109 := dk_go 1 a_Ro_nextWord_108 rfl
theorem a_Ro_nextWord_110 : dk_at b_Ro_nextWord 110 t_Ro_nextWord_110 := dk_go 1 a_Ro_nextWord_109 rfl
theorem a_Ro_nextWord_113 : dk_at b_Ro_nextWord 113 t_Ro_nextWord_113 := dk_go 3 a_Ro_nextWord_110 rfl
theorem a_Ro_nextWord_114 : dk_at b_Ro_nextWord 114 t_Ro_nextWord_114 := dk_go 1 a_Ro_nextWord_113 rfl
theorem a_Ro_nextWord_115 : dk_at b_Ro_nextWord 115 t_Ro_nextWord_115 := dk_go 1 a_Ro_nextWord_114 rfl
theorem a_Ro_nextWord_118 : dk_at b_Ro_nextWord 118 t_Ro_nextWord_118 := dk_go 3 a_Ro_nextWord_115 rfl
theorem a_Ro_nextWord_121 : dk_at b_Ro_nextWord 121 t_Ro_nextWord_121 := dk_go 3 a_Ro_nextWord_118 rfl
theorem a_Ro_nextWord_122 : dk_at b_Ro_nextWord 122 t_Ro_nextWord_122 := dk_go 1 a_Ro_nextWord_121 rfl
theorem a_Ro_nextWord_125 : dk_at b_Ro_nextWord 125 t_Ro_nextWord_125 := dk_go 3 a_Ro_nextWord_122 rfl
theorem a_Ro_nextWord_126 : dk_at b_Ro_nextWord 126 t_Ro_nextWord_126 := dk_go 1 a_Ro_nextWord_125 rfl
theorem a_Ro_nextWord_129 : dk_at b_Ro_nextWord 129 t_Ro_nextWord_129 := dk_go 3 a_Ro_nextWord_126 rfl
theorem a_Ro_nextWord_132 : dk_at b_Ro_nextWord 132 t_Ro_nextWord_132 := dk_go 3 a_Ro_nextWord_129 rfl
theorem a_Ro_nextWord_133 : dk_at b_Ro_nextWord 133 t_Ro_nextWord_133 := dk_go 1 a_Ro_nextWord_132 rfl
theorem a_Ro_nextWord_136 : dk_at b_Ro_nextWord 136 t_Ro_nextWord_136 := dk_go 3 a_Ro_nextWord_133 rfl
theorem a_Ro_nextWord_137 : dk_at b_Ro_nextWord 137 t_Ro_nextWord_137 := dk_go 1 a_Ro_nextWord_136 rfl
theorem a_Ro_nextWord_140 : dk_at b_Ro_nextWord 140 t_Ro_nextWord_140 := dk_go 3 a_Ro_nextWord_137 rfl
theorem a_Ro_nextWord_143 : dk_at b_Ro_nextWord 143 t_Ro_nextWord_143 := dk_go 3 a_Ro_nextWord_140 rfl
theorem a_Ro_nextWord_146 : dk_at b_Ro_nextWord 146 t_Ro_nextWord_146 := dk_go 3 a_Ro_nextWord_143 rfl
theorem a_Ro_nextWord_147 : dk_at b_Ro_nextWord 147 t_Ro_nextWord_147 := dk_go 1 a_Ro_nextWord_146 rfl
theorem a_Ro_nextWord_148 : dk_at b_Ro_nextWord 148 t_Ro_nextWord_148 := dk_go 1 a_Ro_nextWord_147 rfl
theorem a_Ro_nextWord_151 : dk_at b_Ro_nextWord 151 t_Ro_nextWord_151 := dk_go 3 a_Ro_nextWord_148 rfl
theorem a_Ro_nextWord_152 : dk_at b_Ro_nextWord 152 t_Ro_nextWord_152 := dk_go 1 a_Ro_nextWord_151 rfl
theorem a_Ro_nextWord_153 : dk_at b_Ro_nextWord 153 t_Ro_nextWord_153 := dk_go 1 a_Ro_nextWord_152 rfl
theorem a_Ro_nextWord_156 : dk_at b_Ro_nextWord 156 t_Ro_nextWord_156 := dk_go 3 a_Ro_nextWord_153 rfl
theorem a_Ro_nextWord_157 : dk_at b_Ro_nextWord 157 t_Ro_nextWord_157 := dk_go 1 a_Ro_nextWord_156 rfl
theorem a_Ro_nextWord_158 : dk_at b_Ro_nextWord 158 t_Ro_nextWord_158 := dk_go 1 a_Ro_nextWord_157 rfl
theorem a_Ro_nextWord_161 : dk_at b_Ro_nextWord 161 t_Ro_nextWord_161 := dk_go 3 a_Ro_nextWord_158 rfl
theorem a_Ro_nextWord_162 : dk_at b_Ro_nextWord 162 t_Ro_nextWord_162 := dk_go 1 a_Ro_nextWord_161 rfl
theorem a_Ro_nextWord_163 : dk_at b_Ro_nextWord 163 t_Ro_nextWord_163 := dk_go 1 a_Ro_nextWord_162 rfl
theorem a_Ro_nextWord_166 : dk_at b_Ro_nextWord 166 t_Ro_nextWord_166 := dk_go 3 a_Ro_nextWord_163 rfl
theorem d_Ro_nextWord_0 : decode b_Ro_nextWord 0 = .ok (.aload_n 0, 1) := dk_0 a_Ro_nextWord_0 (dko_42 _)
theorem d_Ro_nextWord_1 : decode b_Ro_nextWord 1 = .ok (.aload_n 0, 1) := dk_0 a_Ro_nextWord_1 (dko_42 _)
theorem d_Ro_nextWord_2 : decode b_Ro_nextWord 2 = .ok (.getfield 73, 3) := dk_U2 a_Ro_nextWord_2 (dko_180 _) rfl
theorem d_Ro_nextWord_5 : decode b_Ro_nextWord 5 = .ok (.putfield 79, 3) := dk_U2 a_Ro_nextWord_5 (dko_181 _) rfl
theorem d_Ro_nextWord_8 : decode b_Ro_nextWord 8 = .ok (.aload_n 0, 1) := dk_0 a_Ro_nextWord_8 (dko_42 _)
theorem d_Ro_nextWord_9 : decode b_Ro_nextWord 9 = .ok (.getfield 79, 3) := dk_U2 a_Ro_nextWord_9 (dko_180 _) rfl
theorem d_Ro_nextWord_12 : decode b_Ro_nextWord 12 = .ok (.aload_n 0, 1) := dk_0 a_Ro_nextWord_12 (dko_42 _)
theorem d_Ro_nextWord_13 : decode b_Ro_nextWord 13 = .ok (.getfield 57, 3) := dk_U2 a_Ro_nextWord_13 (dko_180 _) rfl
theorem d_Ro_nextWord_16 : decode b_Ro_nextWord 16 = .ok (.getfield 82, 3) := dk_U2 a_Ro_nextWord_16 (dko_180 _) rfl
theorem d_Ro_nextWord_19 : decode b_Ro_nextWord 19 = .ok (.if_icmp .ge 33, 3) := dk_S2 a_Ro_nextWord_19 (dko_162 _) (by decide +kernel)
theorem d_Ro_nextWord_52 : decode b_Ro_nextWord 52 = .ok (.aload_n 0, 1) := dk_0 a_Ro_nextWord_52 (dko_42 _)
theorem d_Ro_nextWord_53 : decode b_Ro_nextWord 53 = .ok (.aload_n 0, 1) := dk_0 a_Ro_nextWord_53 (dko_42 _)
theorem d_Ro_nextWord_54 : decode b_Ro_nextWord 54 = .ok (.getfield 79, 3) := dk_U2 a_Ro_nextWord_54 (dko_180 _) rfl
theorem d_Ro_nextWord_57 : decode b_Ro_nextWord 57 = .ok (.putfield 73, 3) := dk_U2 a_Ro_nextWord_57 (dko_181 _) rfl
theorem d_Ro_nextWord_60 : decode b_Ro_nextWord 60 = .ok (.aload_n 0, 1) := dk_0 a_Ro_nextWord_60 (dko_42 _)
theorem d_Ro_nextWord_61 : decode b_Ro_nextWord 61 = .ok (.getfield 73, 3) := dk_U2 a_Ro_nextWord_61 (dko_180 _) rfl
theorem d_Ro_nextWord_64 : decode b_Ro_nextWord 64 = .ok (.aload_n 0, 1) := dk_0 a_Ro_nextWord_64 (dko_42 _)
theorem d_Ro_nextWord_65 : decode b_Ro_nextWord 65 = .ok (.getfield 57, 3) := dk_U2 a_Ro_nextWord_65 (dko_180 _) rfl
theorem d_Ro_nextWord_68 : decode b_Ro_nextWord 68 = .ok (.getfield 82, 3) := dk_U2 a_Ro_nextWord_68 (dko_180 _) rfl
theorem d_Ro_nextWord_71 : decode b_Ro_nextWord 71 = .ok (.if_icmp .ge 50, 3) := dk_S2 a_Ro_nextWord_71 (dko_162 _) (by decide +kernel)
theorem d_Ro_nextWord_121 : decode b_Ro_nextWord 121 = .ok (.aload_n 0, 1) := dk_0 a_Ro_nextWord_121 (dko_42 _)
theorem d_Ro_nextWord_122 : decode b_Ro_nextWord 122 = .ok (.getfield 73, 3) := dk_U2 a_Ro_nextWord_122 (dko_180 _) rfl
theorem d_Ro_nextWord_125 : decode b_Ro_nextWord 125 = .ok (.aload_n 0, 1) := dk_0 a_Ro_nextWord_125 (dko_42 _)
theorem d_Ro_nextWord_126 : decode b_Ro_nextWord 126 = .ok (.getfield 79, 3) := dk_U2 a_Ro_nextWord_126 (dko_180 _) rfl
theorem d_Ro_nextWord_129 : decode b_Ro_nextWord 129 = .ok (.if_icmp .ne 27, 3) := dk_S2 a_Ro_nextWord_129 (dko_160 _) (by decide +kernel)
theorem d_Ro_nextWord_132 : decode b_Ro_nextWord 132 = .ok (.aload_n 0, 1) := dk_0 a_Ro_nextWord_132 (dko_42 _)
theorem d_Ro_nextWord_133 : decode b_Ro_nextWord 133 = .ok (.getfield 79, 3) := dk_U2 a_Ro_nextWord_133 (dko_180 _) rfl
theorem d_Ro_nextWord_136 : decode b_Ro_nextWord 136 = .ok (.aload_n 0, 1) := dk_0 a_Ro_nextWord_136 (dko_42 _)
theorem d_Ro_nextWord_137 : decode b_Ro_nextWord 137 = .ok (.getfield 57, 3) := dk_U2 a_Ro_nextWord_137 (dko_180 _) rfl
theorem d_Ro_nextWord_140 : decode b_Ro_nextWord 140 = .ok (.getfield 82, 3) := dk_U2 a_Ro_nextWord_140 (dko_180 _) rfl
theorem d_Ro_nextWord_143 : decode b_Ro_nextWord 143 = .ok (.if_icmp .ge 13, 3) := dk_S2 a_Ro_nextWord_143 (dko_162 _) (by decide +kernel)
theorem d_Ro_nextWord_156 : decode b_Ro_nextWord 156 = .ok (.aload_n 0, 1) := dk_0 a_Ro_nextWord_156 (dko_42 _)
theorem d_Ro_nextWord_157 : decode b_Ro_nextWord 157 = .ok (.dup, 1) := dk_0 a_Ro_nextWord_157 (dko_89 _)
theorem d_Ro_nextWord_158 : decode b_Ro_nextWord 158 = .ok (.getfield 70, 3) := dk_U2 a_Ro_nextWord_158 (dko_180 _) rfl
theorem d_Ro_nextWord_161 : decode b_Ro_nextWord 161 = .ok (.iconst 1, 1) := dk_0 a_Ro_nextWord_161 (dko_4 _)
theorem d_Ro_nextWord_162 : decode b_Ro_nextWord 162 = .ok (.iadd, 1) := dk_0 a_Ro_nextWord_162 (dko_96 _)
theorem d_Ro_nextWord_163 : decode b_Ro_nextWord 163 = .ok (.putfield 70, 3) := dk_U2 a_Ro_nextWord_163 (dko_181 _) rfl
theorem d_Ro_nextWord_166 : decode b_Ro_nextWord 166 = .ok (.return_, 1) := dk_0 a_Ro_nextWord_166 (dko_177 _)
set_option maxHeartbeats 4000000 in
set_option maxRecDepth 100000 in
theorem c_Ro_nextWord (l : Launch) (dC : Nat → ClassId) (dI : Nat → Nat → Nat) (cI cB cZ cJ : ClassId) (nn : Int32) (hnn : ¬ 0 < nn) (oR2 : Nat) (oTp : Nat) (xu : List Value) (hxu_count : fx xu 0 (.int 0)) (hxu_conditions : fx xu 1 (.int 0)) (hxu_tape : fx xu 11 (.ref oTp)) (hxu_wordAt : fx xu 12 (.int 0)) (hxu_wordEnd : fx xu 13 (.int 0)) (hxu_word : fx xu 14 (.int (-1))) (hxu_wrong : fx xu 17 (.int (-1))) (xt : List Value) (htp_end : fx xt 2 (.int nn)) (sz : Nat) : Met l y_Ro_nextWord w_Ro_nextWord ({ frames := 0, cells := 0, slots := 0, locals := 0 }) (va_Pc [.ref oR2] (PW dC dI cI cB cZ cJ [(oR2, .inr (7, xu)), (oTp, .inr (1, xt))] sz)) (va_Qv (fun _ : Unit => True) (fun (_ : Unit) (t : State) => ∃ (n_xu : List Value), fx n_xu 0 (.int 0) ∧ fx n_xu 1 (.int 0) ∧ fx n_xu 11 (.ref oTp) ∧ fx n_xu 12 (.int 0) ∧ fx n_xu 13 (.int 0) ∧ fx n_xu 14 (.int 0) ∧ fx n_xu 17 (.int (-1)) ∧ fx xt 2 (.int nn) ∧ va_P (dC, dI) classes [(oR2, .inr (7, n_xu)), (oTp, .inr (1, xt))] t.heap ∧ va_D (va_A [(oR2, .inr (7, xu)), (oTp, .inr (1, xt))] sz) [(oR2, .inr (7, n_xu)), (oTp, .inr (1, xt))]) (va_A [(oR2, .inr (7, xu)), (oTp, .inr (1, xt))] sz)) 0 0 (va_A [(oR2, .inr (7, xu)), (oTp, .inr (1, xt))] sz) := by
  refine Met.ofW (cc := b_Ro_nextWord) (maxL := 1) (ret := none) (by decide) rfl ?_
  intro p e s m args below meth c s₁ B hml hv
  obtain ⟨rfl, hsz, hP, hK, hD⟩ := hv
  have hx := B.exec
  have hb := B.bytes
  have hr := B.returns
  have hts := atoms_spec (ws := w_Ro_nextWord) B.pre
  have hown : s.vm.findClass R_Ro = some m.cls := findClass_of_methodNamed B.named
  have hlocks := B.notSynchronized
  subst hsz
  have hD := hD.self (sz := s.heap.size)
  generalize hAe : va_A [(oR2, .inr (7, xu)), (oTp, .inr (1, xt))] s.heap.size = A at hD ⊢
  have hA : ∀ q : Nat, s.heap.size ≤ q → A q := fun q h => by rw [← hAe]; exact Or.inr h
  have hS : va_S A s.heap s.heap [] := va_S.rf
  have hP : va_P (dC, dI) classes [(oR2, .inr (7, xu)), (oTp, .inr (1, xt))] s.heap := hP
  have hl := lv_entry ([.ref oR2]) (n := 1) (Nat.le_of_ble_eq_true rfl)
  rw [lg_entry_eq]
  generalize (lg_sl ([.ref oR2]) ++ List.replicate (1 - (lg_sl ([.ref oR2])).length) Slot.unset).toArray = ls at hl ⊢
  have hl : lv_has ls 1 [(0, .ref oR2)] := hl
  refine lv_aload_n hx hb d_Ro_nextWord_0 rfl (lv_at hl 0 rfl) ?_
  refine lv_aload_n hx hb d_Ro_nextWord_1 rfl (lv_at hl 0 rfl) ?_
  refine va_get (D := (dC, dI)) (ci := 7) (v := .int 0) (C := R_Ro) (T := F_Ro) (N := 18) hx hb hts (fun w h => List.mem_cons_of_mem _ (in_Ro w h)) hown hK.1 hP 0 rfl rfl 13 (by decide) (hts _ (List.mem_cons_of_mem _ mw_347)) (fun _ h9 => h9) hxu_wordEnd d_Ro_nextWord_2 ?_
  refine va_put (D := (dC, dI)) (ci := 7) (v := .int 0) (ty := .int) (C := R_Ro) (T := F_Ro) (N := 18) hx hb hts (fun w h => List.mem_cons_of_mem _ (in_Ro w h)) t_Ro t_Ro_ok n_Ro hown hK.1 hP hD hS 0 rfl rfl 12 (by decide) (hts _ (List.mem_cons_of_mem _ mw_346)) (fun _ h9 => h9) rfl (t_Ro_ok 12 (by decide)) rfl rfl (st_lt hxu_wordAt) d_Ro_nextWord_5 (fun H locs hP hD hS => ?_)
  have g5_1 : fx (xu.set 12 (.int 0)) 1 (.int 0) := (st_ne hxu_conditions (by decide))
  have g5_0 : fx (xu.set 12 (.int 0)) 0 (.int 0) := (st_ne hxu_count (by decide))
  have g5_11 : fx (xu.set 12 (.int 0)) 11 (.ref oTp) := (st_ne hxu_tape (by decide))
  have g5_14 : fx (xu.set 12 (.int 0)) 14 (.int (-1)) := (st_ne hxu_word (by decide))
  have g5_12 : fx (xu.set 12 (.int 0)) 12 (.int 0) := (st_eq hxu_wordAt)
  have g5_13 : fx (xu.set 12 (.int 0)) 13 (.int 0) := (st_ne hxu_wordEnd (by decide))
  have g5_17 : fx (xu.set 12 (.int 0)) 17 (.int (-1)) := (st_ne hxu_wrong (by decide))
  have hP : va_P (dC, dI) classes [(oR2, .inr (7, (xu.set 12 (.int 0)))), (oTp, .inr (1, xt))] H := hP
  have hD : va_D A [(oR2, .inr (7, (xu.set 12 (.int 0)))), (oTp, .inr (1, xt))] := hD
  generalize (xu.set 12 (.int 0)) = s5_1 at hP hD g5_1 g5_0 g5_11 g5_14 g5_12 g5_13 g5_17
  refine lv_aload_n hx hb d_Ro_nextWord_8 rfl (lv_at hl 0 rfl) ?_
  refine va_get (D := (dC, dI)) (ci := 7) (v := .int 0) (C := R_Ro) (T := F_Ro) (N := 18) hx hb hts (fun w h => List.mem_cons_of_mem _ (in_Ro w h)) hown hK.1 hP 0 rfl rfl 12 (by decide) (hts _ (List.mem_cons_of_mem _ mw_346)) (fun _ h9 => h9) g5_12 d_Ro_nextWord_9 ?_
  refine lv_aload_n hx hb d_Ro_nextWord_12 rfl (lv_at hl 0 rfl) ?_
  refine va_get (D := (dC, dI)) (ci := 7) (v := .ref oTp) (C := R_Ro) (T := F_Ro) (N := 18) hx hb hts (fun w h => List.mem_cons_of_mem _ (in_Ro w h)) hown hK.1 hP 0 rfl rfl 11 (by decide) (hts _ (List.mem_cons_of_mem _ mw_345)) (fun _ h9 => h9) g5_11 d_Ro_nextWord_13 ?_
  refine va_get (D := (dC, dI)) (ci := 1) (v := .int nn) (C := R_Tp) (T := F_Tp) (N := 3) hx hb hts (fun w h => List.mem_cons_of_mem _ (in_Tp w h)) hown hK.1 hP 1 rfl rfl 2 (by decide) (hts _ (List.mem_cons_of_mem _ mw_45)) (fun _ h9 => h9) htp_end d_Ro_nextWord_16 ?_
  refine lv_icmp_ge (tgt := 52) hx hb d_Ro_nextWord_19 (by decide) (fun _ => ?_) (fun h => absurd (nu_le hnn (by decide)) h)
  refine lv_aload_n hx hb d_Ro_nextWord_52 rfl (lv_at hl 0 rfl) ?_
  refine lv_aload_n hx hb d_Ro_nextWord_53 rfl (lv_at hl 0 rfl) ?_
  refine va_get (D := (dC, dI)) (ci := 7) (v := .int 0) (C := R_Ro) (T := F_Ro) (N := 18) hx hb hts (fun w h => List.mem_cons_of_mem _ (in_Ro w h)) hown hK.1 hP 0 rfl rfl 12 (by decide) (hts _ (List.mem_cons_of_mem _ mw_346)) (fun _ h9 => h9) g5_12 d_Ro_nextWord_54 ?_
  refine va_put (D := (dC, dI)) (ci := 7) (v := .int 0) (ty := .int) (C := R_Ro) (T := F_Ro) (N := 18) hx hb hts (fun w h => List.mem_cons_of_mem _ (in_Ro w h)) t_Ro t_Ro_ok n_Ro hown hK.1 hP hD hS 0 rfl rfl 13 (by decide) (hts _ (List.mem_cons_of_mem _ mw_347)) (fun _ h9 => h9) rfl (t_Ro_ok 13 (by decide)) rfl rfl (st_lt g5_13) d_Ro_nextWord_57 (fun H locs hP hD hS => ?_)
  have g57_1 : fx (s5_1.set 13 (.int 0)) 1 (.int 0) := (st_ne g5_1 (by decide))
  have g57_0 : fx (s5_1.set 13 (.int 0)) 0 (.int 0) := (st_ne g5_0 (by decide))
  have g57_11 : fx (s5_1.set 13 (.int 0)) 11 (.ref oTp) := (st_ne g5_11 (by decide))
  have g57_14 : fx (s5_1.set 13 (.int 0)) 14 (.int (-1)) := (st_ne g5_14 (by decide))
  have g57_12 : fx (s5_1.set 13 (.int 0)) 12 (.int 0) := (st_ne g5_12 (by decide))
  have g57_13 : fx (s5_1.set 13 (.int 0)) 13 (.int 0) := (st_eq g5_13)
  have g57_17 : fx (s5_1.set 13 (.int 0)) 17 (.int (-1)) := (st_ne g5_17 (by decide))
  have hP : va_P (dC, dI) classes [(oR2, .inr (7, (s5_1.set 13 (.int 0)))), (oTp, .inr (1, xt))] H := hP
  have hD : va_D A [(oR2, .inr (7, (s5_1.set 13 (.int 0)))), (oTp, .inr (1, xt))] := hD
  generalize (s5_1.set 13 (.int 0)) = s57_2 at hP hD g57_1 g57_0 g57_11 g57_14 g57_12 g57_13 g57_17
  refine lv_aload_n hx hb d_Ro_nextWord_60 rfl (lv_at hl 0 rfl) ?_
  refine va_get (D := (dC, dI)) (ci := 7) (v := .int 0) (C := R_Ro) (T := F_Ro) (N := 18) hx hb hts (fun w h => List.mem_cons_of_mem _ (in_Ro w h)) hown hK.1 hP 0 rfl rfl 13 (by decide) (hts _ (List.mem_cons_of_mem _ mw_347)) (fun _ h9 => h9) g57_13 d_Ro_nextWord_61 ?_
  refine lv_aload_n hx hb d_Ro_nextWord_64 rfl (lv_at hl 0 rfl) ?_
  refine va_get (D := (dC, dI)) (ci := 7) (v := .ref oTp) (C := R_Ro) (T := F_Ro) (N := 18) hx hb hts (fun w h => List.mem_cons_of_mem _ (in_Ro w h)) hown hK.1 hP 0 rfl rfl 11 (by decide) (hts _ (List.mem_cons_of_mem _ mw_345)) (fun _ h9 => h9) g57_11 d_Ro_nextWord_65 ?_
  refine va_get (D := (dC, dI)) (ci := 1) (v := .int nn) (C := R_Tp) (T := F_Tp) (N := 3) hx hb hts (fun w h => List.mem_cons_of_mem _ (in_Tp w h)) hown hK.1 hP 1 rfl rfl 2 (by decide) (hts _ (List.mem_cons_of_mem _ mw_45)) (fun _ h9 => h9) htp_end d_Ro_nextWord_68 ?_
  refine lv_icmp_ge (tgt := 121) hx hb d_Ro_nextWord_71 (by decide) (fun _ => ?_) (fun h => absurd (nu_le hnn (by decide)) h)
  refine lv_aload_n hx hb d_Ro_nextWord_121 rfl (lv_at hl 0 rfl) ?_
  refine va_get (D := (dC, dI)) (ci := 7) (v := .int 0) (C := R_Ro) (T := F_Ro) (N := 18) hx hb hts (fun w h => List.mem_cons_of_mem _ (in_Ro w h)) hown hK.1 hP 0 rfl rfl 13 (by decide) (hts _ (List.mem_cons_of_mem _ mw_347)) (fun _ h9 => h9) g57_13 d_Ro_nextWord_122 ?_
  refine lv_aload_n hx hb d_Ro_nextWord_125 rfl (lv_at hl 0 rfl) ?_
  refine va_get (D := (dC, dI)) (ci := 7) (v := .int 0) (C := R_Ro) (T := F_Ro) (N := 18) hx hb hts (fun w h => List.mem_cons_of_mem _ (in_Ro w h)) hown hK.1 hP 0 rfl rfl 12 (by decide) (hts _ (List.mem_cons_of_mem _ mw_346)) (fun _ h9 => h9) g57_12 d_Ro_nextWord_126 ?_
  refine lv_icmp_ne (tgt := 156) hx hb d_Ro_nextWord_129 (by decide) (fun h => absurd rfl h) (fun _ => ?_)
  refine lv_aload_n hx hb d_Ro_nextWord_132 rfl (lv_at hl 0 rfl) ?_
  refine va_get (D := (dC, dI)) (ci := 7) (v := .int 0) (C := R_Ro) (T := F_Ro) (N := 18) hx hb hts (fun w h => List.mem_cons_of_mem _ (in_Ro w h)) hown hK.1 hP 0 rfl rfl 12 (by decide) (hts _ (List.mem_cons_of_mem _ mw_346)) (fun _ h9 => h9) g57_12 d_Ro_nextWord_133 ?_
  refine lv_aload_n hx hb d_Ro_nextWord_136 rfl (lv_at hl 0 rfl) ?_
  refine va_get (D := (dC, dI)) (ci := 7) (v := .ref oTp) (C := R_Ro) (T := F_Ro) (N := 18) hx hb hts (fun w h => List.mem_cons_of_mem _ (in_Ro w h)) hown hK.1 hP 0 rfl rfl 11 (by decide) (hts _ (List.mem_cons_of_mem _ mw_345)) (fun _ h9 => h9) g57_11 d_Ro_nextWord_137 ?_
  refine va_get (D := (dC, dI)) (ci := 1) (v := .int nn) (C := R_Tp) (T := F_Tp) (N := 3) hx hb hts (fun w h => List.mem_cons_of_mem _ (in_Tp w h)) hown hK.1 hP 1 rfl rfl 2 (by decide) (hts _ (List.mem_cons_of_mem _ mw_45)) (fun _ h9 => h9) htp_end d_Ro_nextWord_140 ?_
  refine lv_icmp_ge (tgt := 156) hx hb d_Ro_nextWord_143 (by decide) (fun _ => ?_) (fun h => absurd (nu_le hnn (by decide)) h)
  refine lv_aload_n hx hb d_Ro_nextWord_156 rfl (lv_at hl 0 rfl) ?_
  refine lv_dup hx hb d_Ro_nextWord_157 rfl ?_
  refine va_get (D := (dC, dI)) (ci := 7) (v := .int (-1)) (C := R_Ro) (T := F_Ro) (N := 18) hx hb hts (fun w h => List.mem_cons_of_mem _ (in_Ro w h)) hown hK.1 hP 0 rfl rfl 14 (by decide) (hts _ (List.mem_cons_of_mem _ mw_348)) (fun _ h9 => h9) g57_14 d_Ro_nextWord_158 ?_
  refine lv_iconst (v := 1) hx hb d_Ro_nextWord_161 (by decide) ?_
  refine lv_iadd hx hb d_Ro_nextWord_162 ?_
  refine lv_topi (fun x0 e0 => ?_)
  obtain rfl : x0 = 0 := e0.trans (by decide)
  refine va_put (D := (dC, dI)) (ci := 7) (v := .int 0) (ty := .int) (C := R_Ro) (T := F_Ro) (N := 18) hx hb hts (fun w h => List.mem_cons_of_mem _ (in_Ro w h)) t_Ro t_Ro_ok n_Ro hown hK.1 hP hD hS 0 rfl rfl 14 (by decide) (hts _ (List.mem_cons_of_mem _ mw_348)) (fun _ h9 => h9) rfl (t_Ro_ok 14 (by decide)) rfl rfl (st_lt g57_14) d_Ro_nextWord_163 (fun H locs hP hD hS => ?_)
  have g163_1 : fx (s57_2.set 14 (.int 0)) 1 (.int 0) := (st_ne g57_1 (by decide))
  have g163_0 : fx (s57_2.set 14 (.int 0)) 0 (.int 0) := (st_ne g57_0 (by decide))
  have g163_11 : fx (s57_2.set 14 (.int 0)) 11 (.ref oTp) := (st_ne g57_11 (by decide))
  have g163_14 : fx (s57_2.set 14 (.int 0)) 14 (.int 0) := (st_eq g57_14)
  have g163_12 : fx (s57_2.set 14 (.int 0)) 12 (.int 0) := (st_ne g57_12 (by decide))
  have g163_13 : fx (s57_2.set 14 (.int 0)) 13 (.int 0) := (st_ne g57_13 (by decide))
  have g163_17 : fx (s57_2.set 14 (.int 0)) 17 (.int (-1)) := (st_ne g57_17 (by decide))
  have hP : va_P (dC, dI) classes [(oR2, .inr (7, (s57_2.set 14 (.int 0)))), (oTp, .inr (1, xt))] H := hP
  have hD : va_D A [(oR2, .inr (7, (s57_2.set 14 (.int 0)))), (oTp, .inr (1, xt))] := hD
  generalize (s57_2.set 14 (.int 0)) = s163_3 at hP hD g163_1 g163_0 g163_11 g163_14 g163_12 g163_13 g163_17
  exact W.vret hx hb hr (fun t ht hW => ⟨⟨(), rfl, trivial, ⟨s163_3, g163_0, g163_1, g163_11, g163_12, g163_13, g163_14, g163_17, htp_end, by rw [ht]; exact hP, hD⟩⟩, hS.F ht⟩) hS.2.2 d_Ro_nextWord_166
abbrev t_Ro_read_80 : List UInt8 := 172 :: []
abbrev t_Ro_read_77 : List UInt8 := 180 :: 0 :: 64 :: t_Ro_read_80
abbrev t_Ro_read_76 : List UInt8 := 42 :: t_Ro_read_77
abbrev t_Ro_read_73 : List UInt8 := 167 :: 255 :: 224 :: t_Ro_read_76
abbrev t_Ro_read_70 : List UInt8 := 132 :: 2 :: 1 :: t_Ro_read_73
abbrev t_Ro_read_67 : List UInt8 := 182 :: 0 :: 87 :: t_Ro_read_70
abbrev t_Ro_read_66 : List UInt8 := 42 :: t_Ro_read_67
abbrev t_Ro_read_63 : List UInt8 := 162 :: 0 :: 13 :: t_Ro_read_66
abbrev t_Ro_read_60 : List UInt8 := 180 :: 0 :: 82 :: t_Ro_read_63
abbrev t_Ro_read_59 : List UInt8 := 43 :: t_Ro_read_60
abbrev t_Ro_read_56 : List UInt8 := 180 :: 0 :: 79 :: t_Ro_read_59
abbrev t_Ro_read_55 : List UInt8 := 42 :: t_Ro_read_56
abbrev t_Ro_read_52 : List UInt8 := 156 :: 0 :: 24 :: t_Ro_read_55
abbrev t_Ro_read_49 : List UInt8 := 180 :: 0 :: 64 :: t_Ro_read_52
abbrev t_Ro_read_48 : List UInt8 := 42 :: t_Ro_read_49
abbrev t_Ro_read_45 : List UInt8 := 163 :: 0 :: 31 :: t_Ro_read_48
abbrev t_Ro_read_42 : List UInt8 := 17 :: 15 :: 160 :: t_Ro_read_45
abbrev t_Ro_read_41 : List UInt8 := 28 :: t_Ro_read_42
abbrev t_Ro_read_40 : List UInt8 := 61 :: t_Ro_read_41
abbrev t_Ro_read_39 : List UInt8 := 3 :: t_Ro_read_40
abbrev t_Ro_read_36 : List UInt8 := 182 :: 0 :: 76 :: t_Ro_read_39
abbrev t_Ro_read_35 : List UInt8 := 42 :: t_Ro_read_36
abbrev t_Ro_read_32 : List UInt8 := 181 :: 0 :: 73 :: t_Ro_read_35
abbrev t_Ro_read_31 : List UInt8 := 3 :: t_Ro_read_32
abbrev t_Ro_read_30 : List UInt8 := 42 :: t_Ro_read_31
abbrev t_Ro_read_27 : List UInt8 := 181 :: 0 :: 70 :: t_Ro_read_30
abbrev t_Ro_read_26 : List UInt8 := 2 :: t_Ro_read_27
abbrev t_Ro_read_25 : List UInt8 := 42 :: t_Ro_read_26
abbrev t_Ro_read_22 : List UInt8 := 181 :: 0 :: 67 :: t_Ro_read_25
abbrev t_Ro_read_21 : List UInt8 := 3 :: t_Ro_read_22
abbrev t_Ro_read_20 : List UInt8 := 42 :: t_Ro_read_21
abbrev t_Ro_read_17 : List UInt8 := 181 :: 0 :: 64 :: t_Ro_read_20
abbrev t_Ro_read_16 : List UInt8 := 2 :: t_Ro_read_17
abbrev t_Ro_read_15 : List UInt8 := 42 :: t_Ro_read_16
abbrev t_Ro_read_12 : List UInt8 := 181 :: 0 :: 61 :: t_Ro_read_15
abbrev t_Ro_read_11 : List UInt8 := 3 :: t_Ro_read_12
abbrev t_Ro_read_10 : List UInt8 := 42 :: t_Ro_read_11
abbrev t_Ro_read_7 : List UInt8 := 181 :: 0 :: 37 :: t_Ro_read_10
abbrev t_Ro_read_6 : List UInt8 := 3 :: t_Ro_read_7
abbrev t_Ro_read_5 : List UInt8 := 42 :: t_Ro_read_6
abbrev t_Ro_read_2 : List UInt8 := 181 :: 0 :: 57 :: t_Ro_read_5
abbrev t_Ro_read_1 : List UInt8 := 43 :: t_Ro_read_2
abbrev t_Ro_read_0 : List UInt8 := 42 :: t_Ro_read_1
theorem a_Ro_read_0 : dk_at b_Ro_read 0 t_Ro_read_0 := dk_start (by decide +kernel)
theorem a_Ro_read_1 : dk_at b_Ro_read 1 t_Ro_read_1 := dk_go 1 a_Ro_read_0 rfl
theorem a_Ro_read_2 : dk_at b_Ro_read 2 t_Ro_read_2 := dk_go 1 a_Ro_read_1 rfl
theorem a_Ro_read_5 : dk_at b_Ro_read 5 t_Ro_read_5 := dk_go 3 a_Ro_read_2 rfl
theorem a_Ro_read_6 : dk_at b_Ro_read 6 t_Ro_read_6 := dk_go 1 a_Ro_read_5 rfl
theorem a_Ro_read_7 : dk_at b_Ro_read 7 t_Ro_read_7 := dk_go 1 a_Ro_read_6 rfl
theorem a_Ro_read_10 : dk_at b_Ro_read 10 t_Ro_read_10 := dk_go 3 a_Ro_read_7 rfl
theorem a_Ro_read_11 : dk_at b_Ro_read 11 t_Ro_read_11 := dk_go 1 a_Ro_read_10 rfl
theorem a_Ro_read_12 : dk_at b_Ro_read 12 t_Ro_read_12 := dk_go 1 a_Ro_read_11 rfl
theorem a_Ro_read_15 : dk_at b_Ro_read 15 t_Ro_read_15 := dk_go 3 a_Ro_read_12 rfl
theorem a_Ro_read_16 : dk_at b_Ro_read 16 t_Ro_read_16 := dk_go 1 a_Ro_read_15 rfl
theorem a_Ro_read_17 : dk_at b_Ro_read 17 t_Ro_read_17 := dk_go 1 a_Ro_read_16 rfl
theorem a_Ro_read_20 : dk_at b_Ro_read 20 t_Ro_read_20 := dk_go 3 a_Ro_read_17 rfl
theorem a_Ro_read_21 : dk_at b_Ro_read 21 t_Ro_read_21 := dk_go 1 a_Ro_read_20 rfl
theorem a_Ro_read_22 : dk_at b_Ro_read 22 t_Ro_read_22 := dk_go 1 a_Ro_read_21 rfl
theorem a_Ro_read_25 : dk_at b_Ro_read 25 t_Ro_read_25 := dk_go 3 a_Ro_read_22 rfl
theorem a_Ro_read_26 : dk_at b_Ro_read 26 t_Ro_read_26 := dk_go 1 a_Ro_read_25 rfl
theorem a_Ro_read_27 : dk_at b_Ro_read 27 t_Ro_read_27 := dk_go 1 a_Ro_read_26 rfl
theorem a_Ro_read_30 : dk_at b_Ro_read 30 t_Ro_read_30 := dk_go 3 a_Ro_read_27 rfl
theorem a_Ro_read_31 : dk_at b_Ro_read 31 t_Ro_read_31 := dk_go 1 a_Ro_read_30 rfl
theorem a_Ro_read_32 : dk_at b_Ro_read 32 t_Ro_read_32 := dk_go 1 a_Ro_read_31 rfl
theorem a_Ro_read_35 : dk_at b_Ro_read 35 t_Ro_read_35 := dk_go 3 a_Ro_read_32 rfl
theorem a_Ro_read_36 : dk_at b_Ro_read 36 t_Ro_read_36 := dk_go 1 a_Ro_read_35 rfl
theorem a_Ro_read_39 : dk_at b_Ro_read 39 t_Ro_read_39 := dk_go 3 a_Ro_read_36 rfl
theorem a_Ro_read_40 : dk_at b_Ro_read 40 t_Ro_read_40 := dk_go 1 a_Ro_read_39 rfl
theorem a_Ro_read_41 : dk_at b_Ro_read 41 t_Ro_read_41 := dk_go 1 a_Ro_read_40 rfl
theorem a_Ro_read_42 : dk_at b_Ro_read 42 t_Ro_read_42 := dk_go 1 a_Ro_read_41 rfl
theorem a_Ro_read_45 : dk_at b_Ro_read 45 t_Ro_read_45 := dk_go 3 a_Ro_read_42 rfl
theorem a_Ro_read_48 : dk_at b_Ro_read 48 t_Ro_read_48 := dk_go 3 a_Ro_read_45 rfl
theorem a_Ro_read_49 : dk_at b_Ro_read 49 t_Ro_read_49 := dk_go 1 a_Ro_read_48 rfl
theorem a_Ro_read_52 : dk_at b_Ro_read 52 t_Ro_read_52 := dk_go 3 a_Ro_read_49 rfl
theorem a_Ro_read_55 : dk_at b_Ro_read 55 t_Ro_read_55 := dk_go 3 a_Ro_read_52 rfl
theorem a_Ro_read_56 : dk_at b_Ro_read 56 t_Ro_read_56 := dk_go 1 a_Ro_read_55 rfl
theorem a_Ro_read_59 : dk_at b_Ro_read 59 t_Ro_read_59 := dk_go 3 a_Ro_read_56 rfl
theorem a_Ro_read_60 : dk_at b_Ro_read 60 t_Ro_read_60 := dk_go 1 a_Ro_read_59 rfl
theorem a_Ro_read_63 : dk_at b_Ro_read 63 t_Ro_read_63 := dk_go 3 a_Ro_read_60 rfl
theorem a_Ro_read_66 : dk_at b_Ro_read 66 t_Ro_read_66 := dk_go 3 a_Ro_read_63 rfl
theorem a_Ro_read_67 : dk_at b_Ro_read 67 t_Ro_read_67 := dk_go 1 a_Ro_read_66 rfl
theorem a_Ro_read_70 : dk_at b_Ro_read 70 t_Ro_read_70 := dk_go 3 a_Ro_read_67 rfl
theorem a_Ro_read_73 : dk_at b_Ro_read 73 t_Ro_read_73 := dk_go 3 a_Ro_read_70 rfl
theorem a_Ro_read_76 : dk_at b_Ro_read 76 t_Ro_read_76 := dk_go 3 a_Ro_read_73 rfl
theorem a_Ro_read_77 : dk_at b_Ro_read 77 t_Ro_read_77 := dk_go 1 a_Ro_read_76 rfl
theorem a_Ro_read_80 : dk_at b_Ro_read 80 t_Ro_read_80 := dk_go 3 a_Ro_read_77 rfl
theorem d_Ro_read_0 : decode b_Ro_read 0 = .ok (.aload_n 0, 1) := dk_0 a_Ro_read_0 (dko_42 _)
theorem d_Ro_read_1 : decode b_Ro_read 1 = .ok (.aload_n 1, 1) := dk_0 a_Ro_read_1 (dko_43 _)
theorem d_Ro_read_2 : decode b_Ro_read 2 = .ok (.putfield 57, 3) := dk_U2 a_Ro_read_2 (dko_181 _) rfl
theorem d_Ro_read_5 : decode b_Ro_read 5 = .ok (.aload_n 0, 1) := dk_0 a_Ro_read_5 (dko_42 _)
theorem d_Ro_read_6 : decode b_Ro_read 6 = .ok (.iconst 0, 1) := dk_0 a_Ro_read_6 (dko_3 _)
theorem d_Ro_read_7 : decode b_Ro_read 7 = .ok (.putfield 37, 3) := dk_U2 a_Ro_read_7 (dko_181 _) rfl
theorem d_Ro_read_10 : decode b_Ro_read 10 = .ok (.aload_n 0, 1) := dk_0 a_Ro_read_10 (dko_42 _)
theorem d_Ro_read_11 : decode b_Ro_read 11 = .ok (.iconst 0, 1) := dk_0 a_Ro_read_11 (dko_3 _)
theorem d_Ro_read_12 : decode b_Ro_read 12 = .ok (.putfield 61, 3) := dk_U2 a_Ro_read_12 (dko_181 _) rfl
theorem d_Ro_read_15 : decode b_Ro_read 15 = .ok (.aload_n 0, 1) := dk_0 a_Ro_read_15 (dko_42 _)
theorem d_Ro_read_16 : decode b_Ro_read 16 = .ok (.iconst (-1), 1) := dk_0 a_Ro_read_16 (dko_2 _)
theorem d_Ro_read_17 : decode b_Ro_read 17 = .ok (.putfield 64, 3) := dk_U2 a_Ro_read_17 (dko_181 _) rfl
theorem d_Ro_read_20 : decode b_Ro_read 20 = .ok (.aload_n 0, 1) := dk_0 a_Ro_read_20 (dko_42 _)
theorem d_Ro_read_21 : decode b_Ro_read 21 = .ok (.iconst 0, 1) := dk_0 a_Ro_read_21 (dko_3 _)
theorem d_Ro_read_22 : decode b_Ro_read 22 = .ok (.putfield 67, 3) := dk_U2 a_Ro_read_22 (dko_181 _) rfl
theorem d_Ro_read_25 : decode b_Ro_read 25 = .ok (.aload_n 0, 1) := dk_0 a_Ro_read_25 (dko_42 _)
theorem d_Ro_read_26 : decode b_Ro_read 26 = .ok (.iconst (-1), 1) := dk_0 a_Ro_read_26 (dko_2 _)
theorem d_Ro_read_27 : decode b_Ro_read 27 = .ok (.putfield 70, 3) := dk_U2 a_Ro_read_27 (dko_181 _) rfl
theorem d_Ro_read_30 : decode b_Ro_read 30 = .ok (.aload_n 0, 1) := dk_0 a_Ro_read_30 (dko_42 _)
theorem d_Ro_read_31 : decode b_Ro_read 31 = .ok (.iconst 0, 1) := dk_0 a_Ro_read_31 (dko_3 _)
theorem d_Ro_read_32 : decode b_Ro_read 32 = .ok (.putfield 73, 3) := dk_U2 a_Ro_read_32 (dko_181 _) rfl
theorem d_Ro_read_35 : decode b_Ro_read 35 = .ok (.aload_n 0, 1) := dk_0 a_Ro_read_35 (dko_42 _)
theorem d_Ro_read_36 : decode b_Ro_read 36 = .ok (.invokevirtual 76, 3) := dk_U2 a_Ro_read_36 (dko_182 _) rfl
theorem d_Ro_read_39 : decode b_Ro_read 39 = .ok (.iconst 0, 1) := dk_0 a_Ro_read_39 (dko_3 _)
theorem d_Ro_read_40 : decode b_Ro_read 40 = .ok (.istore_n 2, 1) := dk_0 a_Ro_read_40 (dko_61 _)
theorem d_Ro_read_41 : decode b_Ro_read 41 = .ok (.iload_n 2, 1) := dk_0 a_Ro_read_41 (dko_28 _)
theorem d_Ro_read_42 : decode b_Ro_read 42 = .ok (.sipush 4000, 3) := dk_S2 a_Ro_read_42 (dko_17 _) (by decide +kernel)
theorem d_Ro_read_45 : decode b_Ro_read 45 = .ok (.if_icmp .gt 31, 3) := dk_S2 a_Ro_read_45 (dko_163 _) (by decide +kernel)
theorem d_Ro_read_48 : decode b_Ro_read 48 = .ok (.aload_n 0, 1) := dk_0 a_Ro_read_48 (dko_42 _)
theorem d_Ro_read_49 : decode b_Ro_read 49 = .ok (.getfield 64, 3) := dk_U2 a_Ro_read_49 (dko_180 _) rfl
theorem d_Ro_read_52 : decode b_Ro_read 52 = .ok (.ifCond .ge 24, 3) := dk_S2 a_Ro_read_52 (dko_156 _) (by decide +kernel)
theorem d_Ro_read_55 : decode b_Ro_read 55 = .ok (.aload_n 0, 1) := dk_0 a_Ro_read_55 (dko_42 _)
theorem d_Ro_read_56 : decode b_Ro_read 56 = .ok (.getfield 79, 3) := dk_U2 a_Ro_read_56 (dko_180 _) rfl
theorem d_Ro_read_59 : decode b_Ro_read 59 = .ok (.aload_n 1, 1) := dk_0 a_Ro_read_59 (dko_43 _)
theorem d_Ro_read_60 : decode b_Ro_read 60 = .ok (.getfield 82, 3) := dk_U2 a_Ro_read_60 (dko_180 _) rfl
theorem d_Ro_read_63 : decode b_Ro_read 63 = .ok (.if_icmp .ge 13, 3) := dk_S2 a_Ro_read_63 (dko_162 _) (by decide +kernel)
theorem d_Ro_read_76 : decode b_Ro_read 76 = .ok (.aload_n 0, 1) := dk_0 a_Ro_read_76 (dko_42 _)
theorem d_Ro_read_77 : decode b_Ro_read 77 = .ok (.getfield 64, 3) := dk_U2 a_Ro_read_77 (dko_180 _) rfl
theorem d_Ro_read_80 : decode b_Ro_read 80 = .ok (.ireturn, 1) := dk_0 a_Ro_read_80 (dko_172 _)
set_option maxHeartbeats 4000000 in
set_option maxRecDepth 100000 in
theorem c_Ro_read (l : Launch) (dC : Nat → ClassId) (dI : Nat → Nat → Nat) (cI cB cZ cJ : ClassId) (nn : Int32) (hnn : ¬ 0 < nn) (oR2 : Nat) (oTp : Nat) (xu : List Value) (hxu_count : fx xu 0 (.int 0)) (hxu_conditions : fx xu 1 (.int 0)) (hxu_used : fx xu 10 (.int 0)) (hxu_tape : fx xu 11 (.null)) (hxu_wordAt : fx xu 12 (.int 0)) (hxu_wordEnd : fx xu 13 (.int 0)) (hxu_word : fx xu 14 (.int 0)) (hxu_open : fx xu 15 (.int 0)) (hxu_wrong : fx xu 17 (.int 0)) (xt : List Value) (htp_end : fx xt 2 (.int nn)) (sz : Nat) : Met l y_Ro_read w_Ro_read ({ frames := 1, cells := 0, slots := 0, locals := 20 }) (va_Pc [.ref oR2, .ref oTp] (PW dC dI cI cB cZ cJ [(oR2, .inr (7, xu)), (oTp, .inr (1, xt))] sz)) (va_Qi (fun (r : Int32) (_ : Unit) => r = (-1)) (fun (_ : Unit) (t : State) => ∃ (n_xu : List Value), fx n_xu 0 (.int 0) ∧ fx n_xu 1 (.int 0) ∧ fx n_xu 11 (.ref oTp) ∧ fx n_xu 12 (.int 0) ∧ fx n_xu 13 (.int 0) ∧ fx n_xu 14 (.int 0) ∧ fx n_xu 17 (.int (-1)) ∧ fx xt 2 (.int nn) ∧ va_P (dC, dI) classes [(oR2, .inr (7, n_xu)), (oTp, .inr (1, xt))] t.heap ∧ va_D (va_A [(oR2, .inr (7, xu)), (oTp, .inr (1, xt))] sz) [(oR2, .inr (7, n_xu)), (oTp, .inr (1, xt))]) (va_A [(oR2, .inr (7, xu)), (oTp, .inr (1, xt))] sz)) 0 0 (va_A [(oR2, .inr (7, xu)), (oTp, .inr (1, xt))] sz) := by
  refine Met.ofW (cc := b_Ro_read) (maxL := 3) (ret := (some .int)) (by decide) rfl ?_
  intro p e s m args below meth c s₁ B hml hv
  obtain ⟨rfl, hsz, hP, hK, hD⟩ := hv
  have hx := B.exec
  have hb := B.bytes
  have hr := B.returns
  have hts := atoms_spec (ws := w_Ro_read) B.pre
  have hown : s.vm.findClass R_Ro = some m.cls := findClass_of_methodNamed B.named
  have hlocks := B.notSynchronized
  subst hsz
  have hD := hD.self (sz := s.heap.size)
  generalize hAe : va_A [(oR2, .inr (7, xu)), (oTp, .inr (1, xt))] s.heap.size = A at hD ⊢
  have hA : ∀ q : Nat, s.heap.size ≤ q → A q := fun q h => by rw [← hAe]; exact Or.inr h
  have hS : va_S A s.heap s.heap [] := va_S.rf
  have hP : va_P (dC, dI) classes [(oR2, .inr (7, xu)), (oTp, .inr (1, xt))] s.heap := hP
  have hl := lv_entry ([.ref oR2, .ref oTp]) (n := 3) (Nat.le_of_ble_eq_true rfl)
  rw [lg_entry_eq]
  generalize (lg_sl ([.ref oR2, .ref oTp]) ++ List.replicate (3 - (lg_sl ([.ref oR2, .ref oTp])).length) Slot.unset).toArray = ls at hl ⊢
  have hl : lv_has ls 3 [(0, .ref oR2), (1, .ref oTp)] := hl
  refine lv_aload_n hx hb d_Ro_read_0 rfl (lv_at hl 0 rfl) ?_
  refine lv_aload_n hx hb d_Ro_read_1 rfl (lv_at hl 1 rfl) ?_
  refine va_put (D := (dC, dI)) (ci := 7) (v := .ref oTp) (ty := (.object "BreweryHouse$Tape")) (C := R_Ro) (T := F_Ro) (N := 18) hx hb hts (fun w h => List.mem_cons_of_mem _ (in_Ro w h)) t_Ro t_Ro_ok n_Ro hown hK.1 hP hD hS 0 rfl rfl 11 (by decide) (hts _ (List.mem_cons_of_mem _ mw_345)) (fun _ h9 => h9) rfl (t_Ro_ok 11 (by decide)) rfl rfl (st_lt hxu_tape) d_Ro_read_2 (fun H locs hP hD hS => ?_)
  have g2_1 : fx (xu.set 11 (.ref oTp)) 1 (.int 0) := (st_ne hxu_conditions (by decide))
  have g2_0 : fx (xu.set 11 (.ref oTp)) 0 (.int 0) := (st_ne hxu_count (by decide))
  have g2_15 : fx (xu.set 11 (.ref oTp)) 15 (.int 0) := (st_ne hxu_open (by decide))
  have g2_11 : fx (xu.set 11 (.ref oTp)) 11 (.ref oTp) := (st_eq hxu_tape)
  have g2_10 : fx (xu.set 11 (.ref oTp)) 10 (.int 0) := (st_ne hxu_used (by decide))
  have g2_14 : fx (xu.set 11 (.ref oTp)) 14 (.int 0) := (st_ne hxu_word (by decide))
  have g2_12 : fx (xu.set 11 (.ref oTp)) 12 (.int 0) := (st_ne hxu_wordAt (by decide))
  have g2_13 : fx (xu.set 11 (.ref oTp)) 13 (.int 0) := (st_ne hxu_wordEnd (by decide))
  have g2_17 : fx (xu.set 11 (.ref oTp)) 17 (.int 0) := (st_ne hxu_wrong (by decide))
  have hP : va_P (dC, dI) classes [(oR2, .inr (7, (xu.set 11 (.ref oTp)))), (oTp, .inr (1, xt))] H := hP
  have hD : va_D A [(oR2, .inr (7, (xu.set 11 (.ref oTp)))), (oTp, .inr (1, xt))] := hD
  generalize (xu.set 11 (.ref oTp)) = s2_1 at hP hD g2_1 g2_0 g2_15 g2_11 g2_10 g2_14 g2_12 g2_13 g2_17
  refine lv_aload_n hx hb d_Ro_read_5 rfl (lv_at hl 0 rfl) ?_
  refine lv_iconst (v := 0) hx hb d_Ro_read_6 (by decide) ?_
  refine va_put (D := (dC, dI)) (ci := 7) (v := .int 0) (ty := .int) (C := R_Ro) (T := F_Ro) (N := 18) hx hb hts (fun w h => List.mem_cons_of_mem _ (in_Ro w h)) t_Ro t_Ro_ok n_Ro hown hK.1 hP hD hS 0 rfl rfl 0 (by decide) (hts _ (List.mem_cons_of_mem _ mw_329)) (fun _ h9 => h9) rfl (t_Ro_ok 0 (by decide)) rfl rfl (st_lt g2_0) d_Ro_read_7 (fun H locs hP hD hS => ?_)
  have g7_1 : fx (s2_1.set 0 (.int 0)) 1 (.int 0) := (st_ne g2_1 (by decide))
  have g7_0 : fx (s2_1.set 0 (.int 0)) 0 (.int 0) := (st_eq g2_0)
  have g7_15 : fx (s2_1.set 0 (.int 0)) 15 (.int 0) := (st_ne g2_15 (by decide))
  have g7_11 : fx (s2_1.set 0 (.int 0)) 11 (.ref oTp) := (st_ne g2_11 (by decide))
  have g7_10 : fx (s2_1.set 0 (.int 0)) 10 (.int 0) := (st_ne g2_10 (by decide))
  have g7_14 : fx (s2_1.set 0 (.int 0)) 14 (.int 0) := (st_ne g2_14 (by decide))
  have g7_12 : fx (s2_1.set 0 (.int 0)) 12 (.int 0) := (st_ne g2_12 (by decide))
  have g7_13 : fx (s2_1.set 0 (.int 0)) 13 (.int 0) := (st_ne g2_13 (by decide))
  have g7_17 : fx (s2_1.set 0 (.int 0)) 17 (.int 0) := (st_ne g2_17 (by decide))
  have hP : va_P (dC, dI) classes [(oR2, .inr (7, (s2_1.set 0 (.int 0)))), (oTp, .inr (1, xt))] H := hP
  have hD : va_D A [(oR2, .inr (7, (s2_1.set 0 (.int 0)))), (oTp, .inr (1, xt))] := hD
  generalize (s2_1.set 0 (.int 0)) = s7_2 at hP hD g7_1 g7_0 g7_15 g7_11 g7_10 g7_14 g7_12 g7_13 g7_17
  refine lv_aload_n hx hb d_Ro_read_10 rfl (lv_at hl 0 rfl) ?_
  refine lv_iconst (v := 0) hx hb d_Ro_read_11 (by decide) ?_
  refine va_put (D := (dC, dI)) (ci := 7) (v := .int 0) (ty := .int) (C := R_Ro) (T := F_Ro) (N := 18) hx hb hts (fun w h => List.mem_cons_of_mem _ (in_Ro w h)) t_Ro t_Ro_ok n_Ro hown hK.1 hP hD hS 0 rfl rfl 10 (by decide) (hts _ (List.mem_cons_of_mem _ mw_344)) (fun _ h9 => h9) rfl (t_Ro_ok 10 (by decide)) rfl rfl (st_lt g7_10) d_Ro_read_12 (fun H locs hP hD hS => ?_)
  have g12_1 : fx (s7_2.set 10 (.int 0)) 1 (.int 0) := (st_ne g7_1 (by decide))
  have g12_0 : fx (s7_2.set 10 (.int 0)) 0 (.int 0) := (st_ne g7_0 (by decide))
  have g12_15 : fx (s7_2.set 10 (.int 0)) 15 (.int 0) := (st_ne g7_15 (by decide))
  have g12_11 : fx (s7_2.set 10 (.int 0)) 11 (.ref oTp) := (st_ne g7_11 (by decide))
  have g12_10 : fx (s7_2.set 10 (.int 0)) 10 (.int 0) := (st_eq g7_10)
  have g12_14 : fx (s7_2.set 10 (.int 0)) 14 (.int 0) := (st_ne g7_14 (by decide))
  have g12_12 : fx (s7_2.set 10 (.int 0)) 12 (.int 0) := (st_ne g7_12 (by decide))
  have g12_13 : fx (s7_2.set 10 (.int 0)) 13 (.int 0) := (st_ne g7_13 (by decide))
  have g12_17 : fx (s7_2.set 10 (.int 0)) 17 (.int 0) := (st_ne g7_17 (by decide))
  have hP : va_P (dC, dI) classes [(oR2, .inr (7, (s7_2.set 10 (.int 0)))), (oTp, .inr (1, xt))] H := hP
  have hD : va_D A [(oR2, .inr (7, (s7_2.set 10 (.int 0)))), (oTp, .inr (1, xt))] := hD
  generalize (s7_2.set 10 (.int 0)) = s12_3 at hP hD g12_1 g12_0 g12_15 g12_11 g12_10 g12_14 g12_12 g12_13 g12_17
  refine lv_aload_n hx hb d_Ro_read_15 rfl (lv_at hl 0 rfl) ?_
  refine lv_iconst (v := (-1)) hx hb d_Ro_read_16 (by decide) ?_
  refine va_put (D := (dC, dI)) (ci := 7) (v := .int (-1)) (ty := .int) (C := R_Ro) (T := F_Ro) (N := 18) hx hb hts (fun w h => List.mem_cons_of_mem _ (in_Ro w h)) t_Ro t_Ro_ok n_Ro hown hK.1 hP hD hS 0 rfl rfl 17 (by decide) (hts _ (List.mem_cons_of_mem _ mw_351)) (fun _ h9 => h9) rfl (t_Ro_ok 17 (by decide)) rfl rfl (st_lt g12_17) d_Ro_read_17 (fun H locs hP hD hS => ?_)
  have g17_1 : fx (s12_3.set 17 (.int (-1))) 1 (.int 0) := (st_ne g12_1 (by decide))
  have g17_0 : fx (s12_3.set 17 (.int (-1))) 0 (.int 0) := (st_ne g12_0 (by decide))
  have g17_15 : fx (s12_3.set 17 (.int (-1))) 15 (.int 0) := (st_ne g12_15 (by decide))
  have g17_11 : fx (s12_3.set 17 (.int (-1))) 11 (.ref oTp) := (st_ne g12_11 (by decide))
  have g17_10 : fx (s12_3.set 17 (.int (-1))) 10 (.int 0) := (st_ne g12_10 (by decide))
  have g17_14 : fx (s12_3.set 17 (.int (-1))) 14 (.int 0) := (st_ne g12_14 (by decide))
  have g17_12 : fx (s12_3.set 17 (.int (-1))) 12 (.int 0) := (st_ne g12_12 (by decide))
  have g17_13 : fx (s12_3.set 17 (.int (-1))) 13 (.int 0) := (st_ne g12_13 (by decide))
  have g17_17 : fx (s12_3.set 17 (.int (-1))) 17 (.int (-1)) := (st_eq g12_17)
  have hP : va_P (dC, dI) classes [(oR2, .inr (7, (s12_3.set 17 (.int (-1))))), (oTp, .inr (1, xt))] H := hP
  have hD : va_D A [(oR2, .inr (7, (s12_3.set 17 (.int (-1))))), (oTp, .inr (1, xt))] := hD
  generalize (s12_3.set 17 (.int (-1))) = s17_4 at hP hD g17_1 g17_0 g17_15 g17_11 g17_10 g17_14 g17_12 g17_13 g17_17
  refine lv_aload_n hx hb d_Ro_read_20 rfl (lv_at hl 0 rfl) ?_
  refine lv_iconst (v := 0) hx hb d_Ro_read_21 (by decide) ?_
  refine va_put (D := (dC, dI)) (ci := 7) (v := .int 0) (ty := .int) (C := R_Ro) (T := F_Ro) (N := 18) hx hb hts (fun w h => List.mem_cons_of_mem _ (in_Ro w h)) t_Ro t_Ro_ok n_Ro hown hK.1 hP hD hS 0 rfl rfl 15 (by decide) (hts _ (List.mem_cons_of_mem _ mw_349)) (fun _ h9 => h9) rfl (t_Ro_ok 15 (by decide)) rfl rfl (st_lt g17_15) d_Ro_read_22 (fun H locs hP hD hS => ?_)
  have g22_1 : fx (s17_4.set 15 (.int 0)) 1 (.int 0) := (st_ne g17_1 (by decide))
  have g22_0 : fx (s17_4.set 15 (.int 0)) 0 (.int 0) := (st_ne g17_0 (by decide))
  have g22_15 : fx (s17_4.set 15 (.int 0)) 15 (.int 0) := (st_eq g17_15)
  have g22_11 : fx (s17_4.set 15 (.int 0)) 11 (.ref oTp) := (st_ne g17_11 (by decide))
  have g22_10 : fx (s17_4.set 15 (.int 0)) 10 (.int 0) := (st_ne g17_10 (by decide))
  have g22_14 : fx (s17_4.set 15 (.int 0)) 14 (.int 0) := (st_ne g17_14 (by decide))
  have g22_12 : fx (s17_4.set 15 (.int 0)) 12 (.int 0) := (st_ne g17_12 (by decide))
  have g22_13 : fx (s17_4.set 15 (.int 0)) 13 (.int 0) := (st_ne g17_13 (by decide))
  have g22_17 : fx (s17_4.set 15 (.int 0)) 17 (.int (-1)) := (st_ne g17_17 (by decide))
  have hP : va_P (dC, dI) classes [(oR2, .inr (7, (s17_4.set 15 (.int 0)))), (oTp, .inr (1, xt))] H := hP
  have hD : va_D A [(oR2, .inr (7, (s17_4.set 15 (.int 0)))), (oTp, .inr (1, xt))] := hD
  generalize (s17_4.set 15 (.int 0)) = s22_5 at hP hD g22_1 g22_0 g22_15 g22_11 g22_10 g22_14 g22_12 g22_13 g22_17
  refine lv_aload_n hx hb d_Ro_read_25 rfl (lv_at hl 0 rfl) ?_
  refine lv_iconst (v := (-1)) hx hb d_Ro_read_26 (by decide) ?_
  refine va_put (D := (dC, dI)) (ci := 7) (v := .int (-1)) (ty := .int) (C := R_Ro) (T := F_Ro) (N := 18) hx hb hts (fun w h => List.mem_cons_of_mem _ (in_Ro w h)) t_Ro t_Ro_ok n_Ro hown hK.1 hP hD hS 0 rfl rfl 14 (by decide) (hts _ (List.mem_cons_of_mem _ mw_348)) (fun _ h9 => h9) rfl (t_Ro_ok 14 (by decide)) rfl rfl (st_lt g22_14) d_Ro_read_27 (fun H locs hP hD hS => ?_)
  have g27_1 : fx (s22_5.set 14 (.int (-1))) 1 (.int 0) := (st_ne g22_1 (by decide))
  have g27_0 : fx (s22_5.set 14 (.int (-1))) 0 (.int 0) := (st_ne g22_0 (by decide))
  have g27_15 : fx (s22_5.set 14 (.int (-1))) 15 (.int 0) := (st_ne g22_15 (by decide))
  have g27_11 : fx (s22_5.set 14 (.int (-1))) 11 (.ref oTp) := (st_ne g22_11 (by decide))
  have g27_10 : fx (s22_5.set 14 (.int (-1))) 10 (.int 0) := (st_ne g22_10 (by decide))
  have g27_14 : fx (s22_5.set 14 (.int (-1))) 14 (.int (-1)) := (st_eq g22_14)
  have g27_12 : fx (s22_5.set 14 (.int (-1))) 12 (.int 0) := (st_ne g22_12 (by decide))
  have g27_13 : fx (s22_5.set 14 (.int (-1))) 13 (.int 0) := (st_ne g22_13 (by decide))
  have g27_17 : fx (s22_5.set 14 (.int (-1))) 17 (.int (-1)) := (st_ne g22_17 (by decide))
  have hP : va_P (dC, dI) classes [(oR2, .inr (7, (s22_5.set 14 (.int (-1))))), (oTp, .inr (1, xt))] H := hP
  have hD : va_D A [(oR2, .inr (7, (s22_5.set 14 (.int (-1))))), (oTp, .inr (1, xt))] := hD
  generalize (s22_5.set 14 (.int (-1))) = s27_6 at hP hD g27_1 g27_0 g27_15 g27_11 g27_10 g27_14 g27_12 g27_13 g27_17
  refine lv_aload_n hx hb d_Ro_read_30 rfl (lv_at hl 0 rfl) ?_
  refine lv_iconst (v := 0) hx hb d_Ro_read_31 (by decide) ?_
  refine va_put (D := (dC, dI)) (ci := 7) (v := .int 0) (ty := .int) (C := R_Ro) (T := F_Ro) (N := 18) hx hb hts (fun w h => List.mem_cons_of_mem _ (in_Ro w h)) t_Ro t_Ro_ok n_Ro hown hK.1 hP hD hS 0 rfl rfl 13 (by decide) (hts _ (List.mem_cons_of_mem _ mw_347)) (fun _ h9 => h9) rfl (t_Ro_ok 13 (by decide)) rfl rfl (st_lt g27_13) d_Ro_read_32 (fun H locs hP hD hS => ?_)
  have g32_1 : fx (s27_6.set 13 (.int 0)) 1 (.int 0) := (st_ne g27_1 (by decide))
  have g32_0 : fx (s27_6.set 13 (.int 0)) 0 (.int 0) := (st_ne g27_0 (by decide))
  have g32_15 : fx (s27_6.set 13 (.int 0)) 15 (.int 0) := (st_ne g27_15 (by decide))
  have g32_11 : fx (s27_6.set 13 (.int 0)) 11 (.ref oTp) := (st_ne g27_11 (by decide))
  have g32_10 : fx (s27_6.set 13 (.int 0)) 10 (.int 0) := (st_ne g27_10 (by decide))
  have g32_14 : fx (s27_6.set 13 (.int 0)) 14 (.int (-1)) := (st_ne g27_14 (by decide))
  have g32_12 : fx (s27_6.set 13 (.int 0)) 12 (.int 0) := (st_ne g27_12 (by decide))
  have g32_13 : fx (s27_6.set 13 (.int 0)) 13 (.int 0) := (st_eq g27_13)
  have g32_17 : fx (s27_6.set 13 (.int 0)) 17 (.int (-1)) := (st_ne g27_17 (by decide))
  have hP : va_P (dC, dI) classes [(oR2, .inr (7, (s27_6.set 13 (.int 0)))), (oTp, .inr (1, xt))] H := hP
  have hD : va_D A [(oR2, .inr (7, (s27_6.set 13 (.int 0)))), (oTp, .inr (1, xt))] := hD
  generalize (s27_6.set 13 (.int 0)) = s32_7 at hP hD g32_1 g32_0 g32_15 g32_11 g32_10 g32_14 g32_12 g32_13 g32_17
  refine lv_aload_n hx hb d_Ro_read_35 rfl (lv_at hl 0 rfl) ?_
  have hPc := hP.sub (ws' := [(oR2, .inr (7, s32_7)), (oTp, .inr (1, xt))]) [0, 1] rfl
  have hDc := hD.sub (ws' := [(oR2, .inr (7, s32_7)), (oTp, .inr (1, xt))]) [0, 1] (by decide) rfl
  have hFc := va_free (wc := [(oR2, .inr (7, s32_7)), (oTp, .inr (1, xt))]) hD hS hA [0, 1] rfl
  refine va_callv (va_runV (C := R_Ro) (As := []) (rest := []) ⟨hx, hb, hml, hown, hts⟩ (c_Ro_nextWord l dC dI cI cB cZ cJ nn hnn oR2 oTp s32_7 g32_0 g32_1 g32_11 g32_12 g32_13 g32_14 g32_17 xt htp_end H.size) (cwV 0 hts (tb_V mw_815 mw_817 sl_9 mw_10 mw_818) rfl rfl rfl ⟨rfl, by decide +kernel, by decide +kernel, by decide +kernel⟩ ⟨(Nat.le_of_ble_eq_true rfl), (Nat.le_of_ble_eq_true rfl)⟩) ⟨pw_blind, va_recv (q := (R_Ro, F_Ro, 18)) hK.1 hP (ci := 7) (q0 := 0) rfl rfl, pw_pre hPc hK hDc⟩ rfl rfl hl.1 rfl (lv_room (Nat.le_of_ble_eq_true rfl)) d_Ro_read_36 ⟨(Nat.le_of_ble_eq_true rfl), (Nat.le_of_ble_eq_true rfl)⟩) hS (fun q _ h => hFc q h) hFc (fun u t H locs ht hvm hw hB hz1 hk1 hS => ?_)
  obtain ⟨s36_8_oR2, k36_8_oR2_0, k36_8_oR2_1, k36_8_oR2_11, k36_8_oR2_12, k36_8_oR2_13, k36_8_oR2_14, k36_8_oR2_17, k36_8_oTp_2, hP1, hD1⟩ := hB
  rw [ht] at hP1
  obtain ⟨hP, hD⟩ := va_join (wr := []) (w1 := [(oR2, .inr (7, s36_8_oR2)), (oTp, .inr (1, xt))]) hP hD [0, 1] [] rfl rfl (by decide) (by decide) hk1 hFc hP1 hD1
  have hP : va_P (dC, dI) classes [(oR2, .inr (7, s36_8_oR2)), (oTp, .inr (1, xt))] H := hP
  have hD : va_D A [(oR2, .inr (7, s36_8_oR2)), (oTp, .inr (1, xt))] := hD
  refine lv_iconst (v := 0) hx hb d_Ro_read_39 (by decide) ?_
  refine lv_istore_n hx hb d_Ro_read_40 rfl hl (by decide) rfl (fun ls hl => ?_)
  have hl : lv_has ls 3 [(2, .int 0), (0, .ref oR2), (1, .ref oTp)] := hl
  refine lv_iload_n hx hb d_Ro_read_41 rfl (lv_at hl 0 rfl) ?_
  refine lv_sipush (v := 4000) hx hb d_Ro_read_42 (by decide) ?_
  refine lv_icmp_gt (tgt := 76) hx hb d_Ro_read_45 (by decide) (fun h => absurd h (by decide)) (fun _ => ?_)
  refine lv_aload_n hx hb d_Ro_read_48 rfl (lv_at hl 1 rfl) ?_
  refine va_get (D := (dC, dI)) (ci := 7) (v := .int (-1)) (C := R_Ro) (T := F_Ro) (N := 18) hx hb hts (fun w h => List.mem_cons_of_mem _ (in_Ro w h)) hown hK.1 hP 0 rfl rfl 17 (by decide) (hts _ (List.mem_cons_of_mem _ mw_351)) (fun _ h9 => h9) k36_8_oR2_17 d_Ro_read_49 ?_
  refine lv_if_ge (tgt := 76) hx hb d_Ro_read_52 (by decide) (fun h => absurd h (by decide)) (fun _ => ?_)
  refine lv_aload_n hx hb d_Ro_read_55 rfl (lv_at hl 1 rfl) ?_
  refine va_get (D := (dC, dI)) (ci := 7) (v := .int 0) (C := R_Ro) (T := F_Ro) (N := 18) hx hb hts (fun w h => List.mem_cons_of_mem _ (in_Ro w h)) hown hK.1 hP 0 rfl rfl 12 (by decide) (hts _ (List.mem_cons_of_mem _ mw_346)) (fun _ h9 => h9) k36_8_oR2_12 d_Ro_read_56 ?_
  refine lv_aload_n hx hb d_Ro_read_59 rfl (lv_at hl 2 rfl) ?_
  refine va_get (D := (dC, dI)) (ci := 1) (v := .int nn) (C := R_Tp) (T := F_Tp) (N := 3) hx hb hts (fun w h => List.mem_cons_of_mem _ (in_Tp w h)) hown hK.1 hP 1 rfl rfl 2 (by decide) (hts _ (List.mem_cons_of_mem _ mw_45)) (fun _ h9 => h9) htp_end d_Ro_read_60 ?_
  refine lv_icmp_ge (tgt := 76) hx hb d_Ro_read_63 (by decide) (fun _ => ?_) (fun h => absurd (nu_le hnn (by decide)) h)
  refine lv_aload_n hx hb d_Ro_read_76 rfl (lv_at hl 1 rfl) ?_
  refine va_get (D := (dC, dI)) (ci := 7) (v := .int (-1)) (C := R_Ro) (T := F_Ro) (N := 18) hx hb hts (fun w h => List.mem_cons_of_mem _ (in_Ro w h)) hown hK.1 hP 0 rfl rfl 17 (by decide) (hts _ (List.mem_cons_of_mem _ mw_351)) (fun _ h9 => h9) k36_8_oR2_17 d_Ro_read_77 ?_
  exact W.iret (v := (-1)) hx hb hr (fun t ht hW => ⟨⟨_, (), rfl, (rfl), ⟨s36_8_oR2, k36_8_oR2_0, k36_8_oR2_1, k36_8_oR2_11, k36_8_oR2_12, k36_8_oR2_13, k36_8_oR2_14, k36_8_oR2_17, htp_end, by rw [ht]; exact hP, hD⟩⟩, hS.F ht⟩) hS.2.2 d_Ro_read_80
abbrev t_Pr_clear_20 : List UInt8 := 177 :: []
abbrev t_Pr_clear_17 : List UInt8 := 181 :: 0 :: 65 :: t_Pr_clear_20
abbrev t_Pr_clear_16 : List UInt8 := 3 :: t_Pr_clear_17
abbrev t_Pr_clear_15 : List UInt8 := 42 :: t_Pr_clear_16
abbrev t_Pr_clear_12 : List UInt8 := 181 :: 0 :: 9 :: t_Pr_clear_15
abbrev t_Pr_clear_11 : List UInt8 := 2 :: t_Pr_clear_12
abbrev t_Pr_clear_10 : List UInt8 := 42 :: t_Pr_clear_11
abbrev t_Pr_clear_7 : List UInt8 := 181 :: 0 :: 62 :: t_Pr_clear_10
abbrev t_Pr_clear_6 : List UInt8 := 3 :: t_Pr_clear_7
abbrev t_Pr_clear_5 : List UInt8 := 42 :: t_Pr_clear_6
abbrev t_Pr_clear_2 : List UInt8 := 181 :: 0 :: 59 :: t_Pr_clear_5
abbrev t_Pr_clear_1 : List UInt8 := 3 :: t_Pr_clear_2
abbrev t_Pr_clear_0 : List UInt8 := 42 :: t_Pr_clear_1
theorem a_Pr_clear_0 : dk_at b_Pr_clear 0 t_Pr_clear_0 := dk_start (by decide +kernel)
theorem a_Pr_clear_1 : dk_at b_Pr_clear 1 t_Pr_clear_1 := dk_go 1 a_Pr_clear_0 rfl
theorem a_Pr_clear_2 : dk_at b_Pr_clear 2 t_Pr_clear_2 := dk_go 1 a_Pr_clear_1 rfl
theorem a_Pr_clear_5 : dk_at b_Pr_clear 5 t_Pr_clear_5 := dk_go 3 a_Pr_clear_2 rfl
theorem a_Pr_clear_6 : dk_at b_Pr_clear 6 t_Pr_clear_6 := dk_go 1 a_Pr_clear_5 rfl
theorem a_Pr_clear_7 : dk_at b_Pr_clear 7 t_Pr_clear_7 := dk_go 1 a_Pr_clear_6 rfl
theorem a_Pr_clear_10 : dk_at b_Pr_clear 10 t_Pr_clear_10 := dk_go 3 a_Pr_clear_7 rfl
theorem a_Pr_clear_11 : dk_at b_Pr_clear 11 t_Pr_clear_11 := dk_go 1 a_Pr_clear_10 rfl
theorem a_Pr_clear_12 : dk_at b_Pr_clear 12 t_Pr_clear_12 := dk_go 1 a_Pr_clear_11 rfl
theorem a_Pr_clear_15 : dk_at b_Pr_clear 15 t_Pr_clear_15 := dk_go 3 a_Pr_clear_12 rfl
theorem a_Pr_clear_16 : dk_at b_Pr_clear 16 t_Pr_clear_16 := dk_go 1 a_Pr_clear_15 rfl
theorem a_Pr_clear_17 : dk_at b_Pr_clear 17 t_Pr_clear_17 := dk_go 1 a_Pr_clear_16 rfl
theorem a_Pr_clear_20 : dk_at b_Pr_clear 20 t_Pr_clear_20 := dk_go 3 a_Pr_clear_17 rfl
theorem d_Pr_clear_0 : decode b_Pr_clear 0 = .ok (.aload_n 0, 1) := dk_0 a_Pr_clear_0 (dko_42 _)
theorem d_Pr_clear_1 : decode b_Pr_clear 1 = .ok (.iconst 0, 1) := dk_0 a_Pr_clear_1 (dko_3 _)
theorem d_Pr_clear_2 : decode b_Pr_clear 2 = .ok (.putfield 59, 3) := dk_U2 a_Pr_clear_2 (dko_181 _) rfl
theorem d_Pr_clear_5 : decode b_Pr_clear 5 = .ok (.aload_n 0, 1) := dk_0 a_Pr_clear_5 (dko_42 _)
theorem d_Pr_clear_6 : decode b_Pr_clear 6 = .ok (.iconst 0, 1) := dk_0 a_Pr_clear_6 (dko_3 _)
theorem d_Pr_clear_7 : decode b_Pr_clear 7 = .ok (.putfield 62, 3) := dk_U2 a_Pr_clear_7 (dko_181 _) rfl
theorem d_Pr_clear_10 : decode b_Pr_clear 10 = .ok (.aload_n 0, 1) := dk_0 a_Pr_clear_10 (dko_42 _)
theorem d_Pr_clear_11 : decode b_Pr_clear 11 = .ok (.iconst (-1), 1) := dk_0 a_Pr_clear_11 (dko_2 _)
theorem d_Pr_clear_12 : decode b_Pr_clear 12 = .ok (.putfield 9, 3) := dk_U2 a_Pr_clear_12 (dko_181 _) rfl
theorem d_Pr_clear_15 : decode b_Pr_clear 15 = .ok (.aload_n 0, 1) := dk_0 a_Pr_clear_15 (dko_42 _)
theorem d_Pr_clear_16 : decode b_Pr_clear 16 = .ok (.iconst 0, 1) := dk_0 a_Pr_clear_16 (dko_3 _)
theorem d_Pr_clear_17 : decode b_Pr_clear 17 = .ok (.putfield 65, 3) := dk_U2 a_Pr_clear_17 (dko_181 _) rfl
theorem d_Pr_clear_20 : decode b_Pr_clear 20 = .ok (.return_, 1) := dk_0 a_Pr_clear_20 (dko_177 _)
set_option maxHeartbeats 4000000 in
set_option maxRecDepth 100000 in
theorem c_Pr_clear (l : Launch) (dC : Nat → ClassId) (dI : Nat → Nat → Nat) (cI cB cZ cJ : ClassId) (oG2 : Nat) (xh : List Value) (hxh_statements : fx xh 0 (.int 0)) (hxh_nodes : fx xh 1 (.int 0)) (hxh_opening : fx xh 2 (.int (-1))) (hxh_names : fx xh 10 (.int 0)) (sz : Nat) : Met l y_Pr_clear w_Pr_clear ({ frames := 0, cells := 0, slots := 0, locals := 0 }) (va_Pc [.ref oG2] (PW dC dI cI cB cZ cJ [(oG2, .inr (8, xh))] sz)) (va_Qv (fun _ : Unit => True) (fun (_ : Unit) (t : State) => fx xh 0 (.int 0) ∧ fx xh 1 (.int 0) ∧ fx xh 2 (.int (-1)) ∧ fx xh 10 (.int 0) ∧ va_P (dC, dI) classes [(oG2, .inr (8, xh))] t.heap ∧ va_D (va_A [(oG2, .inr (8, xh))] sz) [(oG2, .inr (8, xh))]) (va_A [(oG2, .inr (8, xh))] sz)) 0 0 (va_A [(oG2, .inr (8, xh))] sz) := by
  refine Met.ofW (cc := b_Pr_clear) (maxL := 1) (ret := none) (by decide) rfl ?_
  intro p e s m args below meth c s₁ B hml hv
  obtain ⟨rfl, hsz, hP, hK, hD⟩ := hv
  have hx := B.exec
  have hb := B.bytes
  have hr := B.returns
  have hts := atoms_spec (ws := w_Pr_clear) B.pre
  have hown : s.vm.findClass R_Pr = some m.cls := findClass_of_methodNamed B.named
  have hlocks := B.notSynchronized
  subst hsz
  have hD := hD.self (sz := s.heap.size)
  generalize hAe : va_A [(oG2, .inr (8, xh))] s.heap.size = A at hD ⊢
  have hA : ∀ q : Nat, s.heap.size ≤ q → A q := fun q h => by rw [← hAe]; exact Or.inr h
  have hS : va_S A s.heap s.heap [] := va_S.rf
  have hP : va_P (dC, dI) classes [(oG2, .inr (8, xh))] s.heap := hP
  have hl := lv_entry ([.ref oG2]) (n := 1) (Nat.le_of_ble_eq_true rfl)
  rw [lg_entry_eq]
  generalize (lg_sl ([.ref oG2]) ++ List.replicate (1 - (lg_sl ([.ref oG2])).length) Slot.unset).toArray = ls at hl ⊢
  have hl : lv_has ls 1 [(0, .ref oG2)] := hl
  refine lv_aload_n hx hb d_Pr_clear_0 rfl (lv_at hl 0 rfl) ?_
  refine lv_iconst (v := 0) hx hb d_Pr_clear_1 (by decide) ?_
  refine va_put (D := (dC, dI)) (ci := 8) (v := .int 0) (ty := .int) (C := R_Pr) (T := F_Pr) (N := 18) hx hb hts (fun w h => List.mem_cons_of_mem _ (in_Pr w h)) t_Pr t_Pr_ok n_Pr hown hK.1 hP hD hS 0 rfl rfl 0 (by decide) (hts _ (List.mem_cons_of_mem _ mw_428)) (fun _ h9 => h9) rfl (t_Pr_ok 0 (by decide)) rfl rfl (st_lt hxh_statements) d_Pr_clear_2 (fun H locs hP hD hS => ?_)
  have hP : va_P (dC, dI) classes [(oG2, .inr (8, (xh.set 0 (.int 0))))] H := hP
  have hD : va_D A [(oG2, .inr (8, (xh.set 0 (.int 0))))] := hD
  rw [st_same hxh_statements] at hP hD
  refine lv_aload_n hx hb d_Pr_clear_5 rfl (lv_at hl 0 rfl) ?_
  refine lv_iconst (v := 0) hx hb d_Pr_clear_6 (by decide) ?_
  refine va_put (D := (dC, dI)) (ci := 8) (v := .int 0) (ty := .int) (C := R_Pr) (T := F_Pr) (N := 18) hx hb hts (fun w h => List.mem_cons_of_mem _ (in_Pr w h)) t_Pr t_Pr_ok n_Pr hown hK.1 hP hD hS 0 rfl rfl 1 (by decide) (hts _ (List.mem_cons_of_mem _ mw_431)) (fun _ h9 => h9) rfl (t_Pr_ok 1 (by decide)) rfl rfl (st_lt hxh_nodes) d_Pr_clear_7 (fun H locs hP hD hS => ?_)
  have hP : va_P (dC, dI) classes [(oG2, .inr (8, (xh.set 1 (.int 0))))] H := hP
  have hD : va_D A [(oG2, .inr (8, (xh.set 1 (.int 0))))] := hD
  rw [st_same hxh_nodes] at hP hD
  refine lv_aload_n hx hb d_Pr_clear_10 rfl (lv_at hl 0 rfl) ?_
  refine lv_iconst (v := (-1)) hx hb d_Pr_clear_11 (by decide) ?_
  refine va_put (D := (dC, dI)) (ci := 8) (v := .int (-1)) (ty := .int) (C := R_Pr) (T := F_Pr) (N := 18) hx hb hts (fun w h => List.mem_cons_of_mem _ (in_Pr w h)) t_Pr t_Pr_ok n_Pr hown hK.1 hP hD hS 0 rfl rfl 2 (by decide) (hts _ (List.mem_cons_of_mem _ mw_433)) (fun _ h9 => h9) rfl (t_Pr_ok 2 (by decide)) rfl rfl (st_lt hxh_opening) d_Pr_clear_12 (fun H locs hP hD hS => ?_)
  have hP : va_P (dC, dI) classes [(oG2, .inr (8, (xh.set 2 (.int (-1)))))] H := hP
  have hD : va_D A [(oG2, .inr (8, (xh.set 2 (.int (-1)))))] := hD
  rw [st_same hxh_opening] at hP hD
  refine lv_aload_n hx hb d_Pr_clear_15 rfl (lv_at hl 0 rfl) ?_
  refine lv_iconst (v := 0) hx hb d_Pr_clear_16 (by decide) ?_
  refine va_put (D := (dC, dI)) (ci := 8) (v := .int 0) (ty := .int) (C := R_Pr) (T := F_Pr) (N := 18) hx hb hts (fun w h => List.mem_cons_of_mem _ (in_Pr w h)) t_Pr t_Pr_ok n_Pr hown hK.1 hP hD hS 0 rfl rfl 10 (by decide) (hts _ (List.mem_cons_of_mem _ mw_457)) (fun _ h9 => h9) rfl (t_Pr_ok 10 (by decide)) rfl rfl (st_lt hxh_names) d_Pr_clear_17 (fun H locs hP hD hS => ?_)
  have hP : va_P (dC, dI) classes [(oG2, .inr (8, (xh.set 10 (.int 0))))] H := hP
  have hD : va_D A [(oG2, .inr (8, (xh.set 10 (.int 0))))] := hD
  rw [st_same hxh_names] at hP hD
  exact W.vret hx hb hr (fun t ht hW => ⟨⟨(), rfl, trivial, ⟨hxh_statements, hxh_nodes, hxh_opening, hxh_names, by rw [ht]; exact hP, hD⟩⟩, hS.F ht⟩) hS.2.2 d_Pr_clear_20
abbrev t_Rd_nextWord_184 : List UInt8 := 177 :: []
abbrev t_Rd_nextWord_181 : List UInt8 := 182 :: 0 :: 140 :: t_Rd_nextWord_184
abbrev t_Rd_nextWord_178 : List UInt8 := 180 :: 0 :: 53 :: t_Rd_nextWord_181
abbrev t_Rd_nextWord_177 : List UInt8 := 42 :: t_Rd_nextWord_178
abbrev t_Rd_nextWord_176 : List UInt8 := 42 :: t_Rd_nextWord_177
abbrev t_Rd_nextWord_173 : List UInt8 := 160 :: 0 :: 11 :: t_Rd_nextWord_176
abbrev t_Rd_nextWord_171 : List UInt8 := 16 :: 46 :: t_Rd_nextWord_173
abbrev t_Rd_nextWord_170 : List UInt8 := 27 :: t_Rd_nextWord_171
abbrev t_Rd_nextWord_167 : List UInt8 := 154 :: 0 :: 9 :: t_Rd_nextWord_170
abbrev t_Rd_nextWord_164 : List UInt8 := 184 :: 0 :: 131 :: t_Rd_nextWord_167
abbrev t_Rd_nextWord_163 : List UInt8 := 27 :: t_Rd_nextWord_164
abbrev t_Rd_nextWord_160 : List UInt8 := 154 :: 0 :: 16 :: t_Rd_nextWord_163
abbrev t_Rd_nextWord_157 : List UInt8 := 184 :: 0 :: 125 :: t_Rd_nextWord_160
abbrev t_Rd_nextWord_156 : List UInt8 := 27 :: t_Rd_nextWord_157
abbrev t_Rd_nextWord_155 : List UInt8 := 60 :: t_Rd_nextWord_156
abbrev t_Rd_nextWord_152 : List UInt8 := 182 :: 0 :: 119 :: t_Rd_nextWord_155
abbrev t_Rd_nextWord_149 : List UInt8 := 180 :: 0 :: 53 :: t_Rd_nextWord_152
abbrev t_Rd_nextWord_148 : List UInt8 := 42 :: t_Rd_nextWord_149
abbrev t_Rd_nextWord_145 : List UInt8 := 180 :: 0 :: 40 :: t_Rd_nextWord_148
abbrev t_Rd_nextWord_144 : List UInt8 := 42 :: t_Rd_nextWord_145
abbrev t_Rd_nextWord_143 : List UInt8 := 177 :: t_Rd_nextWord_144
abbrev t_Rd_nextWord_140 : List UInt8 := 182 :: 0 :: 140 :: t_Rd_nextWord_143
abbrev t_Rd_nextWord_137 : List UInt8 := 180 :: 0 :: 111 :: t_Rd_nextWord_140
abbrev t_Rd_nextWord_136 : List UInt8 := 42 :: t_Rd_nextWord_137
abbrev t_Rd_nextWord_135 : List UInt8 := 42 :: t_Rd_nextWord_136
abbrev t_Rd_nextWord_132 : List UInt8 := 154 :: 0 :: 11 :: t_Rd_nextWord_135
abbrev t_Rd_nextWord_129 : List UInt8 := 184 :: 0 :: 137 :: t_Rd_nextWord_132
abbrev t_Rd_nextWord_128 : List UInt8 := 27 :: t_Rd_nextWord_129
abbrev t_Rd_nextWord_125 : List UInt8 := 181 :: 0 :: 53 :: t_Rd_nextWord_128
abbrev t_Rd_nextWord_124 : List UInt8 := 96 :: t_Rd_nextWord_125
abbrev t_Rd_nextWord_123 : List UInt8 := 4 :: t_Rd_nextWord_124
abbrev t_Rd_nextWord_120 : List UInt8 := 180 :: 0 :: 53 :: t_Rd_nextWord_123
abbrev t_Rd_nextWord_119 : List UInt8 := 89 :: t_Rd_nextWord_120
abbrev t_Rd_nextWord_118 : List UInt8 := 42 :: t_Rd_nextWord_119
abbrev t_Rd_nextWord_115 : List UInt8 := 181 :: 0 :: 66 :: t_Rd_nextWord_118
abbrev t_Rd_nextWord_114 : List UInt8 := 27 :: t_Rd_nextWord_115
abbrev t_Rd_nextWord_113 : List UInt8 := 42 :: t_Rd_nextWord_114
abbrev t_Rd_nextWord_110 : List UInt8 := 167 :: 0 :: 34 :: t_Rd_nextWord_113
abbrev t_Rd_nextWord_107 : List UInt8 := 182 :: 0 :: 134 :: t_Rd_nextWord_110
abbrev t_Rd_nextWord_106 : List UInt8 := 42 :: t_Rd_nextWord_107
abbrev t_Rd_nextWord_103 : List UInt8 := 153 :: 0 :: 10 :: t_Rd_nextWord_106
abbrev t_Rd_nextWord_100 : List UInt8 := 184 :: 0 :: 131 :: t_Rd_nextWord_103
abbrev t_Rd_nextWord_99 : List UInt8 := 27 :: t_Rd_nextWord_100
abbrev t_Rd_nextWord_96 : List UInt8 := 167 :: 0 :: 48 :: t_Rd_nextWord_99
abbrev t_Rd_nextWord_93 : List UInt8 := 182 :: 0 :: 128 :: t_Rd_nextWord_96
abbrev t_Rd_nextWord_92 : List UInt8 := 42 :: t_Rd_nextWord_93
abbrev t_Rd_nextWord_89 : List UInt8 := 153 :: 0 :: 10 :: t_Rd_nextWord_92
abbrev t_Rd_nextWord_86 : List UInt8 := 184 :: 0 :: 125 :: t_Rd_nextWord_89
abbrev t_Rd_nextWord_85 : List UInt8 := 27 :: t_Rd_nextWord_86
abbrev t_Rd_nextWord_84 : List UInt8 := 177 :: t_Rd_nextWord_85
abbrev t_Rd_nextWord_81 : List UInt8 := 181 :: 0 :: 66 :: t_Rd_nextWord_84
abbrev t_Rd_nextWord_79 : List UInt8 := 16 :: 32 :: t_Rd_nextWord_81
abbrev t_Rd_nextWord_78 : List UInt8 := 42 :: t_Rd_nextWord_79
abbrev t_Rd_nextWord_75 : List UInt8 := 161 :: 0 :: 10 :: t_Rd_nextWord_78
abbrev t_Rd_nextWord_72 : List UInt8 := 180 :: 0 :: 114 :: t_Rd_nextWord_75
abbrev t_Rd_nextWord_69 : List UInt8 := 180 :: 0 :: 40 :: t_Rd_nextWord_72
abbrev t_Rd_nextWord_68 : List UInt8 := 42 :: t_Rd_nextWord_69
abbrev t_Rd_nextWord_65 : List UInt8 := 180 :: 0 :: 53 :: t_Rd_nextWord_68
abbrev t_Rd_nextWord_64 : List UInt8 := 42 :: t_Rd_nextWord_65
abbrev t_Rd_nextWord_63 : List UInt8 := 60 :: t_Rd_nextWord_64
abbrev t_Rd_nextWord_60 : List UInt8 := 182 :: 0 :: 119 :: t_Rd_nextWord_63
abbrev t_Rd_nextWord_57 : List UInt8 := 180 :: 0 :: 53 :: t_Rd_nextWord_60
abbrev t_Rd_nextWord_56 : List UInt8 := 42 :: t_Rd_nextWord_57
abbrev t_Rd_nextWord_53 : List UInt8 := 180 :: 0 :: 40 :: t_Rd_nextWord_56
abbrev t_Rd_nextWord_52 : List UInt8 := 42 :: t_Rd_nextWord_53
abbrev t_Rd_nextWord_49 : List UInt8 := 181 :: 0 :: 111 :: t_Rd_nextWord_52
abbrev t_Rd_nextWord_46 : List UInt8 := 180 :: 0 :: 53 :: t_Rd_nextWord_49
abbrev t_Rd_nextWord_45 : List UInt8 := 42 :: t_Rd_nextWord_46
abbrev t_Rd_nextWord_44 : List UInt8 := 42 :: t_Rd_nextWord_45
abbrev t_Rd_nextWord_41 : List UInt8 := 167 :: 255 :: 215 :: t_Rd_nextWord_44
abbrev t_Rd_nextWord_38 : List UInt8 := 181 :: 0 :: 53 :: t_Rd_nextWord_41
abbrev t_Rd_nextWord_37 : List UInt8 := 96 :: t_Rd_nextWord_38
abbrev t_Rd_nextWord_36 : List UInt8 := 4 :: t_Rd_nextWord_37
abbrev t_Rd_nextWord_33 : List UInt8 := 180 :: 0 :: 53 :: t_Rd_nextWord_36
abbrev t_Rd_nextWord_32 : List UInt8 := 89 :: t_Rd_nextWord_33
abbrev t_Rd_nextWord_31 : List UInt8 := 42 :: t_Rd_nextWord_32
abbrev t_Rd_nextWord_28 : List UInt8 := 153 :: 0 :: 16 :: t_Rd_nextWord_31
abbrev t_Rd_nextWord_25 : List UInt8 := 184 :: 0 :: 121 :: t_Rd_nextWord_28
abbrev t_Rd_nextWord_22 : List UInt8 := 182 :: 0 :: 119 :: t_Rd_nextWord_25
abbrev t_Rd_nextWord_19 : List UInt8 := 180 :: 0 :: 53 :: t_Rd_nextWord_22
abbrev t_Rd_nextWord_18 : List UInt8 := 42 :: t_Rd_nextWord_19
abbrev t_Rd_nextWord_15 : List UInt8 := 180 :: 0 :: 40 :: t_Rd_nextWord_18
abbrev t_Rd_nextWord_14 : List UInt8 := 42 :: t_Rd_nextWord_15
abbrev t_Rd_nextWord_11 : List UInt8 := 162 :: 0 :: 33 :: t_Rd_nextWord_14
abbrev t_Rd_nextWord_8 : List UInt8 := 180 :: 0 :: 114 :: t_Rd_nextWord_11
abbrev t_Rd_nextWord_5 : List UInt8 := 180 :: 0 :: 40 :: t_Rd_nextWord_8
abbrev t_Rd_nextWord_4 : List UInt8 := 42 :: t_Rd_nextWord_5
abbrev t_Rd_nextWord_1 : List UInt8 := 180 :: 0 :: 53 :: t_Rd_nextWord_4
abbrev t_Rd_nextWord_0 : List UInt8 := 42 :: t_Rd_nextWord_1
theorem a_Rd_nextWord_0 : dk_at b_Rd_nextWord 0 t_Rd_nextWord_0 := dk_start (by decide +kernel)
theorem a_Rd_nextWord_1 : dk_at b_Rd_nextWord 1 t_Rd_nextWord_1 := dk_go 1 a_Rd_nextWord_0 rfl
theorem a_Rd_nextWord_4 : dk_at b_Rd_nextWord 4 t_Rd_nextWord_4 := dk_go 3 a_Rd_nextWord_1 rfl
theorem a_Rd_nextWord_5 : dk_at b_Rd_nextWord 5 t_Rd_nextWord_5 := dk_go 1 a_Rd_nextWord_4 rfl
theorem a_Rd_nextWord_8 : dk_at b_Rd_nextWord 8 t_Rd_nextWord_8 := dk_go 3 a_Rd_nextWord_5 rfl
theorem a_Rd_nextWord_11 : dk_at b_Rd_nextWord 11 t_Rd_nextWord_11 := dk_go 3 a_Rd_nextWord_8 rfl
theorem a_Rd_nextWord_14 : dk_at b_Rd_nextWord 14 t_Rd_nextWord_14 := dk_go 3 a_Rd_nextWord_11 rfl
theorem a_Rd_nextWord_15 : dk_at b_Rd_nextWord 15 t_Rd_nextWord_15 := dk_go 1 a_Rd_nextWord_14 rfl
theorem a_Rd_nextWord_18 : dk_at b_Rd_nextWord 18 t_Rd_nextWord_18 := dk_go 3 a_Rd_nextWord_15 rfl
theorem a_Rd_nextWord_19 : dk_at b_Rd_nextWord 19 t_Rd_nextWord_19 := dk_go 1 a_Rd_nextWord_18 rfl
theorem a_Rd_nextWord_22 : dk_at b_Rd_nextWord 22 t_Rd_nextWord_22 := dk_go 3 a_Rd_nextWord_19 rfl
theorem a_Rd_nextWord_25 : dk_at b_Rd_nextWord 25 t_Rd_nextWord_25 := dk_go 3 a_Rd_nextWord_22 rfl
theorem a_Rd_nextWord_28 : dk_at b_Rd_nextWord 28 t_Rd_nextWord_28 := dk_go 3 a_Rd_nextWord_25 rfl
theorem a_Rd_nextWord_31 : dk_at b_Rd_nextWord 31 t_Rd_nextWord_31 := dk_go 3 a_Rd_nextWord_28 rfl
theorem a_Rd_nextWord_32 : dk_at b_Rd_nextWord 32 t_Rd_nextWord_32 := dk_go 1 a_Rd_nextWord_31 rfl
theorem a_Rd_nextWord_33 : dk_at b_Rd_nextWord 33 t_Rd_nextWord_33 := dk_go 1 a_Rd_nextWord_32 rfl
theorem a_Rd_nextWord_36 : dk_at b_Rd_nextWord 36 t_Rd_nextWord_36 := dk_go 3 a_Rd_nextWord_33 rfl
theorem a_Rd_nextWord_37 : dk_at b_Rd_nextWord 37 t_Rd_nextWord_37 := dk_go 1 a_Rd_nextWord_36 rfl
theorem a_Rd_nextWord_38 : dk_at b_Rd_nextWord 38 t_Rd_nextWord_38 := dk_go 1 a_Rd_nextWord_37 rfl
theorem a_Rd_nextWord_41 : dk_at b_Rd_nextWord 41 t_Rd_nextWord_41 := dk_go 3 a_Rd_nextWord_38 rfl
theorem a_Rd_nextWord_44 : dk_at b_Rd_nextWord 44 t_Rd_nextWord_44 := dk_go 3 a_Rd_nextWord_41 rfl
theorem a_Rd_nextWord_45 : dk_at b_Rd_nextWord 45 t_Rd_nextWord_45 := dk_go 1 a_Rd_nextWord_44 rfl
theorem a_Rd_nextWord_46 : dk_at b_Rd_nextWord 46 t_Rd_nextWord_46 := dk_go 1 a_Rd_nextWord_45 rfl
theorem a_Rd_nextWord_49 : dk_at b_Rd_nextWord 49 t_Rd_nextWord_49 := dk_go 3 a_Rd_nextWord_46 rfl
theorem a_Rd_nextWord_52 : dk_at b_Rd_nextWord 52 t_Rd_nextWord_52 := dk_go 3 a_Rd_nextWord_49 rfl
theorem a_Rd_nextWord_53 : dk_at b_Rd_nextWord 53 t_Rd_nextWord_53 := dk_go 1 a_Rd_nextWord_52 rfl
theorem a_Rd_nextWord_56 : dk_at b_Rd_nextWord 56 t_Rd_nextWord_56 := dk_go 3 a_Rd_nextWord_53 rfl
theorem a_Rd_nextWord_57 : dk_at b_Rd_nextWord 57 t_Rd_nextWord_57 := dk_go 1 a_Rd_nextWord_56 rfl
theorem a_Rd_nextWord_60 : dk_at b_Rd_nextWord 60 t_Rd_nextWord_60 := dk_go 3 a_Rd_nextWord_57 rfl
theorem a_Rd_nextWord_63 : dk_at b_Rd_nextWord 63 t_Rd_nextWord_63 := dk_go 3 a_Rd_nextWord_60 rfl
theorem a_Rd_nextWord_64 : dk_at b_Rd_nextWord 64 t_Rd_nextWord_64 := dk_go 1 a_Rd_nextWord_63 rfl
theorem a_Rd_nextWord_65 : dk_at b_Rd_nextWord 65 t_Rd_nextWord_65 := dk_go 1 a_Rd_nextWord_64 rfl
theorem a_Rd_nextWord_68 : dk_at b_Rd_nextWord 68 t_Rd_nextWord_68 := dk_go 3 a_Rd_nextWord_65 rfl
theorem a_Rd_nextWord_69 : dk_at b_Rd_nextWord 69 t_Rd_nextWord_69 := dk_go 1 a_Rd_nextWord_68 rfl
theorem a_Rd_nextWord_72 : dk_at b_Rd_nextWord 72 t_Rd_nextWord_72 := dk_go 3 a_Rd_nextWord_69 rfl
theorem a_Rd_nextWord_75 : dk_at b_Rd_nextWord 75 t_Rd_nextWord_75 := dk_go 3 a_Rd_nextWord_72 rfl
theorem a_Rd_nextWord_78 : dk_at b_Rd_nextWord 78 t_Rd_nextWord_78 := dk_go 3 a_Rd_nextWord_75 rfl
theorem a_Rd_nextWord_79 : dk_at b_Rd_nextWord 79 t_Rd_nextWord_79 := dk_go 1 a_Rd_nextWord_78 rfl
theorem a_Rd_nextWord_81 : dk_at b_Rd_nextWord 81 t_Rd_nextWord_81 := dk_go 2 a_Rd_nextWord_79 rfl
theorem a_Rd_nextWord_84 : dk_at b_Rd_nextWord 84 t_Rd_nextWord_84 := dk_go 3 a_Rd_nextWord_81 rfl
theorem a_Rd_nextWord_85 : dk_at b_Rd_nextWord 85 t_Rd_nextWord_85 := dk_go 1 a_Rd_nextWord_84 rfl
theorem a_Rd_nextWord_86 : dk_at b_Rd_nextWord 86 t_Rd_nextWord_86 := dk_go 1 a_Rd_nextWord_85 rfl
theorem a_Rd_nextWord_89 : dk_at b_Rd_nextWord 89 t_Rd_nextWord_89 := dk_go 3 a_Rd_nextWord_86 rfl
theorem a_Rd_nextWord_92 : dk_at b_Rd_nextWord 92 t_Rd_nextWord_92 := dk_go 3 a_Rd_nextWord_89 rfl
theorem a_Rd_nextWord_93 : dk_at b_Rd_nextWord 93 t_Rd_nextWord_93 := dk_go 1 a_Rd_nextWord_92 rfl
theorem a_Rd_nextWord_96 : dk_at b_Rd_nextWord 96 t_Rd_nextWord_96 := dk_go 3 a_Rd_nextWord_93 rfl
theorem a_Rd_nextWord_99 : dk_at b_Rd_nextWord 99 t_Rd_nextWord_99 := dk_go 3 a_Rd_nextWord_96 rfl
theorem a_Rd_nextWord_100 : dk_at b_Rd_nextWord 100 t_Rd_nextWord_100 := dk_go 1 a_Rd_nextWord_99 rfl
theorem a_Rd_nextWord_103 : dk_at b_Rd_nextWord 103 t_Rd_nextWord_103 := dk_go 3 a_Rd_nextWord_100 rfl
theorem a_Rd_nextWord_106 : dk_at b_Rd_nextWord 106 t_Rd_nextWord_106 := dk_go 3 a_Rd_nextWord_103 rfl
theorem a_Rd_nextWord_107 : dk_at b_Rd_nextWord 107 t_Rd_nextWord_107 := dk_go 1 a_Rd_nextWord_106 rfl
theorem a_Rd_nextWord_110 : dk_at b_Rd_nextWord 110 t_Rd_nextWord_110 := dk_go 3 a_Rd_nextWord_107 rfl
theorem a_Rd_nextWord_113 : dk_at b_Rd_nextWord 113 t_Rd_nextWord_113 := dk_go 3 a_Rd_nextWord_110 rfl
theorem a_Rd_nextWord_114 : dk_at b_Rd_nextWord 114 t_Rd_nextWord_114 := dk_go 1 a_Rd_nextWord_113 rfl
theorem a_Rd_nextWord_115 : dk_at b_Rd_nextWord 115 t_Rd_nextWord_115 := dk_go 1 a_Rd_nextWord_114 rfl
theorem a_Rd_nextWord_118 : dk_at b_Rd_nextWord 118 t_Rd_nextWord_118 := dk_go 3 a_Rd_nextWord_115 rfl
theorem a_Rd_nextWord_119 : dk_at b_Rd_nextWord 119 t_Rd_nextWord_119 := dk_go 1 a_Rd_nextWord_118 rfl
theorem a_Rd_nextWord_120 : dk_at b_Rd_nextWord 120 t_Rd_nextWord_120 := dk_go 1 a_Rd_nextWord_119 rfl
theorem a_Rd_nextWord_123 : dk_at b_Rd_nextWord 123 t_Rd_nextWord_123 := dk_go 3 a_Rd_nextWord_120 rfl
theorem a_Rd_nextWord_124 : dk_at b_Rd_nextWord 124 t_Rd_nextWord_124 := dk_go 1 a_Rd_nextWord_123 rfl
theorem a_Rd_nextWord_125 : dk_at b_Rd_nextWord 125 t_Rd_nextWord_125 := dk_go 1 a_Rd_nextWord_124 rfl
theorem a_Rd_nextWord_128 : dk_at b_Rd_nextWord 128 t_Rd_nextWord_128 := dk_go 3 a_Rd_nextWord_125 rfl
theorem a_Rd_nextWord_129 : dk_at b_Rd_nextWord 129 t_Rd_nextWord_129 := dk_go 1 a_Rd_nextWord_128 rfl
theorem a_Rd_nextWord_132 : dk_at b_Rd_nextWord 132 t_Rd_nextWord_132 := dk_go 3 a_Rd_nextWord_129 rfl
theorem a_Rd_nextWord_135 : dk_at b_Rd_nextWord 135 t_Rd_nextWord_135 := dk_go 3 a_Rd_nextWord_132 rfl
theorem a_Rd_nextWord_136 : dk_at b_Rd_nextWord 136 t_Rd_nextWord_136 := dk_go 1 a_Rd_nextWord_135 rfl
theorem a_Rd_nextWord_137 : dk_at b_Rd_nextWord 137 t_Rd_nextWord_137 := dk_go 1 a_Rd_nextWord_136 rfl
theorem a_Rd_nextWord_140 : dk_at b_Rd_nextWord 140 t_Rd_nextWord_140 := dk_go 3 a_Rd_nextWord_137 rfl
theorem a_Rd_nextWord_143 : dk_at b_Rd_nextWord 143 t_Rd_nextWord_143 := dk_go 3 a_Rd_nextWord_140 rfl
theorem a_Rd_nextWord_144 : dk_at b_Rd_nextWord 144 t_Rd_nextWord_144 := dk_go 1 a_Rd_nextWord_143 rfl
theorem a_Rd_nextWord_145 : dk_at b_Rd_nextWord 145 t_Rd_nextWord_145 := dk_go 1 a_Rd_nextWord_144 rfl
theorem a_Rd_nextWord_148 : dk_at b_Rd_nextWord 148 t_Rd_nextWord_148 := dk_go 3 a_Rd_nextWord_145 rfl
theorem a_Rd_nextWord_149 : dk_at b_Rd_nextWord 149 t_Rd_nextWord_149 := dk_go 1 a_Rd_nextWord_148 rfl
theorem a_Rd_nextWord_152 : dk_at b_Rd_nextWord 152 t_Rd_nextWord_152 := dk_go 3 a_Rd_nextWord_149 rfl
theorem a_Rd_nextWord_155 : dk_at b_Rd_nextWord 155 t_Rd_nextWord_155 := dk_go 3 a_Rd_nextWord_152 rfl
theorem a_Rd_nextWord_156 : dk_at b_Rd_nextWord 156 t_Rd_nextWord_156 := dk_go 1 a_Rd_nextWord_155 rfl
theorem a_Rd_nextWord_157 : dk_at b_Rd_nextWord 157 t_Rd_nextWord_157 := dk_go 1 a_Rd_nextWord_156 rfl
theorem a_Rd_nextWord_160 : dk_at b_Rd_nextWord 160 t_Rd_nextWord_160 := dk_go 3 a_Rd_nextWord_157 rfl
theorem a_Rd_nextWord_163 : dk_at b_Rd_nextWord 163 t_Rd_nextWord_163 := dk_go 3 a_Rd_nextWord_160 rfl
theorem a_Rd_nextWord_164 : dk_at b_Rd_nextWord 164 t_Rd_nextWord_164 := dk_go 1 a_Rd_nextWord_163 rfl
theorem a_Rd_nextWord_167 : dk_at b_Rd_nextWord 167 t_Rd_nextWord_167 := dk_go 3 a_Rd_nextWord_164 rfl
theorem a_Rd_nextWord_170 : dk_at b_Rd_nextWord 170 t_Rd_nextWord_170 := dk_go 3 a_Rd_nextWord_167 rfl
theorem a_Rd_nextWord_171 : dk_at b_Rd_nextWord 171 t_Rd_nextWord_171 := dk_go 1 a_Rd_nextWord_170 rfl
theorem a_Rd_nextWord_173 : dk_at b_Rd_nextWord 173 t_Rd_nextWord_173 := dk_go 2 a_Rd_nextWord_171 rfl
theorem a_Rd_nextWord_176 : dk_at b_Rd_nextWord 176 t_Rd_nextWord_176 := dk_go 3 a_Rd_nextWord_173 rfl
theorem a_Rd_nextWord_177 : dk_at b_Rd_nextWord 177 t_Rd_nextWord_177 := dk_go 1 a_Rd_nextWord_176 rfl
theorem a_Rd_nextWord_178 : dk_at b_Rd_nextWord 178 t_Rd_nextWord_178 := dk_go 1 a_Rd_nextWord_177 rfl
theorem a_Rd_nextWord_181 : dk_at b_Rd_nextWord 181 t_Rd_nextWord_181 := dk_go 3 a_Rd_nextWord_178 rfl
theorem a_Rd_nextWord_184 : dk_at b_Rd_nextWord 184 t_Rd_nextWord_184 := dk_go 3 a_Rd_nextWord_181 rfl
theorem d_Rd_nextWord_0 : decode b_Rd_nextWord 0 = .ok (.aload_n 0, 1) := dk_0 a_Rd_nextWord_0 (dko_42 _)
theorem d_Rd_nextWord_1 : decode b_Rd_nextWord 1 = .ok (.getfield 53, 3) := dk_U2 a_Rd_nextWord_1 (dko_180 _) rfl
theorem d_Rd_nextWord_4 : decode b_Rd_nextWord 4 = .ok (.aload_n 0, 1) := dk_0 a_Rd_nextWord_4 (dko_42 _)
theorem d_Rd_nextWord_5 : decode b_Rd_nextWord 5 = .ok (.getfield 40, 3) := dk_U2 a_Rd_nextWord_5 (dko_180 _) rfl
theorem d_Rd_nextWord_8 : decode b_Rd_nextWord 8 = .ok (.getfield 114, 3) := dk_U2 a_Rd_nextWord_8 (dko_180 _) rfl
theorem d_Rd_nextWord_11 : decode b_Rd_nextWord 11 = .ok (.if_icmp .ge 33, 3) := dk_S2 a_Rd_nextWord_11 (dko_162 _) (by decide +kernel)
theorem d_Rd_nextWord_44 : decode b_Rd_nextWord 44 = .ok (.aload_n 0, 1) := dk_0 a_Rd_nextWord_44 (dko_42 _)
theorem d_Rd_nextWord_45 : decode b_Rd_nextWord 45 = .ok (.aload_n 0, 1) := dk_0 a_Rd_nextWord_45 (dko_42 _)
theorem d_Rd_nextWord_46 : decode b_Rd_nextWord 46 = .ok (.getfield 53, 3) := dk_U2 a_Rd_nextWord_46 (dko_180 _) rfl
theorem d_Rd_nextWord_49 : decode b_Rd_nextWord 49 = .ok (.putfield 111, 3) := dk_U2 a_Rd_nextWord_49 (dko_181 _) rfl
theorem d_Rd_nextWord_52 : decode b_Rd_nextWord 52 = .ok (.aload_n 0, 1) := dk_0 a_Rd_nextWord_52 (dko_42 _)
theorem d_Rd_nextWord_53 : decode b_Rd_nextWord 53 = .ok (.getfield 40, 3) := dk_U2 a_Rd_nextWord_53 (dko_180 _) rfl
theorem d_Rd_nextWord_56 : decode b_Rd_nextWord 56 = .ok (.aload_n 0, 1) := dk_0 a_Rd_nextWord_56 (dko_42 _)
theorem d_Rd_nextWord_57 : decode b_Rd_nextWord 57 = .ok (.getfield 53, 3) := dk_U2 a_Rd_nextWord_57 (dko_180 _) rfl
theorem d_Rd_nextWord_60 : decode b_Rd_nextWord 60 = .ok (.invokevirtual 119, 3) := dk_U2 a_Rd_nextWord_60 (dko_182 _) rfl
theorem d_Rd_nextWord_63 : decode b_Rd_nextWord 63 = .ok (.istore_n 1, 1) := dk_0 a_Rd_nextWord_63 (dko_60 _)
theorem d_Rd_nextWord_64 : decode b_Rd_nextWord 64 = .ok (.aload_n 0, 1) := dk_0 a_Rd_nextWord_64 (dko_42 _)
theorem d_Rd_nextWord_65 : decode b_Rd_nextWord 65 = .ok (.getfield 53, 3) := dk_U2 a_Rd_nextWord_65 (dko_180 _) rfl
theorem d_Rd_nextWord_68 : decode b_Rd_nextWord 68 = .ok (.aload_n 0, 1) := dk_0 a_Rd_nextWord_68 (dko_42 _)
theorem d_Rd_nextWord_69 : decode b_Rd_nextWord 69 = .ok (.getfield 40, 3) := dk_U2 a_Rd_nextWord_69 (dko_180 _) rfl
theorem d_Rd_nextWord_72 : decode b_Rd_nextWord 72 = .ok (.getfield 114, 3) := dk_U2 a_Rd_nextWord_72 (dko_180 _) rfl
theorem d_Rd_nextWord_75 : decode b_Rd_nextWord 75 = .ok (.if_icmp .lt 10, 3) := dk_S2 a_Rd_nextWord_75 (dko_161 _) (by decide +kernel)
theorem d_Rd_nextWord_78 : decode b_Rd_nextWord 78 = .ok (.aload_n 0, 1) := dk_0 a_Rd_nextWord_78 (dko_42 _)
theorem d_Rd_nextWord_79 : decode b_Rd_nextWord 79 = .ok (.bipush 32, 2) := dk_S1 a_Rd_nextWord_79 (dko_16 _) (by decide +kernel)
theorem d_Rd_nextWord_81 : decode b_Rd_nextWord 81 = .ok (.putfield 66, 3) := dk_U2 a_Rd_nextWord_81 (dko_181 _) rfl
theorem d_Rd_nextWord_84 : decode b_Rd_nextWord 84 = .ok (.return_, 1) := dk_0 a_Rd_nextWord_84 (dko_177 _)
set_option maxHeartbeats 4000000 in
set_option maxRecDepth 100000 in
theorem c_Rd_nextWord (l : Launch) (dC : Nat → ClassId) (dI : Nat → Nat → Nat) (cI cB cZ cJ : ClassId) (nn : Int32) (hnn : ¬ 0 < nn) (oRd : Nat) (oTp : Nat) (oG2 : Nat) (xd : List Value) (hrd_tape : fx xd 0 (.ref oTp)) (hrd_program : fx xd 1 (.ref oG2)) (hrd_at : fx xd 2 (.int 0)) (hrd_word : fx xd 3 (.int 0)) (hrd_place : fx xd 4 (.int 0)) (hrd_wrong : fx xd 9 (.int (-1))) (xt : List Value) (htp_end : fx xt 2 (.int nn)) (sz : Nat) : Met l y_Rd_nextWord w_Rd_nextWord ({ frames := 1, cells := 0, slots := 0, locals := 21 }) (va_Pc [.ref oRd] (PW dC dI cI cB cZ cJ [(oRd, .inr (9, xd)), (oTp, .inr (1, xt))] sz)) (va_Qv (fun _ : Unit => True) (fun (_ : Unit) (t : State) => ∃ (n_xd : List Value), fx n_xd 0 (.ref oTp) ∧ fx n_xd 1 (.ref oG2) ∧ fx n_xd 2 (.int 0) ∧ fx n_xd 3 (.int 32) ∧ fx n_xd 4 (.int 0) ∧ fx n_xd 9 (.int (-1)) ∧ fx xt 2 (.int nn) ∧ va_P (dC, dI) classes [(oRd, .inr (9, n_xd)), (oTp, .inr (1, xt))] t.heap ∧ va_D (va_A [(oRd, .inr (9, xd)), (oTp, .inr (1, xt))] sz) [(oRd, .inr (9, n_xd)), (oTp, .inr (1, xt))]) (va_A [(oRd, .inr (9, xd)), (oTp, .inr (1, xt))] sz)) 0 0 (va_A [(oRd, .inr (9, xd)), (oTp, .inr (1, xt))] sz) := by
  refine Met.ofW (cc := b_Rd_nextWord) (maxL := 2) (ret := none) (by decide) rfl ?_
  intro p e s m args below meth c s₁ B hml hv
  obtain ⟨rfl, hsz, hP, hK, hD⟩ := hv
  have hx := B.exec
  have hb := B.bytes
  have hr := B.returns
  have hts := atoms_spec (ws := w_Rd_nextWord) B.pre
  have hown : s.vm.findClass R_Rd = some m.cls := findClass_of_methodNamed B.named
  have hlocks := B.notSynchronized
  subst hsz
  have hD := hD.self (sz := s.heap.size)
  generalize hAe : va_A [(oRd, .inr (9, xd)), (oTp, .inr (1, xt))] s.heap.size = A at hD ⊢
  have hA : ∀ q : Nat, s.heap.size ≤ q → A q := fun q h => by rw [← hAe]; exact Or.inr h
  have hS : va_S A s.heap s.heap [] := va_S.rf
  have hP : va_P (dC, dI) classes [(oRd, .inr (9, xd)), (oTp, .inr (1, xt))] s.heap := hP
  have hl := lv_entry ([.ref oRd]) (n := 2) (Nat.le_of_ble_eq_true rfl)
  rw [lg_entry_eq]
  generalize (lg_sl ([.ref oRd]) ++ List.replicate (2 - (lg_sl ([.ref oRd])).length) Slot.unset).toArray = ls at hl ⊢
  have hl : lv_has ls 2 [(0, .ref oRd)] := hl
  refine lv_aload_n hx hb d_Rd_nextWord_0 rfl (lv_at hl 0 rfl) ?_
  refine va_get (D := (dC, dI)) (ci := 9) (v := .int 0) (C := R_Rd) (T := F_Rd) (N := 13) hx hb hts (fun w h => List.mem_cons_of_mem _ (in_Rd w h)) hown hK.1 hP 0 rfl rfl 2 (by decide) (hts _ (List.mem_cons_of_mem _ mw_638)) (fun _ h9 => h9) hrd_at d_Rd_nextWord_1 ?_
  refine lv_aload_n hx hb d_Rd_nextWord_4 rfl (lv_at hl 0 rfl) ?_
  refine va_get (D := (dC, dI)) (ci := 9) (v := .ref oTp) (C := R_Rd) (T := F_Rd) (N := 13) hx hb hts (fun w h => List.mem_cons_of_mem _ (in_Rd w h)) hown hK.1 hP 0 rfl rfl 0 (by decide) (hts _ (List.mem_cons_of_mem _ mw_636)) (fun _ h9 => h9) hrd_tape d_Rd_nextWord_5 ?_
  refine va_get (D := (dC, dI)) (ci := 1) (v := .int nn) (C := R_Tp) (T := F_Tp) (N := 3) hx hb hts (fun w h => List.mem_cons_of_mem _ (in_Tp w h)) hown hK.1 hP 1 rfl rfl 2 (by decide) (hts _ (List.mem_cons_of_mem _ mw_44)) (fun _ h9 => h9) htp_end d_Rd_nextWord_8 ?_
  refine lv_icmp_ge (tgt := 44) hx hb d_Rd_nextWord_11 (by decide) (fun _ => ?_) (fun h => absurd (nu_le hnn (by decide)) h)
  refine lv_aload_n hx hb d_Rd_nextWord_44 rfl (lv_at hl 0 rfl) ?_
  refine lv_aload_n hx hb d_Rd_nextWord_45 rfl (lv_at hl 0 rfl) ?_
  refine va_get (D := (dC, dI)) (ci := 9) (v := .int 0) (C := R_Rd) (T := F_Rd) (N := 13) hx hb hts (fun w h => List.mem_cons_of_mem _ (in_Rd w h)) hown hK.1 hP 0 rfl rfl 2 (by decide) (hts _ (List.mem_cons_of_mem _ mw_638)) (fun _ h9 => h9) hrd_at d_Rd_nextWord_46 ?_
  refine va_put (D := (dC, dI)) (ci := 9) (v := .int 0) (ty := .int) (C := R_Rd) (T := F_Rd) (N := 13) hx hb hts (fun w h => List.mem_cons_of_mem _ (in_Rd w h)) t_Rd t_Rd_ok n_Rd hown hK.1 hP hD hS 0 rfl rfl 4 (by decide) (hts _ (List.mem_cons_of_mem _ mw_640)) (fun _ h9 => h9) rfl (t_Rd_ok 4 (by decide)) rfl rfl (st_lt hrd_place) d_Rd_nextWord_49 (fun H locs hP hD hS => ?_)
  have g49_2 : fx (xd.set 4 (.int 0)) 2 (.int 0) := (st_ne hrd_at (by decide))
  have g49_4 : fx (xd.set 4 (.int 0)) 4 (.int 0) := (st_eq hrd_place)
  have g49_1 : fx (xd.set 4 (.int 0)) 1 (.ref oG2) := (st_ne hrd_program (by decide))
  have g49_0 : fx (xd.set 4 (.int 0)) 0 (.ref oTp) := (st_ne hrd_tape (by decide))
  have g49_3 : fx (xd.set 4 (.int 0)) 3 (.int 0) := (st_ne hrd_word (by decide))
  have g49_9 : fx (xd.set 4 (.int 0)) 9 (.int (-1)) := (st_ne hrd_wrong (by decide))
  have hP : va_P (dC, dI) classes [(oRd, .inr (9, (xd.set 4 (.int 0)))), (oTp, .inr (1, xt))] H := hP
  have hD : va_D A [(oRd, .inr (9, (xd.set 4 (.int 0)))), (oTp, .inr (1, xt))] := hD
  generalize (xd.set 4 (.int 0)) = s49_1 at hP hD g49_2 g49_4 g49_1 g49_0 g49_3 g49_9
  refine lv_aload_n hx hb d_Rd_nextWord_52 rfl (lv_at hl 0 rfl) ?_
  refine va_get (D := (dC, dI)) (ci := 9) (v := .ref oTp) (C := R_Rd) (T := F_Rd) (N := 13) hx hb hts (fun w h => List.mem_cons_of_mem _ (in_Rd w h)) hown hK.1 hP 0 rfl rfl 0 (by decide) (hts _ (List.mem_cons_of_mem _ mw_636)) (fun _ h9 => h9) g49_0 d_Rd_nextWord_53 ?_
  refine lv_aload_n hx hb d_Rd_nextWord_56 rfl (lv_at hl 0 rfl) ?_
  refine va_get (D := (dC, dI)) (ci := 9) (v := .int 0) (C := R_Rd) (T := F_Rd) (N := 13) hx hb hts (fun w h => List.mem_cons_of_mem _ (in_Rd w h)) hown hK.1 hP 0 rfl rfl 2 (by decide) (hts _ (List.mem_cons_of_mem _ mw_638)) (fun _ h9 => h9) g49_2 d_Rd_nextWord_57 ?_
  have hPc := hP.sub (ws' := [(oTp, .inr (1, xt))]) [1] rfl
  have hDc := hD.sub (ws' := [(oTp, .inr (1, xt))]) [1] (by decide) rfl
  have hFc := pu_free hS hA
  refine va_calli (va_runV (C := R_Tp) (As := [.int 0]) (rest := []) ⟨hx, hb, hml, hown, hts⟩ (c_Tp_at l dC dI cI cB cZ cJ nn hnn oTp xt htp_end H.size) (cwV 1 hts (tb_V mw_891 mw_754 mw_755 mw_2 mw_756) rfl rfl rfl ⟨rfl, by decide +kernel, by decide +kernel, by decide +kernel⟩ ⟨(Nat.le_of_ble_eq_true rfl), (Nat.le_of_ble_eq_true rfl)⟩) ⟨pw_blind, va_recv (q := (R_Tp, F_Tp, 3)) hK.1 hP (ci := 1) (q0 := 1) rfl rfl, pw_pre hPc hK hDc⟩ rfl rfl hl.1 rfl (lv_room (Nat.le_of_ble_eq_true rfl)) d_Rd_nextWord_60 ⟨(Nat.le_of_ble_eq_true rfl), (Nat.le_of_ble_eq_true rfl)⟩) hS (fun q _ h => hFc q h) hFc (fun r u t H locs ht hvm hw hB hz1 hk1 hS => ?_)
  have hP := pu_kept hP hk1
  obtain rfl : r = (-1) := hw
  refine lv_istore_n hx hb d_Rd_nextWord_63 rfl hl (by decide) rfl (fun ls hl => ?_)
  have hl : lv_has ls 2 [(1, .int (-1)), (0, .ref oRd)] := hl
  refine lv_aload_n hx hb d_Rd_nextWord_64 rfl (lv_at hl 1 rfl) ?_
  refine va_get (D := (dC, dI)) (ci := 9) (v := .int 0) (C := R_Rd) (T := F_Rd) (N := 13) hx hb hts (fun w h => List.mem_cons_of_mem _ (in_Rd w h)) hown hK.1 hP 0 rfl rfl 2 (by decide) (hts _ (List.mem_cons_of_mem _ mw_638)) (fun _ h9 => h9) g49_2 d_Rd_nextWord_65 ?_
  refine lv_aload_n hx hb d_Rd_nextWord_68 rfl (lv_at hl 1 rfl) ?_
  refine va_get (D := (dC, dI)) (ci := 9) (v := .ref oTp) (C := R_Rd) (T := F_Rd) (N := 13) hx hb hts (fun w h => List.mem_cons_of_mem _ (in_Rd w h)) hown hK.1 hP 0 rfl rfl 0 (by decide) (hts _ (List.mem_cons_of_mem _ mw_636)) (fun _ h9 => h9) g49_0 d_Rd_nextWord_69 ?_
  refine va_get (D := (dC, dI)) (ci := 1) (v := .int nn) (C := R_Tp) (T := F_Tp) (N := 3) hx hb hts (fun w h => List.mem_cons_of_mem _ (in_Tp w h)) hown hK.1 hP 1 rfl rfl 2 (by decide) (hts _ (List.mem_cons_of_mem _ mw_44)) (fun _ h9 => h9) htp_end d_Rd_nextWord_72 ?_
  refine lv_icmp_lt (tgt := 85) hx hb d_Rd_nextWord_75 (by decide) (fun h => absurd h hnn) (fun _ => ?_)
  refine lv_aload_n hx hb d_Rd_nextWord_78 rfl (lv_at hl 1 rfl) ?_
  refine lv_bipush (v := 32) hx hb d_Rd_nextWord_79 (by decide) ?_
  refine va_put (D := (dC, dI)) (ci := 9) (v := .int 32) (ty := .int) (C := R_Rd) (T := F_Rd) (N := 13) hx hb hts (fun w h => List.mem_cons_of_mem _ (in_Rd w h)) t_Rd t_Rd_ok n_Rd hown hK.1 hP hD hS 0 rfl rfl 3 (by decide) (hts _ (List.mem_cons_of_mem _ mw_639)) (fun _ h9 => h9) rfl (t_Rd_ok 3 (by decide)) rfl rfl (st_lt g49_3) d_Rd_nextWord_81 (fun H locs hP hD hS => ?_)
  have g81_2 : fx (s49_1.set 3 (.int 32)) 2 (.int 0) := (st_ne g49_2 (by decide))
  have g81_4 : fx (s49_1.set 3 (.int 32)) 4 (.int 0) := (st_ne g49_4 (by decide))
  have g81_1 : fx (s49_1.set 3 (.int 32)) 1 (.ref oG2) := (st_ne g49_1 (by decide))
  have g81_0 : fx (s49_1.set 3 (.int 32)) 0 (.ref oTp) := (st_ne g49_0 (by decide))
  have g81_3 : fx (s49_1.set 3 (.int 32)) 3 (.int 32) := (st_eq g49_3)
  have g81_9 : fx (s49_1.set 3 (.int 32)) 9 (.int (-1)) := (st_ne g49_9 (by decide))
  have hP : va_P (dC, dI) classes [(oRd, .inr (9, (s49_1.set 3 (.int 32)))), (oTp, .inr (1, xt))] H := hP
  have hD : va_D A [(oRd, .inr (9, (s49_1.set 3 (.int 32)))), (oTp, .inr (1, xt))] := hD
  generalize (s49_1.set 3 (.int 32)) = s81_2 at hP hD g81_2 g81_4 g81_1 g81_0 g81_3 g81_9
  exact W.vret hx hb hr (fun t ht hW => ⟨⟨(), rfl, trivial, ⟨s81_2, g81_0, g81_1, g81_2, g81_3, g81_4, g81_9, htp_end, by rw [ht]; exact hP, hD⟩⟩, hS.F ht⟩) hS.2.2 d_Rd_nextWord_84
abbrev t_Rd_read_300 : List UInt8 := 172 :: []
abbrev t_Rd_read_297 : List UInt8 := 180 :: 0 :: 60 :: t_Rd_read_300
abbrev t_Rd_read_296 : List UInt8 := 42 :: t_Rd_read_297
abbrev t_Rd_read_293 : List UInt8 := 182 :: 0 :: 108 :: t_Rd_read_296
abbrev t_Rd_read_292 : List UInt8 := 42 :: t_Rd_read_293
abbrev t_Rd_read_289 : List UInt8 := 164 :: 0 :: 7 :: t_Rd_read_292
abbrev t_Rd_read_287 : List UInt8 := 16 :: 40 :: t_Rd_read_289
abbrev t_Rd_read_285 : List UInt8 := 21 :: 4 :: t_Rd_read_287
abbrev t_Rd_read_282 : List UInt8 := 163 :: 0 :: 10 :: t_Rd_read_285
abbrev t_Rd_read_279 : List UInt8 := 17 :: 1 :: 244 :: t_Rd_read_282
abbrev t_Rd_read_278 : List UInt8 := 29 :: t_Rd_read_279
abbrev t_Rd_read_275 : List UInt8 := 156 :: 0 :: 21 :: t_Rd_read_278
abbrev t_Rd_read_272 : List UInt8 := 180 :: 0 :: 60 :: t_Rd_read_275
abbrev t_Rd_read_271 : List UInt8 := 42 :: t_Rd_read_272
abbrev t_Rd_read_268 : List UInt8 := 167 :: 255 :: 160 :: t_Rd_read_271
abbrev t_Rd_read_265 : List UInt8 := 132 :: 6 :: 1 :: t_Rd_read_268
abbrev t_Rd_read_263 : List UInt8 := 54 :: 5 :: t_Rd_read_265
abbrev t_Rd_read_261 : List UInt8 := 21 :: 7 :: t_Rd_read_263
abbrev t_Rd_read_260 : List UInt8 := 79 :: t_Rd_read_261
abbrev t_Rd_read_258 : List UInt8 := 21 :: 7 :: t_Rd_read_260
abbrev t_Rd_read_256 : List UInt8 := 21 :: 5 :: t_Rd_read_258
abbrev t_Rd_read_253 : List UInt8 := 180 :: 0 :: 105 :: t_Rd_read_256
abbrev t_Rd_read_250 : List UInt8 := 180 :: 0 :: 44 :: t_Rd_read_253
abbrev t_Rd_read_249 : List UInt8 := 42 :: t_Rd_read_250
abbrev t_Rd_read_246 : List UInt8 := 167 :: 0 :: 15 :: t_Rd_read_249
abbrev t_Rd_read_243 : List UInt8 := 181 :: 0 :: 102 :: t_Rd_read_246
abbrev t_Rd_read_241 : List UInt8 := 21 :: 7 :: t_Rd_read_243
abbrev t_Rd_read_238 : List UInt8 := 180 :: 0 :: 44 :: t_Rd_read_241
abbrev t_Rd_read_237 : List UInt8 := 42 :: t_Rd_read_238
abbrev t_Rd_read_234 : List UInt8 := 156 :: 0 :: 15 :: t_Rd_read_237
abbrev t_Rd_read_232 : List UInt8 := 21 :: 5 :: t_Rd_read_234
abbrev t_Rd_read_230 : List UInt8 := 54 :: 4 :: t_Rd_read_232
abbrev t_Rd_read_227 : List UInt8 := 184 :: 0 :: 99 :: t_Rd_read_230
abbrev t_Rd_read_226 : List UInt8 := 46 :: t_Rd_read_227
abbrev t_Rd_read_224 : List UInt8 := 21 :: 7 :: t_Rd_read_226
abbrev t_Rd_read_221 : List UInt8 := 180 :: 0 :: 15 :: t_Rd_read_224
abbrev t_Rd_read_220 : List UInt8 := 42 :: t_Rd_read_221
abbrev t_Rd_read_218 : List UInt8 := 21 :: 4 :: t_Rd_read_220
abbrev t_Rd_read_217 : List UInt8 := 62 :: t_Rd_read_218
abbrev t_Rd_read_214 : List UInt8 := 184 :: 0 :: 94 :: t_Rd_read_217
abbrev t_Rd_read_211 : List UInt8 := 17 :: 1 :: 245 :: t_Rd_read_214
abbrev t_Rd_read_210 : List UInt8 := 96 :: t_Rd_read_211
abbrev t_Rd_read_209 : List UInt8 := 46 :: t_Rd_read_210
abbrev t_Rd_read_207 : List UInt8 := 21 :: 7 :: t_Rd_read_209
abbrev t_Rd_read_204 : List UInt8 := 180 :: 0 :: 9 :: t_Rd_read_207
abbrev t_Rd_read_203 : List UInt8 := 42 :: t_Rd_read_204
abbrev t_Rd_read_202 : List UInt8 := 29 :: t_Rd_read_203
abbrev t_Rd_read_200 : List UInt8 := 54 :: 7 :: t_Rd_read_202
abbrev t_Rd_read_197 : List UInt8 := 182 :: 0 :: 91 :: t_Rd_read_200
abbrev t_Rd_read_196 : List UInt8 := 42 :: t_Rd_read_197
abbrev t_Rd_read_193 : List UInt8 := 159 :: 0 :: 78 :: t_Rd_read_196
abbrev t_Rd_read_191 : List UInt8 := 16 :: 32 :: t_Rd_read_193
abbrev t_Rd_read_188 : List UInt8 := 180 :: 0 :: 66 :: t_Rd_read_191
abbrev t_Rd_read_187 : List UInt8 := 42 :: t_Rd_read_188
abbrev t_Rd_read_184 : List UInt8 := 156 :: 0 :: 87 :: t_Rd_read_187
abbrev t_Rd_read_181 : List UInt8 := 180 :: 0 :: 60 :: t_Rd_read_184
abbrev t_Rd_read_180 : List UInt8 := 42 :: t_Rd_read_181
abbrev t_Rd_read_177 : List UInt8 := 163 :: 0 :: 94 :: t_Rd_read_180
abbrev t_Rd_read_174 : List UInt8 := 17 :: 15 :: 160 :: t_Rd_read_177
abbrev t_Rd_read_172 : List UInt8 := 21 :: 6 :: t_Rd_read_174
abbrev t_Rd_read_170 : List UInt8 := 54 :: 6 :: t_Rd_read_172
abbrev t_Rd_read_169 : List UInt8 := 3 :: t_Rd_read_170
abbrev t_Rd_read_167 : List UInt8 := 54 :: 5 :: t_Rd_read_169
abbrev t_Rd_read_166 : List UInt8 := 2 :: t_Rd_read_167
abbrev t_Rd_read_164 : List UInt8 := 54 :: 4 :: t_Rd_read_166
abbrev t_Rd_read_163 : List UInt8 := 3 :: t_Rd_read_164
abbrev t_Rd_read_162 : List UInt8 := 62 :: t_Rd_read_163
abbrev t_Rd_read_161 : List UInt8 := 3 :: t_Rd_read_162
abbrev t_Rd_read_158 : List UInt8 := 167 :: 255 :: 136 :: t_Rd_read_161
abbrev t_Rd_read_155 : List UInt8 := 132 :: 3 :: 1 :: t_Rd_read_158
abbrev t_Rd_read_152 : List UInt8 := 182 :: 0 :: 87 :: t_Rd_read_155
abbrev t_Rd_read_150 : List UInt8 := 21 :: 7 :: t_Rd_read_152
abbrev t_Rd_read_148 : List UInt8 := 21 :: 8 :: t_Rd_read_150
abbrev t_Rd_read_146 : List UInt8 := 21 :: 4 :: t_Rd_read_148
abbrev t_Rd_read_144 : List UInt8 := 22 :: 5 :: t_Rd_read_146
abbrev t_Rd_read_141 : List UInt8 := 180 :: 0 :: 44 :: t_Rd_read_144
abbrev t_Rd_read_140 : List UInt8 := 42 :: t_Rd_read_141
abbrev t_Rd_read_137 : List UInt8 := 182 :: 0 :: 83 :: t_Rd_read_140
abbrev t_Rd_read_135 : List UInt8 := 16 :: 59 :: t_Rd_read_137
abbrev t_Rd_read_134 : List UInt8 := 42 :: t_Rd_read_135
abbrev t_Rd_read_131 : List UInt8 := 167 :: 0 :: 9 :: t_Rd_read_134
abbrev t_Rd_read_130 : List UInt8 := 87 :: t_Rd_read_131
abbrev t_Rd_read_127 : List UInt8 := 182 :: 0 :: 79 :: t_Rd_read_130
abbrev t_Rd_read_126 : List UInt8 := 3 :: t_Rd_read_127
abbrev t_Rd_read_124 : List UInt8 := 16 :: 10 :: t_Rd_read_126
abbrev t_Rd_read_123 : List UInt8 := 42 :: t_Rd_read_124
abbrev t_Rd_read_120 : List UInt8 := 160 :: 0 :: 14 :: t_Rd_read_123
abbrev t_Rd_read_118 : List UInt8 := 16 :: 10 :: t_Rd_read_120
abbrev t_Rd_read_116 : List UInt8 := 21 :: 4 :: t_Rd_read_118
abbrev t_Rd_read_114 : List UInt8 := 54 :: 8 :: t_Rd_read_116
abbrev t_Rd_read_111 : List UInt8 := 182 :: 0 :: 76 :: t_Rd_read_114
abbrev t_Rd_read_110 : List UInt8 := 42 :: t_Rd_read_111
abbrev t_Rd_read_107 : List UInt8 := 167 :: 0 :: 7 :: t_Rd_read_110
abbrev t_Rd_read_106 : List UInt8 := 3 :: t_Rd_read_107
abbrev t_Rd_read_103 : List UInt8 := 160 :: 0 :: 7 :: t_Rd_read_106
abbrev t_Rd_read_101 : List UInt8 := 16 :: 10 :: t_Rd_read_103
abbrev t_Rd_read_99 : List UInt8 := 21 :: 4 :: t_Rd_read_101
abbrev t_Rd_read_97 : List UInt8 := 54 :: 7 :: t_Rd_read_99
abbrev t_Rd_read_96 : List UInt8 := 2 :: t_Rd_read_97
abbrev t_Rd_read_93 : List UInt8 := 167 :: 0 :: 4 :: t_Rd_read_96
abbrev t_Rd_read_90 : List UInt8 := 182 :: 0 :: 73 :: t_Rd_read_93
abbrev t_Rd_read_89 : List UInt8 := 42 :: t_Rd_read_90
abbrev t_Rd_read_86 : List UInt8 := 160 :: 0 :: 10 :: t_Rd_read_89
abbrev t_Rd_read_84 : List UInt8 := 16 :: 10 :: t_Rd_read_86
abbrev t_Rd_read_82 : List UInt8 := 21 :: 4 :: t_Rd_read_84
abbrev t_Rd_read_80 : List UInt8 := 55 :: 5 :: t_Rd_read_82
abbrev t_Rd_read_77 : List UInt8 := 182 :: 0 :: 69 :: t_Rd_read_80
abbrev t_Rd_read_76 : List UInt8 := 42 :: t_Rd_read_77
abbrev t_Rd_read_74 : List UInt8 := 54 :: 4 :: t_Rd_read_76
abbrev t_Rd_read_71 : List UInt8 := 180 :: 0 :: 66 :: t_Rd_read_74
abbrev t_Rd_read_70 : List UInt8 := 42 :: t_Rd_read_71
abbrev t_Rd_read_67 : List UInt8 := 163 :: 0 :: 94 :: t_Rd_read_70
abbrev t_Rd_read_65 : List UInt8 := 16 :: 10 :: t_Rd_read_67
abbrev t_Rd_read_62 : List UInt8 := 180 :: 0 :: 66 :: t_Rd_read_65
abbrev t_Rd_read_61 : List UInt8 := 42 :: t_Rd_read_62
abbrev t_Rd_read_58 : List UInt8 := 161 :: 0 :: 103 :: t_Rd_read_61
abbrev t_Rd_read_56 : List UInt8 := 16 :: 8 :: t_Rd_read_58
abbrev t_Rd_read_53 : List UInt8 := 180 :: 0 :: 66 :: t_Rd_read_56
abbrev t_Rd_read_52 : List UInt8 := 42 :: t_Rd_read_53
abbrev t_Rd_read_49 : List UInt8 := 156 :: 0 :: 112 :: t_Rd_read_52
abbrev t_Rd_read_46 : List UInt8 := 180 :: 0 :: 60 :: t_Rd_read_49
abbrev t_Rd_read_45 : List UInt8 := 42 :: t_Rd_read_46
abbrev t_Rd_read_42 : List UInt8 := 163 :: 0 :: 119 :: t_Rd_read_45
abbrev t_Rd_read_39 : List UInt8 := 17 :: 15 :: 160 :: t_Rd_read_42
abbrev t_Rd_read_38 : List UInt8 := 29 :: t_Rd_read_39
abbrev t_Rd_read_37 : List UInt8 := 62 :: t_Rd_read_38
abbrev t_Rd_read_36 : List UInt8 := 3 :: t_Rd_read_37
abbrev t_Rd_read_33 : List UInt8 := 182 :: 0 :: 63 :: t_Rd_read_36
abbrev t_Rd_read_32 : List UInt8 := 42 :: t_Rd_read_33
abbrev t_Rd_read_29 : List UInt8 := 181 :: 0 :: 60 :: t_Rd_read_32
abbrev t_Rd_read_28 : List UInt8 := 2 :: t_Rd_read_29
abbrev t_Rd_read_27 : List UInt8 := 42 :: t_Rd_read_28
abbrev t_Rd_read_24 : List UInt8 := 181 :: 0 :: 57 :: t_Rd_read_27
abbrev t_Rd_read_23 : List UInt8 := 3 :: t_Rd_read_24
abbrev t_Rd_read_22 : List UInt8 := 42 :: t_Rd_read_23
abbrev t_Rd_read_19 : List UInt8 := 181 :: 0 :: 53 :: t_Rd_read_22
abbrev t_Rd_read_18 : List UInt8 := 3 :: t_Rd_read_19
abbrev t_Rd_read_17 : List UInt8 := 42 :: t_Rd_read_18
abbrev t_Rd_read_14 : List UInt8 := 182 :: 0 :: 48 :: t_Rd_read_17
abbrev t_Rd_read_11 : List UInt8 := 180 :: 0 :: 44 :: t_Rd_read_14
abbrev t_Rd_read_10 : List UInt8 := 42 :: t_Rd_read_11
abbrev t_Rd_read_7 : List UInt8 := 181 :: 0 :: 44 :: t_Rd_read_10
abbrev t_Rd_read_6 : List UInt8 := 44 :: t_Rd_read_7
abbrev t_Rd_read_5 : List UInt8 := 42 :: t_Rd_read_6
abbrev t_Rd_read_2 : List UInt8 := 181 :: 0 :: 40 :: t_Rd_read_5
abbrev t_Rd_read_1 : List UInt8 := 43 :: t_Rd_read_2
abbrev t_Rd_read_0 : List UInt8 := 42 :: t_Rd_read_1
theorem a_Rd_read_0 : dk_at b_Rd_read 0 t_Rd_read_0 := dk_start (by decide +kernel)
theorem a_Rd_read_1 : dk_at b_Rd_read 1 t_Rd_read_1 := dk_go 1 a_Rd_read_0 rfl
theorem a_Rd_read_2 : dk_at b_Rd_read 2 t_Rd_read_2 := dk_go 1 a_Rd_read_1 rfl
theorem a_Rd_read_5 : dk_at b_Rd_read 5 t_Rd_read_5 := dk_go 3 a_Rd_read_2 rfl
theorem a_Rd_read_6 : dk_at b_Rd_read 6 t_Rd_read_6 := dk_go 1 a_Rd_read_5 rfl
theorem a_Rd_read_7 : dk_at b_Rd_read 7 t_Rd_read_7 := dk_go 1 a_Rd_read_6 rfl
theorem a_Rd_read_10 : dk_at b_Rd_read 10 t_Rd_read_10 := dk_go 3 a_Rd_read_7 rfl
theorem a_Rd_read_11 : dk_at b_Rd_read 11 t_Rd_read_11 := dk_go 1 a_Rd_read_10 rfl
theorem a_Rd_read_14 : dk_at b_Rd_read 14 t_Rd_read_14 := dk_go 3 a_Rd_read_11 rfl
theorem a_Rd_read_17 : dk_at b_Rd_read 17 t_Rd_read_17 := dk_go 3 a_Rd_read_14 rfl
theorem a_Rd_read_18 : dk_at b_Rd_read 18 t_Rd_read_18 := dk_go 1 a_Rd_read_17 rfl
theorem a_Rd_read_19 : dk_at b_Rd_read 19 t_Rd_read_19 := dk_go 1 a_Rd_read_18 rfl
theorem a_Rd_read_22 : dk_at b_Rd_read 22 t_Rd_read_22 := dk_go 3 a_Rd_read_19 rfl
theorem a_Rd_read_23 : dk_at b_Rd_read 23 t_Rd_read_23 := dk_go 1 a_Rd_read_22 rfl
theorem a_Rd_read_24 : dk_at b_Rd_read 24 t_Rd_read_24 := dk_go 1 a_Rd_read_23 rfl
theorem a_Rd_read_27 : dk_at b_Rd_read 27 t_Rd_read_27 := dk_go 3 a_Rd_read_24 rfl
theorem a_Rd_read_28 : dk_at b_Rd_read 28 t_Rd_read_28 := dk_go 1 a_Rd_read_27 rfl
theorem a_Rd_read_29 : dk_at b_Rd_read 29 t_Rd_read_29 := dk_go 1 a_Rd_read_28 rfl
theorem a_Rd_read_32 : dk_at b_Rd_read 32 t_Rd_read_32 := dk_go 3 a_Rd_read_29 rfl
theorem a_Rd_read_33 : dk_at b_Rd_read 33 t_Rd_read_33 := dk_go 1 a_Rd_read_32 rfl
theorem a_Rd_read_36 : dk_at b_Rd_read 36 t_Rd_read_36 := dk_go 3 a_Rd_read_33 rfl
theorem a_Rd_read_37 : dk_at b_Rd_read 37 t_Rd_read_37 := dk_go 1 a_Rd_read_36 rfl
theorem a_Rd_read_38 : dk_at b_Rd_read 38 t_Rd_read_38 := dk_go 1 a_Rd_read_37 rfl
theorem a_Rd_read_39 : dk_at b_Rd_read 39 t_Rd_read_39 := dk_go 1 a_Rd_read_38 rfl
theorem a_Rd_read_42 : dk_at b_Rd_read 42 t_Rd_read_42 := dk_go 3 a_Rd_read_39 rfl
theorem a_Rd_read_45 : dk_at b_Rd_read 45 t_Rd_read_45 := dk_go 3 a_Rd_read_42 rfl
theorem a_Rd_read_46 : dk_at b_Rd_read 46 t_Rd_read_46 := dk_go 1 a_Rd_read_45 rfl
theorem a_Rd_read_49 : dk_at b_Rd_read 49 t_Rd_read_49 := dk_go 3 a_Rd_read_46 rfl
theorem a_Rd_read_52 : dk_at b_Rd_read 52 t_Rd_read_52 := dk_go 3 a_Rd_read_49 rfl
theorem a_Rd_read_53 : dk_at b_Rd_read 53 t_Rd_read_53 := dk_go 1 a_Rd_read_52 rfl
theorem a_Rd_read_56 : dk_at b_Rd_read 56 t_Rd_read_56 := dk_go 3 a_Rd_read_53 rfl
theorem a_Rd_read_58 : dk_at b_Rd_read 58 t_Rd_read_58 := dk_go 2 a_Rd_read_56 rfl
theorem a_Rd_read_61 : dk_at b_Rd_read 61 t_Rd_read_61 := dk_go 3 a_Rd_read_58 rfl
theorem a_Rd_read_62 : dk_at b_Rd_read 62 t_Rd_read_62 := dk_go 1 a_Rd_read_61 rfl
theorem a_Rd_read_65 : dk_at b_Rd_read 65 t_Rd_read_65 := dk_go 3 a_Rd_read_62 rfl
theorem a_Rd_read_67 : dk_at b_Rd_read 67 t_Rd_read_67 := dk_go 2 a_Rd_read_65 rfl
theorem a_Rd_read_70 : dk_at b_Rd_read 70 t_Rd_read_70 := dk_go 3 a_Rd_read_67 rfl
theorem a_Rd_read_71 : dk_at b_Rd_read 71 t_Rd_read_71 := dk_go 1 a_Rd_read_70 rfl
theorem a_Rd_read_74 : dk_at b_Rd_read 74 t_Rd_read_74 := dk_go 3 a_Rd_read_71 rfl
theorem a_Rd_read_76 : dk_at b_Rd_read 76 t_Rd_read_76 := dk_go 2 a_Rd_read_74 rfl
theorem a_Rd_read_77 : dk_at b_Rd_read 77 t_Rd_read_77 := dk_go 1 a_Rd_read_76 rfl
theorem a_Rd_read_80 : dk_at b_Rd_read 80 t_Rd_read_80 := dk_go 3 a_Rd_read_77 rfl
theorem a_Rd_read_82 : dk_at b_Rd_read 82 t_Rd_read_82 := dk_go 2 a_Rd_read_80 rfl
theorem a_Rd_read_84 : dk_at b_Rd_read 84 t_Rd_read_84 := dk_go 2 a_Rd_read_82 rfl
theorem a_Rd_read_86 : dk_at b_Rd_read 86 t_Rd_read_86 := dk_go 2 a_Rd_read_84 rfl
theorem a_Rd_read_89 : dk_at b_Rd_read 89 t_Rd_read_89 := dk_go 3 a_Rd_read_86 rfl
theorem a_Rd_read_90 : dk_at b_Rd_read 90 t_Rd_read_90 := dk_go 1 a_Rd_read_89 rfl
theorem a_Rd_read_93 : dk_at b_Rd_read 93 t_Rd_read_93 := dk_go 3 a_Rd_read_90 rfl
theorem a_Rd_read_96 : dk_at b_Rd_read 96 t_Rd_read_96 := dk_go 3 a_Rd_read_93 rfl
theorem a_Rd_read_97 : dk_at b_Rd_read 97 t_Rd_read_97 := dk_go 1 a_Rd_read_96 rfl
theorem a_Rd_read_99 : dk_at b_Rd_read 99 t_Rd_read_99 := dk_go 2 a_Rd_read_97 rfl
theorem a_Rd_read_101 : dk_at b_Rd_read 101 t_Rd_read_101 := dk_go 2 a_Rd_read_99 rfl
theorem a_Rd_read_103 : dk_at b_Rd_read 103 t_Rd_read_103 := dk_go 2 a_Rd_read_101 rfl
theorem a_Rd_read_106 : dk_at b_Rd_read 106 t_Rd_read_106 := dk_go 3 a_Rd_read_103 rfl
theorem a_Rd_read_107 : dk_at b_Rd_read 107 t_Rd_read_107 := dk_go 1 a_Rd_read_106 rfl
theorem a_Rd_read_110 : dk_at b_Rd_read 110 t_Rd_read_110 := dk_go 3 a_Rd_read_107 rfl
theorem a_Rd_read_111 : dk_at b_Rd_read 111 t_Rd_read_111 := dk_go 1 a_Rd_read_110 rfl
theorem a_Rd_read_114 : dk_at b_Rd_read 114 t_Rd_read_114 := dk_go 3 a_Rd_read_111 rfl
theorem a_Rd_read_116 : dk_at b_Rd_read 116 t_Rd_read_116 := dk_go 2 a_Rd_read_114 rfl
theorem a_Rd_read_118 : dk_at b_Rd_read 118 t_Rd_read_118 := dk_go 2 a_Rd_read_116 rfl
theorem a_Rd_read_120 : dk_at b_Rd_read 120 t_Rd_read_120 := dk_go 2 a_Rd_read_118 rfl
theorem a_Rd_read_123 : dk_at b_Rd_read 123 t_Rd_read_123 := dk_go 3 a_Rd_read_120 rfl
theorem a_Rd_read_124 : dk_at b_Rd_read 124 t_Rd_read_124 := dk_go 1 a_Rd_read_123 rfl
theorem a_Rd_read_126 : dk_at b_Rd_read 126 t_Rd_read_126 := dk_go 2 a_Rd_read_124 rfl
theorem a_Rd_read_127 : dk_at b_Rd_read 127 t_Rd_read_127 := dk_go 1 a_Rd_read_126 rfl
theorem a_Rd_read_130 : dk_at b_Rd_read 130 t_Rd_read_130 := dk_go 3 a_Rd_read_127 rfl
theorem a_Rd_read_131 : dk_at b_Rd_read 131 t_Rd_read_131 := dk_go 1 a_Rd_read_130 rfl
theorem a_Rd_read_134 : dk_at b_Rd_read 134 t_Rd_read_134 := dk_go 3 a_Rd_read_131 rfl
theorem a_Rd_read_135 : dk_at b_Rd_read 135 t_Rd_read_135 := dk_go 1 a_Rd_read_134 rfl
theorem a_Rd_read_137 : dk_at b_Rd_read 137 t_Rd_read_137 := dk_go 2 a_Rd_read_135 rfl
theorem a_Rd_read_140 : dk_at b_Rd_read 140 t_Rd_read_140 := dk_go 3 a_Rd_read_137 rfl
theorem a_Rd_read_141 : dk_at b_Rd_read 141 t_Rd_read_141 := dk_go 1 a_Rd_read_140 rfl
theorem a_Rd_read_144 : dk_at b_Rd_read 144 t_Rd_read_144 := dk_go 3 a_Rd_read_141 rfl
theorem a_Rd_read_146 : dk_at b_Rd_read 146 t_Rd_read_146 := dk_go 2 a_Rd_read_144 rfl
theorem a_Rd_read_148 : dk_at b_Rd_read 148 t_Rd_read_148 := dk_go 2 a_Rd_read_146 rfl
theorem a_Rd_read_150 : dk_at b_Rd_read 150 t_Rd_read_150 := dk_go 2 a_Rd_read_148 rfl
theorem a_Rd_read_152 : dk_at b_Rd_read 152 t_Rd_read_152 := dk_go 2 a_Rd_read_150 rfl
theorem a_Rd_read_155 : dk_at b_Rd_read 155 t_Rd_read_155 := dk_go 3 a_Rd_read_152 rfl
theorem a_Rd_read_158 : dk_at b_Rd_read 158 t_Rd_read_158 := dk_go 3 a_Rd_read_155 rfl
theorem a_Rd_read_161 : dk_at b_Rd_read 161 t_Rd_read_161 := dk_go 3 a_Rd_read_158 rfl
theorem a_Rd_read_162 : dk_at b_Rd_read 162 t_Rd_read_162 := dk_go 1 a_Rd_read_161 rfl
theorem a_Rd_read_163 : dk_at b_Rd_read 163 t_Rd_read_163 := dk_go 1 a_Rd_read_162 rfl
theorem a_Rd_read_164 : dk_at b_Rd_read 164 t_Rd_read_164 := dk_go 1 a_Rd_read_163 rfl
theorem a_Rd_read_166 : dk_at b_Rd_read 166 t_Rd_read_166 := dk_go 2 a_Rd_read_164 rfl
theorem a_Rd_read_167 : dk_at b_Rd_read 167 t_Rd_read_167 := dk_go 1 a_Rd_read_166 rfl
theorem a_Rd_read_169 : dk_at b_Rd_read 169 t_Rd_read_169 := dk_go 2 a_Rd_read_167 rfl
theorem a_Rd_read_170 : dk_at b_Rd_read 170 t_Rd_read_170 := dk_go 1 a_Rd_read_169 rfl
theorem a_Rd_read_172 : dk_at b_Rd_read 172 t_Rd_read_172 := dk_go 2 a_Rd_read_170 rfl
theorem a_Rd_read_174 : dk_at b_Rd_read 174 t_Rd_read_174 := dk_go 2 a_Rd_read_172 rfl
theorem a_Rd_read_177 : dk_at b_Rd_read 177 t_Rd_read_177 := dk_go 3 a_Rd_read_174 rfl
theorem a_Rd_read_180 : dk_at b_Rd_read 180 t_Rd_read_180 := dk_go 3 a_Rd_read_177 rfl
theorem a_Rd_read_181 : dk_at b_Rd_read 181 t_Rd_read_181 := dk_go 1 a_Rd_read_180 rfl
theorem a_Rd_read_184 : dk_at b_Rd_read 184 t_Rd_read_184 := dk_go 3 a_Rd_read_181 rfl
theorem a_Rd_read_187 : dk_at b_Rd_read 187 t_Rd_read_187 := dk_go 3 a_Rd_read_184 rfl
theorem a_Rd_read_188 : dk_at b_Rd_read 188 t_Rd_read_188 := dk_go 1 a_Rd_read_187 rfl
theorem a_Rd_read_191 : dk_at b_Rd_read 191 t_Rd_read_191 := dk_go 3 a_Rd_read_188 rfl
theorem a_Rd_read_193 : dk_at b_Rd_read 193 t_Rd_read_193 := dk_go 2 a_Rd_read_191 rfl
theorem a_Rd_read_196 : dk_at b_Rd_read 196 t_Rd_read_196 := dk_go 3 a_Rd_read_193 rfl
theorem a_Rd_read_197 : dk_at b_Rd_read 197 t_Rd_read_197 := dk_go 1 a_Rd_read_196 rfl
theorem a_Rd_read_200 : dk_at b_Rd_read 200 t_Rd_read_200 := dk_go 3 a_Rd_read_197 rfl
theorem a_Rd_read_202 : dk_at b_Rd_read 202 t_Rd_read_202 := dk_go 2 a_Rd_read_200 rfl
theorem a_Rd_read_203 : dk_at b_Rd_read 203 t_Rd_read_203 := dk_go 1 a_Rd_read_202 rfl
theorem a_Rd_read_204 : dk_at b_Rd_read 204 t_Rd_read_204 := dk_go 1 a_Rd_read_203 rfl
theorem a_Rd_read_207 : dk_at b_Rd_read 207 t_Rd_read_207 := dk_go 3 a_Rd_read_204 rfl
theorem a_Rd_read_209 : dk_at b_Rd_read 209 t_Rd_read_209 := dk_go 2 a_Rd_read_207 rfl
theorem a_Rd_read_210 : dk_at b_Rd_read 210 t_Rd_read_210 := dk_go 1 a_Rd_read_209 rfl
theorem a_Rd_read_211 : dk_at b_Rd_read 211 t_Rd_read_211 := dk_go 1 a_Rd_read_210 rfl
theorem a_Rd_read_214 : dk_at b_Rd_read 214 t_Rd_read_214 := dk_go 3 a_Rd_read_211 rfl
theorem a_Rd_read_217 : dk_at b_Rd_read 217 t_Rd_read_217 := dk_go 3 a_Rd_read_214 rfl
theorem a_Rd_read_218 : dk_at b_Rd_read 218 t_Rd_read_218 := dk_go 1 a_Rd_read_217 rfl
theorem a_Rd_read_220 : dk_at b_Rd_read 220 t_Rd_read_220 := dk_go 2 a_Rd_read_218 rfl
theorem a_Rd_read_221 : dk_at b_Rd_read 221 t_Rd_read_221 := dk_go 1 a_Rd_read_220 rfl
theorem a_Rd_read_224 : dk_at b_Rd_read 224 t_Rd_read_224 := dk_go 3 a_Rd_read_221 rfl
theorem a_Rd_read_226 : dk_at b_Rd_read 226 t_Rd_read_226 := dk_go 2 a_Rd_read_224 rfl
theorem a_Rd_read_227 : dk_at b_Rd_read 227 t_Rd_read_227 := dk_go 1 a_Rd_read_226 rfl
theorem a_Rd_read_230 : dk_at b_Rd_read 230 t_Rd_read_230 := dk_go 3 a_Rd_read_227 rfl
theorem a_Rd_read_232 : dk_at b_Rd_read 232 t_Rd_read_232 := dk_go 2 a_Rd_read_230 rfl
theorem a_Rd_read_234 : dk_at b_Rd_read 234 t_Rd_read_234 := dk_go 2 a_Rd_read_232 rfl
theorem a_Rd_read_237 : dk_at b_Rd_read 237 t_Rd_read_237 := dk_go 3 a_Rd_read_234 rfl
theorem a_Rd_read_238 : dk_at b_Rd_read 238 t_Rd_read_238 := dk_go 1 a_Rd_read_237 rfl
theorem a_Rd_read_241 : dk_at b_Rd_read 241 t_Rd_read_241 := dk_go 3 a_Rd_read_238 rfl
theorem a_Rd_read_243 : dk_at b_Rd_read 243 t_Rd_read_243 := dk_go 2 a_Rd_read_241 rfl
theorem a_Rd_read_246 : dk_at b_Rd_read 246 t_Rd_read_246 := dk_go 3 a_Rd_read_243 rfl
theorem a_Rd_read_249 : dk_at b_Rd_read 249 t_Rd_read_249 := dk_go 3 a_Rd_read_246 rfl
theorem a_Rd_read_250 : dk_at b_Rd_read 250 t_Rd_read_250 := dk_go 1 a_Rd_read_249 rfl
theorem a_Rd_read_253 : dk_at b_Rd_read 253 t_Rd_read_253 := dk_go 3 a_Rd_read_250 rfl
theorem a_Rd_read_256 : dk_at b_Rd_read 256 t_Rd_read_256 := dk_go 3 a_Rd_read_253 rfl
theorem a_Rd_read_258 : dk_at b_Rd_read 258 t_Rd_read_258 := dk_go 2 a_Rd_read_256 rfl
theorem a_Rd_read_260 : dk_at b_Rd_read 260 t_Rd_read_260 := dk_go 2 a_Rd_read_258 rfl
theorem a_Rd_read_261 : dk_at b_Rd_read 261 t_Rd_read_261 := dk_go 1 a_Rd_read_260 rfl
theorem a_Rd_read_263 : dk_at b_Rd_read 263 t_Rd_read_263 := dk_go 2 a_Rd_read_261 rfl
theorem a_Rd_read_265 : dk_at b_Rd_read 265 t_Rd_read_265 := dk_go 2 a_Rd_read_263 rfl
theorem a_Rd_read_268 : dk_at b_Rd_read 268 t_Rd_read_268 := dk_go 3 a_Rd_read_265 rfl
theorem a_Rd_read_271 : dk_at b_Rd_read 271 t_Rd_read_271 := dk_go 3 a_Rd_read_268 rfl
theorem a_Rd_read_272 : dk_at b_Rd_read 272 t_Rd_read_272 := dk_go 1 a_Rd_read_271 rfl
theorem a_Rd_read_275 : dk_at b_Rd_read 275 t_Rd_read_275 := dk_go 3 a_Rd_read_272 rfl
theorem a_Rd_read_278 : dk_at b_Rd_read 278 t_Rd_read_278 := dk_go 3 a_Rd_read_275 rfl
theorem a_Rd_read_279 : dk_at b_Rd_read 279 t_Rd_read_279 := dk_go 1 a_Rd_read_278 rfl
theorem a_Rd_read_282 : dk_at b_Rd_read 282 t_Rd_read_282 := dk_go 3 a_Rd_read_279 rfl
theorem a_Rd_read_285 : dk_at b_Rd_read 285 t_Rd_read_285 := dk_go 3 a_Rd_read_282 rfl
theorem a_Rd_read_287 : dk_at b_Rd_read 287 t_Rd_read_287 := dk_go 2 a_Rd_read_285 rfl
theorem a_Rd_read_289 : dk_at b_Rd_read 289 t_Rd_read_289 := dk_go 2 a_Rd_read_287 rfl
theorem a_Rd_read_292 : dk_at b_Rd_read 292 t_Rd_read_292 := dk_go 3 a_Rd_read_289 rfl
theorem a_Rd_read_293 : dk_at b_Rd_read 293 t_Rd_read_293 := dk_go 1 a_Rd_read_292 rfl
theorem a_Rd_read_296 : dk_at b_Rd_read 296 t_Rd_read_296 := dk_go 3 a_Rd_read_293 rfl
theorem a_Rd_read_297 : dk_at b_Rd_read 297 t_Rd_read_297 := dk_go 1 a_Rd_read_296 rfl
theorem a_Rd_read_300 : dk_at b_Rd_read 300 t_Rd_read_300 := dk_go 3 a_Rd_read_297 rfl
theorem d_Rd_read_0 : decode b_Rd_read 0 = .ok (.aload_n 0, 1) := dk_0 a_Rd_read_0 (dko_42 _)
theorem d_Rd_read_1 : decode b_Rd_read 1 = .ok (.aload_n 1, 1) := dk_0 a_Rd_read_1 (dko_43 _)
theorem d_Rd_read_2 : decode b_Rd_read 2 = .ok (.putfield 40, 3) := dk_U2 a_Rd_read_2 (dko_181 _) rfl
theorem d_Rd_read_5 : decode b_Rd_read 5 = .ok (.aload_n 0, 1) := dk_0 a_Rd_read_5 (dko_42 _)
theorem d_Rd_read_6 : decode b_Rd_read 6 = .ok (.aload_n 2, 1) := dk_0 a_Rd_read_6 (dko_44 _)
theorem d_Rd_read_7 : decode b_Rd_read 7 = .ok (.putfield 44, 3) := dk_U2 a_Rd_read_7 (dko_181 _) rfl
theorem d_Rd_read_10 : decode b_Rd_read 10 = .ok (.aload_n 0, 1) := dk_0 a_Rd_read_10 (dko_42 _)
theorem d_Rd_read_11 : decode b_Rd_read 11 = .ok (.getfield 44, 3) := dk_U2 a_Rd_read_11 (dko_180 _) rfl
theorem d_Rd_read_14 : decode b_Rd_read 14 = .ok (.invokevirtual 48, 3) := dk_U2 a_Rd_read_14 (dko_182 _) rfl
theorem d_Rd_read_17 : decode b_Rd_read 17 = .ok (.aload_n 0, 1) := dk_0 a_Rd_read_17 (dko_42 _)
theorem d_Rd_read_18 : decode b_Rd_read 18 = .ok (.iconst 0, 1) := dk_0 a_Rd_read_18 (dko_3 _)
theorem d_Rd_read_19 : decode b_Rd_read 19 = .ok (.putfield 53, 3) := dk_U2 a_Rd_read_19 (dko_181 _) rfl
theorem d_Rd_read_22 : decode b_Rd_read 22 = .ok (.aload_n 0, 1) := dk_0 a_Rd_read_22 (dko_42 _)
theorem d_Rd_read_23 : decode b_Rd_read 23 = .ok (.iconst 0, 1) := dk_0 a_Rd_read_23 (dko_3 _)
theorem d_Rd_read_24 : decode b_Rd_read 24 = .ok (.putfield 57, 3) := dk_U2 a_Rd_read_24 (dko_181 _) rfl
theorem d_Rd_read_27 : decode b_Rd_read 27 = .ok (.aload_n 0, 1) := dk_0 a_Rd_read_27 (dko_42 _)
theorem d_Rd_read_28 : decode b_Rd_read 28 = .ok (.iconst (-1), 1) := dk_0 a_Rd_read_28 (dko_2 _)
theorem d_Rd_read_29 : decode b_Rd_read 29 = .ok (.putfield 60, 3) := dk_U2 a_Rd_read_29 (dko_181 _) rfl
theorem d_Rd_read_32 : decode b_Rd_read 32 = .ok (.aload_n 0, 1) := dk_0 a_Rd_read_32 (dko_42 _)
theorem d_Rd_read_33 : decode b_Rd_read 33 = .ok (.invokevirtual 63, 3) := dk_U2 a_Rd_read_33 (dko_182 _) rfl
theorem d_Rd_read_36 : decode b_Rd_read 36 = .ok (.iconst 0, 1) := dk_0 a_Rd_read_36 (dko_3 _)
theorem d_Rd_read_37 : decode b_Rd_read 37 = .ok (.istore_n 3, 1) := dk_0 a_Rd_read_37 (dko_62 _)
theorem d_Rd_read_38 : decode b_Rd_read 38 = .ok (.iload_n 3, 1) := dk_0 a_Rd_read_38 (dko_29 _)
theorem d_Rd_read_39 : decode b_Rd_read 39 = .ok (.sipush 4000, 3) := dk_S2 a_Rd_read_39 (dko_17 _) (by decide +kernel)
theorem d_Rd_read_42 : decode b_Rd_read 42 = .ok (.if_icmp .gt 119, 3) := dk_S2 a_Rd_read_42 (dko_163 _) (by decide +kernel)
theorem d_Rd_read_45 : decode b_Rd_read 45 = .ok (.aload_n 0, 1) := dk_0 a_Rd_read_45 (dko_42 _)
theorem d_Rd_read_46 : decode b_Rd_read 46 = .ok (.getfield 60, 3) := dk_U2 a_Rd_read_46 (dko_180 _) rfl
theorem d_Rd_read_49 : decode b_Rd_read 49 = .ok (.ifCond .ge 112, 3) := dk_S2 a_Rd_read_49 (dko_156 _) (by decide +kernel)
theorem d_Rd_read_52 : decode b_Rd_read 52 = .ok (.aload_n 0, 1) := dk_0 a_Rd_read_52 (dko_42 _)
theorem d_Rd_read_53 : decode b_Rd_read 53 = .ok (.getfield 66, 3) := dk_U2 a_Rd_read_53 (dko_180 _) rfl
theorem d_Rd_read_56 : decode b_Rd_read 56 = .ok (.bipush 8, 2) := dk_S1 a_Rd_read_56 (dko_16 _) (by decide +kernel)
theorem d_Rd_read_58 : decode b_Rd_read 58 = .ok (.if_icmp .lt 103, 3) := dk_S2 a_Rd_read_58 (dko_161 _) (by decide +kernel)
theorem d_Rd_read_61 : decode b_Rd_read 61 = .ok (.aload_n 0, 1) := dk_0 a_Rd_read_61 (dko_42 _)
theorem d_Rd_read_62 : decode b_Rd_read 62 = .ok (.getfield 66, 3) := dk_U2 a_Rd_read_62 (dko_180 _) rfl
theorem d_Rd_read_65 : decode b_Rd_read 65 = .ok (.bipush 10, 2) := dk_S1 a_Rd_read_65 (dko_16 _) (by decide +kernel)
theorem d_Rd_read_67 : decode b_Rd_read 67 = .ok (.if_icmp .gt 94, 3) := dk_S2 a_Rd_read_67 (dko_163 _) (by decide +kernel)
theorem d_Rd_read_161 : decode b_Rd_read 161 = .ok (.iconst 0, 1) := dk_0 a_Rd_read_161 (dko_3 _)
theorem d_Rd_read_162 : decode b_Rd_read 162 = .ok (.istore_n 3, 1) := dk_0 a_Rd_read_162 (dko_62 _)
theorem d_Rd_read_163 : decode b_Rd_read 163 = .ok (.iconst 0, 1) := dk_0 a_Rd_read_163 (dko_3 _)
theorem d_Rd_read_164 : decode b_Rd_read 164 = .ok (.istore 4, 2) := dk_U1 a_Rd_read_164 (dko_54 _) rfl
theorem d_Rd_read_166 : decode b_Rd_read 166 = .ok (.iconst (-1), 1) := dk_0 a_Rd_read_166 (dko_2 _)
theorem d_Rd_read_167 : decode b_Rd_read 167 = .ok (.istore 5, 2) := dk_U1 a_Rd_read_167 (dko_54 _) rfl
theorem d_Rd_read_169 : decode b_Rd_read 169 = .ok (.iconst 0, 1) := dk_0 a_Rd_read_169 (dko_3 _)
theorem d_Rd_read_170 : decode b_Rd_read 170 = .ok (.istore 6, 2) := dk_U1 a_Rd_read_170 (dko_54 _) rfl
theorem d_Rd_read_172 : decode b_Rd_read 172 = .ok (.iload 6, 2) := dk_U1 a_Rd_read_172 (dko_21 _) rfl
theorem d_Rd_read_174 : decode b_Rd_read 174 = .ok (.sipush 4000, 3) := dk_S2 a_Rd_read_174 (dko_17 _) (by decide +kernel)
theorem d_Rd_read_177 : decode b_Rd_read 177 = .ok (.if_icmp .gt 94, 3) := dk_S2 a_Rd_read_177 (dko_163 _) (by decide +kernel)
theorem d_Rd_read_180 : decode b_Rd_read 180 = .ok (.aload_n 0, 1) := dk_0 a_Rd_read_180 (dko_42 _)
theorem d_Rd_read_181 : decode b_Rd_read 181 = .ok (.getfield 60, 3) := dk_U2 a_Rd_read_181 (dko_180 _) rfl
theorem d_Rd_read_184 : decode b_Rd_read 184 = .ok (.ifCond .ge 87, 3) := dk_S2 a_Rd_read_184 (dko_156 _) (by decide +kernel)
theorem d_Rd_read_187 : decode b_Rd_read 187 = .ok (.aload_n 0, 1) := dk_0 a_Rd_read_187 (dko_42 _)
theorem d_Rd_read_188 : decode b_Rd_read 188 = .ok (.getfield 66, 3) := dk_U2 a_Rd_read_188 (dko_180 _) rfl
theorem d_Rd_read_191 : decode b_Rd_read 191 = .ok (.bipush 32, 2) := dk_S1 a_Rd_read_191 (dko_16 _) (by decide +kernel)
theorem d_Rd_read_193 : decode b_Rd_read 193 = .ok (.if_icmp .eq 78, 3) := dk_S2 a_Rd_read_193 (dko_159 _) (by decide +kernel)
theorem d_Rd_read_271 : decode b_Rd_read 271 = .ok (.aload_n 0, 1) := dk_0 a_Rd_read_271 (dko_42 _)
theorem d_Rd_read_272 : decode b_Rd_read 272 = .ok (.getfield 60, 3) := dk_U2 a_Rd_read_272 (dko_180 _) rfl
theorem d_Rd_read_275 : decode b_Rd_read 275 = .ok (.ifCond .ge 21, 3) := dk_S2 a_Rd_read_275 (dko_156 _) (by decide +kernel)
theorem d_Rd_read_278 : decode b_Rd_read 278 = .ok (.iload_n 3, 1) := dk_0 a_Rd_read_278 (dko_29 _)
theorem d_Rd_read_279 : decode b_Rd_read 279 = .ok (.sipush 500, 3) := dk_S2 a_Rd_read_279 (dko_17 _) (by decide +kernel)
theorem d_Rd_read_282 : decode b_Rd_read 282 = .ok (.if_icmp .gt 10, 3) := dk_S2 a_Rd_read_282 (dko_163 _) (by decide +kernel)
theorem d_Rd_read_285 : decode b_Rd_read 285 = .ok (.iload 4, 2) := dk_U1 a_Rd_read_285 (dko_21 _) rfl
theorem d_Rd_read_287 : decode b_Rd_read 287 = .ok (.bipush 40, 2) := dk_S1 a_Rd_read_287 (dko_16 _) (by decide +kernel)
theorem d_Rd_read_289 : decode b_Rd_read 289 = .ok (.if_icmp .le 7, 3) := dk_S2 a_Rd_read_289 (dko_164 _) (by decide +kernel)
theorem d_Rd_read_296 : decode b_Rd_read 296 = .ok (.aload_n 0, 1) := dk_0 a_Rd_read_296 (dko_42 _)
theorem d_Rd_read_297 : decode b_Rd_read 297 = .ok (.getfield 60, 3) := dk_U2 a_Rd_read_297 (dko_180 _) rfl
theorem d_Rd_read_300 : decode b_Rd_read 300 = .ok (.ireturn, 1) := dk_0 a_Rd_read_300 (dko_172 _)
set_option maxHeartbeats 4000000 in
set_option maxRecDepth 100000 in
theorem c_Rd_read (l : Launch) (dC : Nat → ClassId) (dI : Nat → Nat → Nat) (cI cB cZ cJ : ClassId) (nn : Int32) (hnn : ¬ 0 < nn) (oRd : Nat) (oG2 : Nat) (oTp : Nat) (xd : List Value) (hrd_tape : fx xd 0 (.null)) (hrd_program : fx xd 1 (.null)) (hrd_at : fx xd 2 (.int 0)) (hrd_word : fx xd 3 (.int 0)) (hrd_place : fx xd 4 (.int 0)) (hrd_open : fx xd 8 (.int 0)) (hrd_wrong : fx xd 9 (.int 0)) (xh : List Value) (hxh_statements : fx xh 0 (.int 0)) (hxh_nodes : fx xh 1 (.int 0)) (hxh_opening : fx xh 2 (.int (-1))) (hxh_names : fx xh 10 (.int 0)) (xt : List Value) (htp_end : fx xt 2 (.int nn)) (sz : Nat) : Met l y_Rd_read w_Rd_read ({ frames := 2, cells := 0, slots := 0, locals := 42 }) (va_Pc [.ref oRd, .ref oTp, .ref oG2] (PW dC dI cI cB cZ cJ [(oRd, .inr (9, xd)), (oG2, .inr (8, xh)), (oTp, .inr (1, xt))] sz)) (va_Qi (fun (r : Int32) (_ : Unit) => r = (-1)) (fun (_ : Unit) (t : State) => ∃ (n_xd : List Value), fx n_xd 0 (.ref oTp) ∧ fx n_xd 1 (.ref oG2) ∧ fx n_xd 2 (.int 0) ∧ fx n_xd 3 (.int 32) ∧ fx n_xd 4 (.int 0) ∧ fx n_xd 9 (.int (-1)) ∧ fx xh 0 (.int 0) ∧ fx xh 1 (.int 0) ∧ fx xh 2 (.int (-1)) ∧ fx xh 10 (.int 0) ∧ fx xt 2 (.int nn) ∧ va_P (dC, dI) classes [(oRd, .inr (9, n_xd)), (oG2, .inr (8, xh)), (oTp, .inr (1, xt))] t.heap ∧ va_D (va_A [(oRd, .inr (9, xd)), (oG2, .inr (8, xh)), (oTp, .inr (1, xt))] sz) [(oRd, .inr (9, n_xd)), (oG2, .inr (8, xh)), (oTp, .inr (1, xt))]) (va_A [(oRd, .inr (9, xd)), (oG2, .inr (8, xh)), (oTp, .inr (1, xt))] sz)) 0 0 (va_A [(oRd, .inr (9, xd)), (oG2, .inr (8, xh)), (oTp, .inr (1, xt))] sz) := by
  refine Met.ofW (cc := b_Rd_read) (maxL := 9) (ret := (some .int)) (by decide) rfl ?_
  intro p e s m args below meth c s₁ B hml hv
  obtain ⟨rfl, hsz, hP, hK, hD⟩ := hv
  have hx := B.exec
  have hb := B.bytes
  have hr := B.returns
  have hts := atoms_spec (ws := w_Rd_read) B.pre
  have hown : s.vm.findClass R_Rd = some m.cls := findClass_of_methodNamed B.named
  have hlocks := B.notSynchronized
  subst hsz
  have hD := hD.self (sz := s.heap.size)
  generalize hAe : va_A [(oRd, .inr (9, xd)), (oG2, .inr (8, xh)), (oTp, .inr (1, xt))] s.heap.size = A at hD ⊢
  have hA : ∀ q : Nat, s.heap.size ≤ q → A q := fun q h => by rw [← hAe]; exact Or.inr h
  have hS : va_S A s.heap s.heap [] := va_S.rf
  have hP : va_P (dC, dI) classes [(oRd, .inr (9, xd)), (oG2, .inr (8, xh)), (oTp, .inr (1, xt))] s.heap := hP
  have hl := lv_entry ([.ref oRd, .ref oTp, .ref oG2]) (n := 9) (Nat.le_of_ble_eq_true rfl)
  rw [lg_entry_eq]
  generalize (lg_sl ([.ref oRd, .ref oTp, .ref oG2]) ++ List.replicate (9 - (lg_sl ([.ref oRd, .ref oTp, .ref oG2])).length) Slot.unset).toArray = ls at hl ⊢
  have hl : lv_has ls 9 [(0, .ref oRd), (1, .ref oTp), (2, .ref oG2)] := hl
  refine lv_aload_n hx hb d_Rd_read_0 rfl (lv_at hl 0 rfl) ?_
  refine lv_aload_n hx hb d_Rd_read_1 rfl (lv_at hl 1 rfl) ?_
  refine va_put (D := (dC, dI)) (ci := 9) (v := .ref oTp) (ty := (.object "BreweryHouse$Tape")) (C := R_Rd) (T := F_Rd) (N := 13) hx hb hts (fun w h => List.mem_cons_of_mem _ (in_Rd w h)) t_Rd t_Rd_ok n_Rd hown hK.1 hP hD hS 0 rfl rfl 0 (by decide) (hts _ (List.mem_cons_of_mem _ mw_636)) (fun _ h9 => h9) rfl (t_Rd_ok 0 (by decide)) rfl rfl (st_lt hrd_tape) d_Rd_read_2 (fun H locs hP hD hS => ?_)
  have g2_2 : fx (xd.set 0 (.ref oTp)) 2 (.int 0) := (st_ne hrd_at (by decide))
  have g2_8 : fx (xd.set 0 (.ref oTp)) 8 (.int 0) := (st_ne hrd_open (by decide))
  have g2_4 : fx (xd.set 0 (.ref oTp)) 4 (.int 0) := (st_ne hrd_place (by decide))
  have g2_1 : fx (xd.set 0 (.ref oTp)) 1 (.null) := (st_ne hrd_program (by decide))
  have g2_0 : fx (xd.set 0 (.ref oTp)) 0 (.ref oTp) := (st_eq hrd_tape)
  have g2_3 : fx (xd.set 0 (.ref oTp)) 3 (.int 0) := (st_ne hrd_word (by decide))
  have g2_9 : fx (xd.set 0 (.ref oTp)) 9 (.int 0) := (st_ne hrd_wrong (by decide))
  have hP : va_P (dC, dI) classes [(oRd, .inr (9, (xd.set 0 (.ref oTp)))), (oG2, .inr (8, xh)), (oTp, .inr (1, xt))] H := hP
  have hD : va_D A [(oRd, .inr (9, (xd.set 0 (.ref oTp)))), (oG2, .inr (8, xh)), (oTp, .inr (1, xt))] := hD
  generalize (xd.set 0 (.ref oTp)) = s2_1 at hP hD g2_2 g2_8 g2_4 g2_1 g2_0 g2_3 g2_9
  refine lv_aload_n hx hb d_Rd_read_5 rfl (lv_at hl 0 rfl) ?_
  refine lv_aload_n hx hb d_Rd_read_6 rfl (lv_at hl 2 rfl) ?_
  refine va_put (D := (dC, dI)) (ci := 9) (v := .ref oG2) (ty := (.object "BreweryHouse$Program")) (C := R_Rd) (T := F_Rd) (N := 13) hx hb hts (fun w h => List.mem_cons_of_mem _ (in_Rd w h)) t_Rd t_Rd_ok n_Rd hown hK.1 hP hD hS 0 rfl rfl 1 (by decide) (hts _ (List.mem_cons_of_mem _ mw_637)) (fun _ h9 => h9) rfl (t_Rd_ok 1 (by decide)) rfl rfl (st_lt g2_1) d_Rd_read_7 (fun H locs hP hD hS => ?_)
  have g7_2 : fx (s2_1.set 1 (.ref oG2)) 2 (.int 0) := (st_ne g2_2 (by decide))
  have g7_8 : fx (s2_1.set 1 (.ref oG2)) 8 (.int 0) := (st_ne g2_8 (by decide))
  have g7_4 : fx (s2_1.set 1 (.ref oG2)) 4 (.int 0) := (st_ne g2_4 (by decide))
  have g7_1 : fx (s2_1.set 1 (.ref oG2)) 1 (.ref oG2) := (st_eq g2_1)
  have g7_0 : fx (s2_1.set 1 (.ref oG2)) 0 (.ref oTp) := (st_ne g2_0 (by decide))
  have g7_3 : fx (s2_1.set 1 (.ref oG2)) 3 (.int 0) := (st_ne g2_3 (by decide))
  have g7_9 : fx (s2_1.set 1 (.ref oG2)) 9 (.int 0) := (st_ne g2_9 (by decide))
  have hP : va_P (dC, dI) classes [(oRd, .inr (9, (s2_1.set 1 (.ref oG2)))), (oG2, .inr (8, xh)), (oTp, .inr (1, xt))] H := hP
  have hD : va_D A [(oRd, .inr (9, (s2_1.set 1 (.ref oG2)))), (oG2, .inr (8, xh)), (oTp, .inr (1, xt))] := hD
  generalize (s2_1.set 1 (.ref oG2)) = s7_2 at hP hD g7_2 g7_8 g7_4 g7_1 g7_0 g7_3 g7_9
  refine lv_aload_n hx hb d_Rd_read_10 rfl (lv_at hl 0 rfl) ?_
  refine va_get (D := (dC, dI)) (ci := 9) (v := .ref oG2) (C := R_Rd) (T := F_Rd) (N := 13) hx hb hts (fun w h => List.mem_cons_of_mem _ (in_Rd w h)) hown hK.1 hP 0 rfl rfl 1 (by decide) (hts _ (List.mem_cons_of_mem _ mw_637)) (fun _ h9 => h9) g7_1 d_Rd_read_11 ?_
  have hPc := hP.sub (ws' := [(oG2, .inr (8, xh))]) [1] rfl
  have hDc := hD.sub (ws' := [(oG2, .inr (8, xh))]) [1] (by decide) rfl
  have hFc := va_free (wc := [(oG2, .inr (8, xh))]) hD hS hA [1] rfl
  refine va_callv (va_runV (C := R_Pr) (As := []) (rest := []) ⟨hx, hb, hml, hown, hts⟩ (c_Pr_clear l dC dI cI cB cZ cJ oG2 xh hxh_statements hxh_nodes hxh_opening hxh_names H.size) (cwV 0 hts (tb_V mw_883 mw_884 mw_885 mw_12 mw_886) rfl rfl rfl ⟨rfl, by decide +kernel, by decide +kernel, by decide +kernel⟩ ⟨(Nat.le_of_ble_eq_true rfl), (Nat.le_of_ble_eq_true rfl)⟩) ⟨pw_blind, va_recv (q := (R_Pr, F_Pr, 18)) hK.1 hP (ci := 8) (q0 := 1) rfl rfl, pw_pre hPc hK hDc⟩ rfl rfl hl.1 rfl (lv_room (Nat.le_of_ble_eq_true rfl)) d_Rd_read_14 ⟨(Nat.le_of_ble_eq_true rfl), (Nat.le_of_ble_eq_true rfl)⟩) hS (fun q _ h => hFc q h) hFc (fun u t H locs ht hvm hw hB hz1 hk1 hS => ?_)
  obtain ⟨k14_3_oG2_0, k14_3_oG2_1, k14_3_oG2_2, k14_3_oG2_10, hP1, hD1⟩ := hB
  rw [ht] at hP1
  obtain ⟨hP, hD⟩ := va_join (wr := [(oRd, .inr (9, s7_2)), (oTp, .inr (1, xt))]) (w1 := [(oG2, .inr (8, xh))]) hP hD [1] [0, 2] rfl rfl (by decide) (by decide) hk1 hFc hP1 hD1
  have hP : va_P (dC, dI) classes [(oRd, .inr (9, s7_2)), (oTp, .inr (1, xt)), (oG2, .inr (8, xh))] H := hP
  have hD : va_D A [(oRd, .inr (9, s7_2)), (oTp, .inr (1, xt)), (oG2, .inr (8, xh))] := hD
  refine lv_aload_n hx hb d_Rd_read_17 rfl (lv_at hl 0 rfl) ?_
  refine lv_iconst (v := 0) hx hb d_Rd_read_18 (by decide) ?_
  refine va_put (D := (dC, dI)) (ci := 9) (v := .int 0) (ty := .int) (C := R_Rd) (T := F_Rd) (N := 13) hx hb hts (fun w h => List.mem_cons_of_mem _ (in_Rd w h)) t_Rd t_Rd_ok n_Rd hown hK.1 hP hD hS 0 rfl rfl 2 (by decide) (hts _ (List.mem_cons_of_mem _ mw_638)) (fun _ h9 => h9) rfl (t_Rd_ok 2 (by decide)) rfl rfl (st_lt g7_2) d_Rd_read_19 (fun H locs hP hD hS => ?_)
  have g19_2 : fx (s7_2.set 2 (.int 0)) 2 (.int 0) := (st_eq g7_2)
  have g19_8 : fx (s7_2.set 2 (.int 0)) 8 (.int 0) := (st_ne g7_8 (by decide))
  have g19_4 : fx (s7_2.set 2 (.int 0)) 4 (.int 0) := (st_ne g7_4 (by decide))
  have g19_1 : fx (s7_2.set 2 (.int 0)) 1 (.ref oG2) := (st_ne g7_1 (by decide))
  have g19_0 : fx (s7_2.set 2 (.int 0)) 0 (.ref oTp) := (st_ne g7_0 (by decide))
  have g19_3 : fx (s7_2.set 2 (.int 0)) 3 (.int 0) := (st_ne g7_3 (by decide))
  have g19_9 : fx (s7_2.set 2 (.int 0)) 9 (.int 0) := (st_ne g7_9 (by decide))
  have hP : va_P (dC, dI) classes [(oRd, .inr (9, (s7_2.set 2 (.int 0)))), (oTp, .inr (1, xt)), (oG2, .inr (8, xh))] H := hP
  have hD : va_D A [(oRd, .inr (9, (s7_2.set 2 (.int 0)))), (oTp, .inr (1, xt)), (oG2, .inr (8, xh))] := hD
  generalize (s7_2.set 2 (.int 0)) = s19_4 at hP hD g19_2 g19_8 g19_4 g19_1 g19_0 g19_3 g19_9
  refine lv_aload_n hx hb d_Rd_read_22 rfl (lv_at hl 0 rfl) ?_
  refine lv_iconst (v := 0) hx hb d_Rd_read_23 (by decide) ?_
  refine va_put (D := (dC, dI)) (ci := 9) (v := .int 0) (ty := .int) (C := R_Rd) (T := F_Rd) (N := 13) hx hb hts (fun w h => List.mem_cons_of_mem _ (in_Rd w h)) t_Rd t_Rd_ok n_Rd hown hK.1 hP hD hS 0 rfl rfl 8 (by decide) (hts _ (List.mem_cons_of_mem _ mw_644)) (fun _ h9 => h9) rfl (t_Rd_ok 8 (by decide)) rfl rfl (st_lt g19_8) d_Rd_read_24 (fun H locs hP hD hS => ?_)
  have g24_2 : fx (s19_4.set 8 (.int 0)) 2 (.int 0) := (st_ne g19_2 (by decide))
  have g24_8 : fx (s19_4.set 8 (.int 0)) 8 (.int 0) := (st_eq g19_8)
  have g24_4 : fx (s19_4.set 8 (.int 0)) 4 (.int 0) := (st_ne g19_4 (by decide))
  have g24_1 : fx (s19_4.set 8 (.int 0)) 1 (.ref oG2) := (st_ne g19_1 (by decide))
  have g24_0 : fx (s19_4.set 8 (.int 0)) 0 (.ref oTp) := (st_ne g19_0 (by decide))
  have g24_3 : fx (s19_4.set 8 (.int 0)) 3 (.int 0) := (st_ne g19_3 (by decide))
  have g24_9 : fx (s19_4.set 8 (.int 0)) 9 (.int 0) := (st_ne g19_9 (by decide))
  have hP : va_P (dC, dI) classes [(oRd, .inr (9, (s19_4.set 8 (.int 0)))), (oTp, .inr (1, xt)), (oG2, .inr (8, xh))] H := hP
  have hD : va_D A [(oRd, .inr (9, (s19_4.set 8 (.int 0)))), (oTp, .inr (1, xt)), (oG2, .inr (8, xh))] := hD
  generalize (s19_4.set 8 (.int 0)) = s24_5 at hP hD g24_2 g24_8 g24_4 g24_1 g24_0 g24_3 g24_9
  refine lv_aload_n hx hb d_Rd_read_27 rfl (lv_at hl 0 rfl) ?_
  refine lv_iconst (v := (-1)) hx hb d_Rd_read_28 (by decide) ?_
  refine va_put (D := (dC, dI)) (ci := 9) (v := .int (-1)) (ty := .int) (C := R_Rd) (T := F_Rd) (N := 13) hx hb hts (fun w h => List.mem_cons_of_mem _ (in_Rd w h)) t_Rd t_Rd_ok n_Rd hown hK.1 hP hD hS 0 rfl rfl 9 (by decide) (hts _ (List.mem_cons_of_mem _ mw_645)) (fun _ h9 => h9) rfl (t_Rd_ok 9 (by decide)) rfl rfl (st_lt g24_9) d_Rd_read_29 (fun H locs hP hD hS => ?_)
  have g29_2 : fx (s24_5.set 9 (.int (-1))) 2 (.int 0) := (st_ne g24_2 (by decide))
  have g29_8 : fx (s24_5.set 9 (.int (-1))) 8 (.int 0) := (st_ne g24_8 (by decide))
  have g29_4 : fx (s24_5.set 9 (.int (-1))) 4 (.int 0) := (st_ne g24_4 (by decide))
  have g29_1 : fx (s24_5.set 9 (.int (-1))) 1 (.ref oG2) := (st_ne g24_1 (by decide))
  have g29_0 : fx (s24_5.set 9 (.int (-1))) 0 (.ref oTp) := (st_ne g24_0 (by decide))
  have g29_3 : fx (s24_5.set 9 (.int (-1))) 3 (.int 0) := (st_ne g24_3 (by decide))
  have g29_9 : fx (s24_5.set 9 (.int (-1))) 9 (.int (-1)) := (st_eq g24_9)
  have hP : va_P (dC, dI) classes [(oRd, .inr (9, (s24_5.set 9 (.int (-1))))), (oTp, .inr (1, xt)), (oG2, .inr (8, xh))] H := hP
  have hD : va_D A [(oRd, .inr (9, (s24_5.set 9 (.int (-1))))), (oTp, .inr (1, xt)), (oG2, .inr (8, xh))] := hD
  generalize (s24_5.set 9 (.int (-1))) = s29_6 at hP hD g29_2 g29_8 g29_4 g29_1 g29_0 g29_3 g29_9
  refine lv_aload_n hx hb d_Rd_read_32 rfl (lv_at hl 0 rfl) ?_
  have hPc := hP.sub (ws' := [(oRd, .inr (9, s29_6)), (oTp, .inr (1, xt))]) [0, 1] rfl
  have hDc := hD.sub (ws' := [(oRd, .inr (9, s29_6)), (oTp, .inr (1, xt))]) [0, 1] (by decide) rfl
  have hFc := va_free (wc := [(oRd, .inr (9, s29_6)), (oTp, .inr (1, xt))]) hD hS hA [0, 1] rfl
  refine va_callv (va_runV (C := R_Rd) (As := []) (rest := []) ⟨hx, hb, hml, hown, hts⟩ (c_Rd_nextWord l dC dI cI cB cZ cJ nn hnn oRd oTp oG2 s29_6 g29_0 g29_1 g29_2 g29_3 g29_4 g29_9 xt htp_end H.size) (cwV 0 hts (tb_V mw_887 mw_889 sl_20 mw_13 mw_890) rfl rfl rfl ⟨rfl, by decide +kernel, by decide +kernel, by decide +kernel⟩ ⟨(Nat.le_of_ble_eq_true rfl), (Nat.le_of_ble_eq_true rfl)⟩) ⟨pw_blind, va_recv (q := (R_Rd, F_Rd, 13)) hK.1 hP (ci := 9) (q0 := 0) rfl rfl, pw_pre hPc hK hDc⟩ rfl rfl hl.1 rfl (lv_room (Nat.le_of_ble_eq_true rfl)) d_Rd_read_33 ⟨(Nat.le_of_ble_eq_true rfl), (Nat.le_of_ble_eq_true rfl)⟩) hS (fun q _ h => hFc q h) hFc (fun u t H locs ht hvm hw hB hz1 hk1 hS => ?_)
  obtain ⟨s33_7_oRd, k33_7_oRd_0, k33_7_oRd_1, k33_7_oRd_2, k33_7_oRd_3, k33_7_oRd_4, k33_7_oRd_9, k33_7_oTp_2, hP1, hD1⟩ := hB
  rw [ht] at hP1
  obtain ⟨hP, hD⟩ := va_join (wr := [(oG2, .inr (8, xh))]) (w1 := [(oRd, .inr (9, s33_7_oRd)), (oTp, .inr (1, xt))]) hP hD [0, 1] [2] rfl rfl (by decide) (by decide) hk1 hFc hP1 hD1
  have hP : va_P (dC, dI) classes [(oG2, .inr (8, xh)), (oRd, .inr (9, s33_7_oRd)), (oTp, .inr (1, xt))] H := hP
  have hD : va_D A [(oG2, .inr (8, xh)), (oRd, .inr (9, s33_7_oRd)), (oTp, .inr (1, xt))] := hD
  refine lv_iconst (v := 0) hx hb d_Rd_read_36 (by decide) ?_
  refine lv_istore_n hx hb d_Rd_read_37 rfl hl (by decide) rfl (fun ls hl => ?_)
  have hl : lv_has ls 9 [(3, .int 0), (0, .ref oRd), (1, .ref oTp), (2, .ref oG2)] := hl
  refine lv_iload_n hx hb d_Rd_read_38 rfl (lv_at hl 0 rfl) ?_
  refine lv_sipush (v := 4000) hx hb d_Rd_read_39 (by decide) ?_
  refine lv_icmp_gt (tgt := 161) hx hb d_Rd_read_42 (by decide) (fun h => absurd h (by decide)) (fun _ => ?_)
  refine lv_aload_n hx hb d_Rd_read_45 rfl (lv_at hl 1 rfl) ?_
  refine va_get (D := (dC, dI)) (ci := 9) (v := .int (-1)) (C := R_Rd) (T := F_Rd) (N := 13) hx hb hts (fun w h => List.mem_cons_of_mem _ (in_Rd w h)) hown hK.1 hP 1 rfl rfl 9 (by decide) (hts _ (List.mem_cons_of_mem _ mw_645)) (fun _ h9 => h9) k33_7_oRd_9 d_Rd_read_46 ?_
  refine lv_if_ge (tgt := 161) hx hb d_Rd_read_49 (by decide) (fun h => absurd h (by decide)) (fun _ => ?_)
  refine lv_aload_n hx hb d_Rd_read_52 rfl (lv_at hl 1 rfl) ?_
  refine va_get (D := (dC, dI)) (ci := 9) (v := .int 32) (C := R_Rd) (T := F_Rd) (N := 13) hx hb hts (fun w h => List.mem_cons_of_mem _ (in_Rd w h)) hown hK.1 hP 1 rfl rfl 3 (by decide) (hts _ (List.mem_cons_of_mem _ mw_639)) (fun _ h9 => h9) k33_7_oRd_3 d_Rd_read_53 ?_
  refine lv_bipush (v := 8) hx hb d_Rd_read_56 (by decide) ?_
  refine lv_icmp_lt (tgt := 161) hx hb d_Rd_read_58 (by decide) (fun h => absurd h (by decide)) (fun _ => ?_)
  refine lv_aload_n hx hb d_Rd_read_61 rfl (lv_at hl 1 rfl) ?_
  refine va_get (D := (dC, dI)) (ci := 9) (v := .int 32) (C := R_Rd) (T := F_Rd) (N := 13) hx hb hts (fun w h => List.mem_cons_of_mem _ (in_Rd w h)) hown hK.1 hP 1 rfl rfl 3 (by decide) (hts _ (List.mem_cons_of_mem _ mw_639)) (fun _ h9 => h9) k33_7_oRd_3 d_Rd_read_62 ?_
  refine lv_bipush (v := 10) hx hb d_Rd_read_65 (by decide) ?_
  refine lv_icmp_gt (tgt := 161) hx hb d_Rd_read_67 (by decide) (fun _ => ?_) (fun h => absurd (by decide) h)
  refine lv_iconst (v := 0) hx hb d_Rd_read_161 (by decide) ?_
  refine lv_istore_n hx hb d_Rd_read_162 rfl hl (by decide) rfl (fun ls hl => ?_)
  have hl : lv_has ls 9 [(3, .int 0), (0, .ref oRd), (1, .ref oTp), (2, .ref oG2)] := hl
  refine lv_iconst (v := 0) hx hb d_Rd_read_163 (by decide) ?_
  refine lv_istore hx hb d_Rd_read_164 hl (by decide) rfl (fun ls hl => ?_)
  have hl : lv_has ls 9 [(4, .int 0), (3, .int 0), (0, .ref oRd), (1, .ref oTp), (2, .ref oG2)] := hl
  refine lv_iconst (v := (-1)) hx hb d_Rd_read_166 (by decide) ?_
  refine lv_istore hx hb d_Rd_read_167 hl (by decide) rfl (fun ls hl => ?_)
  have hl : lv_has ls 9 [(5, .int (-1)), (4, .int 0), (3, .int 0), (0, .ref oRd), (1, .ref oTp), (2, .ref oG2)] := hl
  refine lv_iconst (v := 0) hx hb d_Rd_read_169 (by decide) ?_
  refine lv_istore hx hb d_Rd_read_170 hl (by decide) rfl (fun ls hl => ?_)
  have hl : lv_has ls 9 [(6, .int 0), (5, .int (-1)), (4, .int 0), (3, .int 0), (0, .ref oRd), (1, .ref oTp), (2, .ref oG2)] := hl
  refine lv_iload hx hb d_Rd_read_172 (lv_at hl 0 rfl) ?_
  refine lv_sipush (v := 4000) hx hb d_Rd_read_174 (by decide) ?_
  refine lv_icmp_gt (tgt := 271) hx hb d_Rd_read_177 (by decide) (fun h => absurd h (by decide)) (fun _ => ?_)
  refine lv_aload_n hx hb d_Rd_read_180 rfl (lv_at hl 4 rfl) ?_
  refine va_get (D := (dC, dI)) (ci := 9) (v := .int (-1)) (C := R_Rd) (T := F_Rd) (N := 13) hx hb hts (fun w h => List.mem_cons_of_mem _ (in_Rd w h)) hown hK.1 hP 1 rfl rfl 9 (by decide) (hts _ (List.mem_cons_of_mem _ mw_645)) (fun _ h9 => h9) k33_7_oRd_9 d_Rd_read_181 ?_
  refine lv_if_ge (tgt := 271) hx hb d_Rd_read_184 (by decide) (fun h => absurd h (by decide)) (fun _ => ?_)
  refine lv_aload_n hx hb d_Rd_read_187 rfl (lv_at hl 4 rfl) ?_
  refine va_get (D := (dC, dI)) (ci := 9) (v := .int 32) (C := R_Rd) (T := F_Rd) (N := 13) hx hb hts (fun w h => List.mem_cons_of_mem _ (in_Rd w h)) hown hK.1 hP 1 rfl rfl 3 (by decide) (hts _ (List.mem_cons_of_mem _ mw_639)) (fun _ h9 => h9) k33_7_oRd_3 d_Rd_read_188 ?_
  refine lv_bipush (v := 32) hx hb d_Rd_read_191 (by decide) ?_
  refine lv_icmp_eq (tgt := 271) hx hb d_Rd_read_193 (by decide) (fun _ => ?_) (fun h => absurd (by decide) h)
  refine lv_aload_n hx hb d_Rd_read_271 rfl (lv_at hl 4 rfl) ?_
  refine va_get (D := (dC, dI)) (ci := 9) (v := .int (-1)) (C := R_Rd) (T := F_Rd) (N := 13) hx hb hts (fun w h => List.mem_cons_of_mem _ (in_Rd w h)) hown hK.1 hP 1 rfl rfl 9 (by decide) (hts _ (List.mem_cons_of_mem _ mw_645)) (fun _ h9 => h9) k33_7_oRd_9 d_Rd_read_272 ?_
  refine lv_if_ge (tgt := 296) hx hb d_Rd_read_275 (by decide) (fun h => absurd h (by decide)) (fun _ => ?_)
  refine lv_iload_n hx hb d_Rd_read_278 rfl (lv_at hl 3 rfl) ?_
  refine lv_sipush (v := 500) hx hb d_Rd_read_279 (by decide) ?_
  refine lv_icmp_gt (tgt := 292) hx hb d_Rd_read_282 (by decide) (fun h => absurd h (by decide)) (fun _ => ?_)
  refine lv_iload hx hb d_Rd_read_285 (lv_at hl 2 rfl) ?_
  refine lv_bipush (v := 40) hx hb d_Rd_read_287 (by decide) ?_
  refine lv_icmp_le (tgt := 296) hx hb d_Rd_read_289 (by decide) (fun _ => ?_) (fun h => absurd (by decide) h)
  refine lv_aload_n hx hb d_Rd_read_296 rfl (lv_at hl 4 rfl) ?_
  refine va_get (D := (dC, dI)) (ci := 9) (v := .int (-1)) (C := R_Rd) (T := F_Rd) (N := 13) hx hb hts (fun w h => List.mem_cons_of_mem _ (in_Rd w h)) hown hK.1 hP 1 rfl rfl 9 (by decide) (hts _ (List.mem_cons_of_mem _ mw_645)) (fun _ h9 => h9) k33_7_oRd_9 d_Rd_read_297 ?_
  have hP := hP.sub (ws' := [(oRd, .inr (9, s33_7_oRd)), (oG2, .inr (8, xh)), (oTp, .inr (1, xt))]) [1, 0, 2] rfl
  have hD := hD.sub (ws' := [(oRd, .inr (9, s33_7_oRd)), (oG2, .inr (8, xh)), (oTp, .inr (1, xt))]) [1, 0, 2] (by decide) rfl
  exact W.iret (v := (-1)) hx hb hr (fun t ht hW => ⟨⟨_, (), rfl, (rfl), ⟨s33_7_oRd, k33_7_oRd_0, k33_7_oRd_1, k33_7_oRd_2, k33_7_oRd_3, k33_7_oRd_4, k33_7_oRd_9, hxh_statements, hxh_nodes, hxh_opening, hxh_names, htp_end, by rw [ht]; exact hP, hD⟩⟩, hS.F ht⟩) hS.2.2 d_Rd_read_300
