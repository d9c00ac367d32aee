abbrev b_Tp_put : ByteArray := prog_11_method_3_code
def y_Tp_put : MethodName := ⟨R_Tp, "put", "(I)V"⟩
abbrev w_Tp_put : List Cond := .code y_Tp_put b_Tp_put 3 none :: lw_gd
abbrev b_Bh_feed : ByteArray := prog_1_method_2_code
def y_Bh_feed : MethodName := ⟨R_Bh, "feed", "(IIIII)I"⟩
abbrev w_Bh_feed : List Cond := .code y_Bh_feed b_Bh_feed 6 (some .int) :: lw_gd
abbrev b_Ro_countSecond : ByteArray := prog_7_method_4_code
def y_Ro_countSecond : MethodName := ⟨R_Ro, "countSecond", "()V"⟩
abbrev w_Ro_countSecond : List Cond := .code y_Ro_countSecond b_Ro_countSecond 3 none :: lw_gd
abbrev b_Wa_move : ByteArray := prog_12_method_15_code
def y_Wa_move : MethodName := ⟨R_Wa, "move", "()V"⟩
abbrev w_Wa_move : List Cond := .code y_Wa_move b_Wa_move 3 none :: lw_gd
abbrev b_Wa_closeAll : ByteArray := prog_12_method_13_code
def y_Wa_closeAll : MethodName := ⟨R_Wa, "closeAll", "()V"⟩
abbrev w_Wa_closeAll : List Cond := .code y_Wa_closeAll b_Wa_closeAll 2 none :: lw_gd
abbrev b_Bh_senseAll : ByteArray := prog_1_method_19_code
def y_Bh_senseAll : MethodName := ⟨R_Bh, "senseAll", "()V"⟩
abbrev w_Bh_senseAll : List Cond := .code y_Bh_senseAll b_Bh_senseAll 6 none :: lw_gd
abbrev b_Bh_tick : ByteArray := prog_1_method_18_code
def y_Bh_tick : MethodName := ⟨R_Bh, "tick", "(I)I"⟩
abbrev w_Bh_tick : List Cond := .code y_Bh_tick b_Bh_tick 3 (some .int) :: lw_gd
theorem mw_2 : (.initialized "BreweryHouse$Tape" : Cond) ∈ lw_gd := tb_mem (i := 2) (by decide +kernel) (by decide +kernel)
theorem mw_40 : (.fieldLink "BreweryHouse" 123 "BreweryHouse$Tape" "length" "I" : Cond) ∈ lw_gd := tb_mem (i := 40) (by decide +kernel) (by decide +kernel)
theorem mw_332 : (.fieldLink "BreweryHouse" 177 "BreweryHouse$Rows" "conditions" "I" : Cond) ∈ lw_gd := tb_mem (i := 332) (by decide +kernel) (by decide +kernel)
theorem mw_459 : (.fieldLink "BreweryHouse" 292 "BreweryHouse$Program" "names" "I" : Cond) ∈ lw_gd := tb_mem (i := 459) (by decide +kernel) (by decide +kernel)
theorem mw_684 : (.fieldLink "BreweryHouse" 10 "BreweryHouse" "tape" "LBreweryHouse$Tape;" : Cond) ∈ lw_gd := tb_mem (i := 684) (by decide +kernel) (by decide +kernel)
theorem mw_737 : (.methodLink "BreweryHouse" 115 y_Tp_hasRoom : Cond) ∈ lw_gd := tb_mem (i := 737) (by decide +kernel) (by decide +kernel)
theorem mw_738 : (.instanceMethod y_Tp_hasRoom : Cond) ∈ lw_gd := tb_mem (i := 738) (by decide +kernel) (by decide +kernel)
theorem mw_739 : (.selects "BreweryHouse$Tape" y_Tp_hasRoom y_Tp_hasRoom : Cond) ∈ lw_gd := tb_mem (i := 739) (by decide +kernel) (by decide +kernel)
theorem mw_740 : (.code y_Tp_hasRoom b_Tp_hasRoom 1 (some .boolean) : Cond) ∈ lw_gd := tb_mem (i := 740) (by decide +kernel) (by decide +kernel)
theorem mw_741 : (.methodLink "BreweryHouse" 119 y_Tp_put : Cond) ∈ lw_gd := tb_mem (i := 741) (by decide +kernel) (by decide +kernel)
theorem mw_742 : (.instanceMethod y_Tp_put : Cond) ∈ lw_gd := tb_mem (i := 742) (by decide +kernel) (by decide +kernel)
theorem mw_743 : (.selects "BreweryHouse$Tape" y_Tp_put y_Tp_put : Cond) ∈ lw_gd := tb_mem (i := 743) (by decide +kernel) (by decide +kernel)
theorem mw_744 : (.code y_Tp_put b_Tp_put 3 none : Cond) ∈ lw_gd := tb_mem (i := 744) (by decide +kernel) (by decide +kernel)
theorem mw_1322 : (.methodLink "BreweryHouse" 280 y_Bh_senseAll : Cond) ∈ lw_gd := tb_mem (i := 1322) (by decide +kernel) (by decide +kernel)
theorem mw_1324 : (.instanceMethod y_Bh_senseAll : Cond) ∈ lw_gd := tb_mem (i := 1324) (by decide +kernel) (by decide +kernel)
theorem mw_1325 : (.code y_Bh_senseAll b_Bh_senseAll 6 none : Cond) ∈ lw_gd := tb_mem (i := 1325) (by decide +kernel) (by decide +kernel)
theorem mw_1335 : (.methodLink "BreweryHouse" 283 y_Ro_countSecond : Cond) ∈ lw_gd := tb_mem (i := 1335) (by decide +kernel) (by decide +kernel)
theorem mw_1336 : (.instanceMethod y_Ro_countSecond : Cond) ∈ lw_gd := tb_mem (i := 1336) (by decide +kernel) (by decide +kernel)
theorem mw_1337 : (.selects "BreweryHouse$Rows" y_Ro_countSecond y_Ro_countSecond : Cond) ∈ lw_gd := tb_mem (i := 1337) (by decide +kernel) (by decide +kernel)
theorem mw_1338 : (.code y_Ro_countSecond b_Ro_countSecond 3 none : Cond) ∈ lw_gd := tb_mem (i := 1338) (by decide +kernel) (by decide +kernel)
theorem mw_1434 : (.methodLink "BreweryHouse" 289 y_Wa_move : Cond) ∈ lw_gd := tb_mem (i := 1434) (by decide +kernel) (by decide +kernel)
theorem mw_1435 : (.instanceMethod y_Wa_move : Cond) ∈ lw_gd := tb_mem (i := 1435) (by decide +kernel) (by decide +kernel)
theorem mw_1436 : (.selects "BreweryHouse$Ways" y_Wa_move y_Wa_move : Cond) ∈ lw_gd := tb_mem (i := 1436) (by decide +kernel) (by decide +kernel)
theorem mw_1437 : (.code y_Wa_move b_Wa_move 3 none : Cond) ∈ lw_gd := tb_mem (i := 1437) (by decide +kernel) (by decide +kernel)
theorem sl_62 : (.selects "BreweryHouse" y_Bh_senseAll y_Bh_senseAll : Cond) ∈ lw_gd := List.mem_filter.mpr ⟨List.mem_append_left _ (List.mem_of_getElem? (i := 62) (by decide +kernel)), by decide +kernel⟩
abbrev t_Tp_put_33 : List UInt8 := 177 :: []
abbrev t_Tp_put_30 : List UInt8 := 181 :: 0 :: 15 :: t_Tp_put_33
abbrev t_Tp_put_29 : List UInt8 := 96 :: t_Tp_put_30
abbrev t_Tp_put_28 : List UInt8 := 7 :: t_Tp_put_29
abbrev t_Tp_put_25 : List UInt8 := 180 :: 0 :: 15 :: t_Tp_put_28
abbrev t_Tp_put_24 : List UInt8 := 89 :: t_Tp_put_25
abbrev t_Tp_put_23 : List UInt8 := 42 :: t_Tp_put_24
abbrev t_Tp_put_22 : List UInt8 := 79 :: t_Tp_put_23
abbrev t_Tp_put_21 : List UInt8 := 27 :: t_Tp_put_22
abbrev t_Tp_put_20 : List UInt8 := 28 :: t_Tp_put_21
abbrev t_Tp_put_17 : List UInt8 := 180 :: 0 :: 9 :: t_Tp_put_20
abbrev t_Tp_put_16 : List UInt8 := 42 :: t_Tp_put_17
abbrev t_Tp_put_13 : List UInt8 := 162 :: 0 :: 20 :: t_Tp_put_16
abbrev t_Tp_put_12 : List UInt8 := 190 :: t_Tp_put_13
abbrev t_Tp_put_9 : List UInt8 := 180 :: 0 :: 9 :: t_Tp_put_12
abbrev t_Tp_put_8 : List UInt8 := 42 :: t_Tp_put_9
abbrev t_Tp_put_7 : List UInt8 := 28 :: t_Tp_put_8
abbrev t_Tp_put_6 : List UInt8 := 61 :: t_Tp_put_7
abbrev t_Tp_put_5 : List UInt8 := 122 :: t_Tp_put_6
abbrev t_Tp_put_4 : List UInt8 := 5 :: t_Tp_put_5
abbrev t_Tp_put_1 : List UInt8 := 180 :: 0 :: 15 :: t_Tp_put_4
abbrev t_Tp_put_0 : List UInt8 := 42 :: t_Tp_put_1
theorem a_Tp_put_0 : dk_at b_Tp_put 0 t_Tp_put_0 := dk_start (by decide +kernel)
theorem a_Tp_put_1 : dk_at b_Tp_put 1 t_Tp_put_1 := dk_go 1 a_Tp_put_0 rfl
theorem a_Tp_put_4 : dk_at b_Tp_put 4 t_Tp_put_4 := dk_go 3 a_Tp_put_1 rfl
theorem a_Tp_put_5 : dk_at b_Tp_put 5 t_Tp_put_5 := dk_go 1 a_Tp_put_4 rfl
theorem a_Tp_put_6 : dk_at b_Tp_put 6 t_Tp_put_6 := dk_go 1 a_Tp_put_5 rfl
theorem a_Tp_put_7 : dk_at b_Tp_put 7 t_Tp_put_7 := dk_go 1 a_Tp_put_6 rfl
theorem a_Tp_put_8 : dk_at b_Tp_put 8 t_Tp_put_8 := dk_go 1 a_Tp_put_7 rfl
theorem a_Tp_put_9 : dk_at b_Tp_put 9 t_Tp_put_9 := dk_go 1 a_Tp_put_8 rfl
theorem a_Tp_put_12 : dk_at b_Tp_put 12 t_Tp_put_12 := dk_go 3 a_Tp_put_9 rfl
theorem a_Tp_put_13 : dk_at b_Tp_put 13 t_Tp_put_13 := dk_go 1 a_Tp_put_12 rfl
theorem a_Tp_put_16 : dk_at b_Tp_put 16 t_Tp_put_16 := dk_go 3 a_Tp_put_13 rfl
theorem a_Tp_put_17 : dk_at b_Tp_put 17 t_Tp_put_17 := dk_go 1 a_Tp_put_16 rfl
theorem a_Tp_put_20 : dk_at b_Tp_put 20 t_Tp_put_20 := dk_go 3 a_Tp_put_17 rfl
theorem a_Tp_put_21 : dk_at b_Tp_put 21 t_Tp_put_21 := dk_go 1 a_Tp_put_20 rfl
theorem a_Tp_put_22 : dk_at b_Tp_put 22 t_Tp_put_22 := dk_go 1 a_Tp_put_21 rfl
theorem a_Tp_put_23 : dk_at b_Tp_put 23 t_Tp_put_23 := dk_go 1 a_Tp_put_22 rfl
theorem a_Tp_put_24 : dk_at b_Tp_put 24 t_Tp_put_24 := dk_go 1 a_Tp_put_23 rfl
theorem a_Tp_put_25 : dk_at b_Tp_put 25 t_Tp_put_25 := dk_go 1 a_Tp_put_24 rfl
theorem a_Tp_put_28 : dk_at b_Tp_put 28 t_Tp_put_28 := dk_go 3 a_Tp_put_25 rfl
theorem a_Tp_put_29 : dk_at b_Tp_put 29 t_Tp_put_29 := dk_go 1 a_Tp_put_28 rfl
theorem a_Tp_put_30 : dk_at b_Tp_put 30 t_Tp_put_30 := dk_go 1 a_Tp_put_29 rfl
theorem a_Tp_put_33 : dk_at b_Tp_put 33 t_Tp_put_33 := dk_go 3 a_Tp_put_30 rfl
theorem d_Tp_put_0 : decode b_Tp_put 0 = .ok (.aload_n 0, 1) := dk_0 a_Tp_put_0 (dko_42 _)
theorem d_Tp_put_1 : decode b_Tp_put 1 = .ok (.getfield 15, 3) := dk_U2 a_Tp_put_1 (dko_180 _) rfl
theorem d_Tp_put_4 : decode b_Tp_put 4 = .ok (.iconst 2, 1) := dk_0 a_Tp_put_4 (dko_5 _)
theorem d_Tp_put_5 : decode b_Tp_put 5 = .ok (.ishr, 1) := dk_0 a_Tp_put_5 (dko_122 _)
theorem d_Tp_put_6 : decode b_Tp_put 6 = .ok (.istore_n 2, 1) := dk_0 a_Tp_put_6 (dko_61 _)
theorem d_Tp_put_7 : decode b_Tp_put 7 = .ok (.iload_n 2, 1) := dk_0 a_Tp_put_7 (dko_28 _)
theorem d_Tp_put_8 : decode b_Tp_put 8 = .ok (.aload_n 0, 1) := dk_0 a_Tp_put_8 (dko_42 _)
theorem d_Tp_put_9 : decode b_Tp_put 9 = .ok (.getfield 9, 3) := dk_U2 a_Tp_put_9 (dko_180 _) rfl
theorem d_Tp_put_12 : decode b_Tp_put 12 = .ok (.arraylength, 1) := dk_0 a_Tp_put_12 (dko_190 _)
theorem d_Tp_put_13 : decode b_Tp_put 13 = .ok (.if_icmp .ge 20, 3) := dk_S2 a_Tp_put_13 (dko_162 _) (by decide +kernel)
theorem d_Tp_put_16 : decode b_Tp_put 16 = .ok (.aload_n 0, 1) := dk_0 a_Tp_put_16 (dko_42 _)
theorem d_Tp_put_17 : decode b_Tp_put 17 = .ok (.getfield 9, 3) := dk_U2 a_Tp_put_17 (dko_180 _) rfl
theorem d_Tp_put_20 : decode b_Tp_put 20 = .ok (.iload_n 2, 1) := dk_0 a_Tp_put_20 (dko_28 _)
theorem d_Tp_put_21 : decode b_Tp_put 21 = .ok (.iload_n 1, 1) := dk_0 a_Tp_put_21 (dko_27 _)
theorem d_Tp_put_22 : decode b_Tp_put 22 = .ok (.iastore, 1) := dk_0 a_Tp_put_22 (dko_79 _)
theorem d_Tp_put_23 : decode b_Tp_put 23 = .ok (.aload_n 0, 1) := dk_0 a_Tp_put_23 (dko_42 _)
theorem d_Tp_put_24 : decode b_Tp_put 24 = .ok (.dup, 1) := dk_0 a_Tp_put_24 (dko_89 _)
theorem d_Tp_put_25 : decode b_Tp_put 25 = .ok (.getfield 15, 3) := dk_U2 a_Tp_put_25 (dko_180 _) rfl
theorem d_Tp_put_28 : decode b_Tp_put 28 = .ok (.iconst 4, 1) := dk_0 a_Tp_put_28 (dko_7 _)
theorem d_Tp_put_29 : decode b_Tp_put 29 = .ok (.iadd, 1) := dk_0 a_Tp_put_29 (dko_96 _)
theorem d_Tp_put_30 : decode b_Tp_put 30 = .ok (.putfield 15, 3) := dk_U2 a_Tp_put_30 (dko_181 _) rfl
theorem d_Tp_put_33 : decode b_Tp_put 33 = .ok (.return_, 1) := dk_0 a_Tp_put_33 (dko_177 _)
set_option maxHeartbeats 4000000 in
set_option maxRecDepth 100000 in
theorem c_Tp_put_0 (l : Launch) (dC : Nat → ClassId) (dI : Nat → Nat → Nat) (cI cB cZ cJ : ClassId) (nu : Int32) (oTp : Nat) (xt_cells : Nat) (z_xt_cells : Nat → Int32) (xt : List Value) (htp_cells : fx xt 0 (.ref xt_cells)) (htp_length : fx xt 1 (.int 0)) (sz : Nat) : Met l y_Tp_put w_Tp_put ({ frames := 0, cells := 0, slots := 0, locals := 0 }) (va_Pc [.ref oTp, .int nu] (PW dC dI cI cB cZ cJ [(oTp, .inr (1, xt)), (xt_cells, .inl (cI, 1005, .inl z_xt_cells))] sz)) (va_Qv (fun _ : Unit => True) (fun (_ : Unit) (t : State) => ∃ (n_xt : List Value) (n_xt_cells : Nat → Int32), fx n_xt 0 (.ref xt_cells) ∧ fx n_xt 1 (.int 4) ∧ va_P (dC, dI) classes [(oTp, .inr (1, n_xt)), (xt_cells, .inl (cI, 1005, .inl n_xt_cells))] t.heap ∧ va_D (va_A [(oTp, .inr (1, xt)), (xt_cells, .inl (cI, 1005, .inl z_xt_cells))] sz) [(oTp, .inr (1, n_xt)), (xt_cells, .inl (cI, 1005, .inl n_xt_cells))]) (va_A [(oTp, .inr (1, xt)), (xt_cells, .inl (cI, 1005, .inl z_xt_cells))] sz)) 0 0 (va_A [(oTp, .inr (1, xt)), (xt_cells, .inl (cI, 1005, .inl z_xt_cells))] sz) := by
  refine Met.ofW (cc := b_Tp_put) (maxL := 3) (ret := none) (by decide) rfl ?_
  intro p e s m args below meth c s₁ B hml hv
  obtain ⟨rfl, hsz, hP, hK, hD⟩ := hv
  have hx := B.exec
  have hb := B.bytes
  have hr := B.returns
  have hts := atoms_spec (ws := w_Tp_put) B.pre
  have hown : s.vm.findClass R_Tp = some m.cls := findClass_of_methodNamed B.named
  have hlocks := B.notSynchronized
  subst hsz
  have hD := hD.self (sz := s.heap.size)
  generalize hAe : va_A [(oTp, .inr (1, xt)), (xt_cells, .inl (cI, 1005, .inl z_xt_cells))] s.heap.size = A at hD ⊢
  have hA : ∀ q : Nat, s.heap.size ≤ q → A q := fun q h => by rw [← hAe]; exact Or.inr h
  have hS : va_S A s.heap s.heap [] := va_S.rf
  have hP : va_P (dC, dI) classes [(oTp, .inr (1, xt)), (xt_cells, .inl (cI, 1005, .inl z_xt_cells))] s.heap := hP
  have hl := lv_entry ([.ref oTp, .int nu]) (n := 3) (Nat.le_of_ble_eq_true rfl)
  rw [lg_entry_eq]
  generalize (lg_sl ([.ref oTp, .int nu]) ++ List.replicate (3 - (lg_sl ([.ref oTp, .int nu])).length) Slot.unset).toArray = ls at hl ⊢
  have hl : lv_has ls 3 [(0, .ref oTp), (1, .int nu)] := hl
  refine lv_aload_n hx hb d_Tp_put_0 rfl (lv_at hl 0 rfl) ?_
  refine va_get (D := (dC, dI)) (ci := 1) (v := .int 0) (C := R_Tp) (T := F_Tp) (N := 3) hx hb hts (fun w h => List.mem_cons_of_mem _ (in_Tp w h)) hown hK.1 hP 0 rfl rfl 1 (by decide) (hts _ (List.mem_cons_of_mem _ mw_39)) (fun _ h9 => h9) htp_length d_Tp_put_1 ?_
  refine lv_iconst (v := 2) hx hb d_Tp_put_4 (by decide) ?_
  refine lv_ishr hx hb d_Tp_put_5 ?_
  refine lv_topi (fun x0 e0 => ?_)
  obtain rfl : x0 = 0 := e0.trans (by decide)
  refine lv_istore_n hx hb d_Tp_put_6 rfl hl (by decide) rfl (fun ls hl => ?_)
  have hl : lv_has ls 3 [(2, .int 0), (0, .ref oTp), (1, .int nu)] := hl
  refine lv_iload_n hx hb d_Tp_put_7 rfl (lv_at hl 0 rfl) ?_
  refine lv_aload_n hx hb d_Tp_put_8 rfl (lv_at hl 1 rfl) ?_
  refine va_get (D := (dC, dI)) (ci := 1) (v := .ref xt_cells) (C := R_Tp) (T := F_Tp) (N := 3) hx hb hts (fun w h => List.mem_cons_of_mem _ (in_Tp w h)) hown hK.1 hP 0 rfl rfl 0 (by decide) (hts _ (List.mem_cons_of_mem _ mw_38)) (fun _ h9 => h9) htp_cells d_Tp_put_9 ?_
  refine va_alen hx hb hK.1 hP 1 0 rfl rfl (v := 1005) rfl d_Tp_put_12 ?_
  refine lv_icmp_ge (tgt := 33) hx hb d_Tp_put_13 (by decide) (fun h => absurd h (by decide)) (fun _ => ?_)
  refine lv_aload_n hx hb d_Tp_put_16 rfl (lv_at hl 1 rfl) ?_
  refine va_get (D := (dC, dI)) (ci := 1) (v := .ref xt_cells) (C := R_Tp) (T := F_Tp) (N := 3) hx hb hts (fun w h => List.mem_cons_of_mem _ (in_Tp w h)) hown hK.1 hP 0 rfl rfl 0 (by decide) (hts _ (List.mem_cons_of_mem _ mw_38)) (fun _ h9 => h9) htp_cells d_Tp_put_17 ?_
  refine lv_iload_n hx hb d_Tp_put_20 rfl (lv_at hl 0 rfl) ?_
  refine lv_iload_n hx hb d_Tp_put_21 rfl (lv_at hl 2 rfl) ?_
  refine va_iast hx hb hK.1 hP hD hS 1 0 rfl rfl (vp_in_iff.mpr (by decide)) d_Tp_put_22 (fun H locs hP hD hS => ?_)
  have hP : va_P (dC, dI) classes [(oTp, .inr (1, xt)), (xt_cells, .inl (cI, 1005, .inl ((upd z_xt_cells (0 : Int32).toNatClampNeg nu))))] H := hP
  have hD : va_D A [(oTp, .inr (1, xt)), (xt_cells, .inl (cI, 1005, .inl ((upd z_xt_cells (0 : Int32).toNatClampNeg nu))))] := hD
  generalize (upd z_xt_cells (0 : Int32).toNatClampNeg nu) = f22_1 at hP hD
  refine lv_aload_n hx hb d_Tp_put_23 rfl (lv_at hl 1 rfl) ?_
  refine lv_dup hx hb d_Tp_put_24 rfl ?_
  refine va_get (D := (dC, dI)) (ci := 1) (v := .int 0) (C := R_Tp) (T := F_Tp) (N := 3) hx hb hts (fun w h => List.mem_cons_of_mem _ (in_Tp w h)) hown hK.1 hP 0 rfl rfl 1 (by decide) (hts _ (List.mem_cons_of_mem _ mw_39)) (fun _ h9 => h9) htp_length d_Tp_put_25 ?_
  refine lv_iconst (v := 4) hx hb d_Tp_put_28 (by decide) ?_
  refine lv_iadd hx hb d_Tp_put_29 ?_
  refine lv_topi (fun x0 e0 => ?_)
  obtain rfl : x0 = 4 := e0.trans (by decide)
  refine va_put (D := (dC, dI)) (ci := 1) (v := .int 4) (ty := .int) (C := R_Tp) (T := F_Tp) (N := 3) hx hb hts (fun w h => List.mem_cons_of_mem _ (in_Tp w h)) t_Tp t_Tp_ok n_Tp hown hK.1 hP hD hS 0 rfl rfl 1 (by decide) (hts _ (List.mem_cons_of_mem _ mw_39)) (fun _ h9 => h9) rfl (by decide +kernel) rfl rfl (st_lt htp_length) d_Tp_put_30 (fun H locs hP hD hS => ?_)
  have g30_0 : fx (xt.set 1 (.int 4)) 0 (.ref xt_cells) := (st_ne htp_cells (by decide))
  have g30_1 : fx (xt.set 1 (.int 4)) 1 (.int 4) := (st_eq htp_length)
  have hP : va_P (dC, dI) classes [(oTp, .inr (1, (xt.set 1 (.int 4)))), (xt_cells, .inl (cI, 1005, .inl f22_1))] H := hP
  have hD : va_D A [(oTp, .inr (1, (xt.set 1 (.int 4)))), (xt_cells, .inl (cI, 1005, .inl f22_1))] := hD
  exact W.vret hx hb hr (fun t ht hW => ⟨⟨(), rfl, trivial, ⟨(xt.set 1 (.int 4)), f22_1, g30_0, g30_1, by rw [ht]; exact hP, hD⟩⟩, hS.F ht⟩) hS.2.2 d_Tp_put_33
set_option maxHeartbeats 4000000 in
set_option maxRecDepth 100000 in
theorem c_Tp_put_4 (l : Launch) (dC : Nat → ClassId) (dI : Nat → Nat → Nat) (cI cB cZ cJ : ClassId) (nu : Int32) (oTp : Nat) (xt_cells : Nat) (z_xt_cells : Nat → Int32) (xt : List Value) (htp_cells : fx xt 0 (.ref xt_cells)) (htp_length : fx xt 1 (.int 4)) (sz : Nat) : Met l y_Tp_put w_Tp_put ({ frames := 0, cells := 0, slots := 0, locals := 0 }) (va_Pc [.ref oTp, .int nu] (PW dC dI cI cB cZ cJ [(oTp, .inr (1, xt)), (xt_cells, .inl (cI, 1005, .inl z_xt_cells))] sz)) (va_Qv (fun _ : Unit => True) (fun (_ : Unit) (t : State) => ∃ (n_xt : List Value) (n_xt_cells : Nat → Int32), fx n_xt 0 (.ref xt_cells) ∧ fx n_xt 1 (.int 8) ∧ va_P (dC, dI) classes [(oTp, .inr (1, n_xt)), (xt_cells, .inl (cI, 1005, .inl n_xt_cells))] t.heap ∧ va_D (va_A [(oTp, .inr (1, xt)), (xt_cells, .inl (cI, 1005, .inl z_xt_cells))] sz) [(oTp, .inr (1, n_xt)), (xt_cells, .inl (cI, 1005, .inl n_xt_cells))]) (va_A [(oTp, .inr (1, xt)), (xt_cells, .inl (cI, 1005, .inl z_xt_cells))] sz)) 0 0 (va_A [(oTp, .inr (1, xt)), (xt_cells, .inl (cI, 1005, .inl z_xt_cells))] sz) := by
  refine Met.ofW (cc := b_Tp_put) (maxL := 3) (ret := none) (by decide) rfl ?_
  intro p e s m args below meth c s₁ B hml hv
  obtain ⟨rfl, hsz, hP, hK, hD⟩ := hv
  have hx := B.exec
  have hb := B.bytes
  have hr := B.returns
  have hts := atoms_spec (ws := w_Tp_put) B.pre
  have hown : s.vm.findClass R_Tp = some m.cls := findClass_of_methodNamed B.named
  have hlocks := B.notSynchronized
  subst hsz
  have hD := hD.self (sz := s.heap.size)
  generalize hAe : va_A [(oTp, .inr (1, xt)), (xt_cells, .inl (cI, 1005, .inl z_xt_cells))] s.heap.size = A at hD ⊢
  have hA : ∀ q : Nat, s.heap.size ≤ q → A q := fun q h => by rw [← hAe]; exact Or.inr h
  have hS : va_S A s.heap s.heap [] := va_S.rf
  have hP : va_P (dC, dI) classes [(oTp, .inr (1, xt)), (xt_cells, .inl (cI, 1005, .inl z_xt_cells))] s.heap := hP
  have hl := lv_entry ([.ref oTp, .int nu]) (n := 3) (Nat.le_of_ble_eq_true rfl)
  rw [lg_entry_eq]
  generalize (lg_sl ([.ref oTp, .int nu]) ++ List.replicate (3 - (lg_sl ([.ref oTp, .int nu])).length) Slot.unset).toArray = ls at hl ⊢
  have hl : lv_has ls 3 [(0, .ref oTp), (1, .int nu)] := hl
  refine lv_aload_n hx hb d_Tp_put_0 rfl (lv_at hl 0 rfl) ?_
  refine va_get (D := (dC, dI)) (ci := 1) (v := .int 4) (C := R_Tp) (T := F_Tp) (N := 3) hx hb hts (fun w h => List.mem_cons_of_mem _ (in_Tp w h)) hown hK.1 hP 0 rfl rfl 1 (by decide) (hts _ (List.mem_cons_of_mem _ mw_39)) (fun _ h9 => h9) htp_length d_Tp_put_1 ?_
  refine lv_iconst (v := 2) hx hb d_Tp_put_4 (by decide) ?_
  refine lv_ishr hx hb d_Tp_put_5 ?_
  refine lv_topi (fun x0 e0 => ?_)
  obtain rfl : x0 = 1 := e0.trans (by decide)
  refine lv_istore_n hx hb d_Tp_put_6 rfl hl (by decide) rfl (fun ls hl => ?_)
  have hl : lv_has ls 3 [(2, .int 1), (0, .ref oTp), (1, .int nu)] := hl
  refine lv_iload_n hx hb d_Tp_put_7 rfl (lv_at hl 0 rfl) ?_
  refine lv_aload_n hx hb d_Tp_put_8 rfl (lv_at hl 1 rfl) ?_
  refine va_get (D := (dC, dI)) (ci := 1) (v := .ref xt_cells) (C := R_Tp) (T := F_Tp) (N := 3) hx hb hts (fun w h => List.mem_cons_of_mem _ (in_Tp w h)) hown hK.1 hP 0 rfl rfl 0 (by decide) (hts _ (List.mem_cons_of_mem _ mw_38)) (fun _ h9 => h9) htp_cells d_Tp_put_9 ?_
  refine va_alen hx hb hK.1 hP 1 0 rfl rfl (v := 1005) rfl d_Tp_put_12 ?_
  refine lv_icmp_ge (tgt := 33) hx hb d_Tp_put_13 (by decide) (fun h => absurd h (by decide)) (fun _ => ?_)
  refine lv_aload_n hx hb d_Tp_put_16 rfl (lv_at hl 1 rfl) ?_
  refine va_get (D := (dC, dI)) (ci := 1) (v := .ref xt_cells) (C := R_Tp) (T := F_Tp) (N := 3) hx hb hts (fun w h => List.mem_cons_of_mem _ (in_Tp w h)) hown hK.1 hP 0 rfl rfl 0 (by decide) (hts _ (List.mem_cons_of_mem _ mw_38)) (fun _ h9 => h9) htp_cells d_Tp_put_17 ?_
  refine lv_iload_n hx hb d_Tp_put_20 rfl (lv_at hl 0 rfl) ?_
  refine lv_iload_n hx hb d_Tp_put_21 rfl (lv_at hl 2 rfl) ?_
  refine va_iast hx hb hK.1 hP hD hS 1 0 rfl rfl (vp_in_iff.mpr (by decide)) d_Tp_put_22 (fun H locs hP hD hS => ?_)
  have hP : va_P (dC, dI) classes [(oTp, .inr (1, xt)), (xt_cells, .inl (cI, 1005, .inl ((upd z_xt_cells (1 : Int32).toNatClampNeg nu))))] H := hP
  have hD : va_D A [(oTp, .inr (1, xt)), (xt_cells, .inl (cI, 1005, .inl ((upd z_xt_cells (1 : Int32).toNatClampNeg nu))))] := hD
  generalize (upd z_xt_cells (1 : Int32).toNatClampNeg nu) = f22_1 at hP hD
  refine lv_aload_n hx hb d_Tp_put_23 rfl (lv_at hl 1 rfl) ?_
  refine lv_dup hx hb d_Tp_put_24 rfl ?_
  refine va_get (D := (dC, dI)) (ci := 1) (v := .int 4) (C := R_Tp) (T := F_Tp) (N := 3) hx hb hts (fun w h => List.mem_cons_of_mem _ (in_Tp w h)) hown hK.1 hP 0 rfl rfl 1 (by decide) (hts _ (List.mem_cons_of_mem _ mw_39)) (fun _ h9 => h9) htp_length d_Tp_put_25 ?_
  refine lv_iconst (v := 4) hx hb d_Tp_put_28 (by decide) ?_
  refine lv_iadd hx hb d_Tp_put_29 ?_
  refine lv_topi (fun x0 e0 => ?_)
  obtain rfl : x0 = 8 := e0.trans (by decide)
  refine va_put (D := (dC, dI)) (ci := 1) (v := .int 8) (ty := .int) (C := R_Tp) (T := F_Tp) (N := 3) hx hb hts (fun w h => List.mem_cons_of_mem _ (in_Tp w h)) t_Tp t_Tp_ok n_Tp hown hK.1 hP hD hS 0 rfl rfl 1 (by decide) (hts _ (List.mem_cons_of_mem _ mw_39)) (fun _ h9 => h9) rfl (by decide +kernel) rfl rfl (st_lt htp_length) d_Tp_put_30 (fun H locs hP hD hS => ?_)
  have g30_0 : fx (xt.set 1 (.int 8)) 0 (.ref xt_cells) := (st_ne htp_cells (by decide))
  have g30_1 : fx (xt.set 1 (.int 8)) 1 (.int 8) := (st_eq htp_length)
  have hP : va_P (dC, dI) classes [(oTp, .inr (1, (xt.set 1 (.int 8)))), (xt_cells, .inl (cI, 1005, .inl f22_1))] H := hP
  have hD : va_D A [(oTp, .inr (1, (xt.set 1 (.int 8)))), (xt_cells, .inl (cI, 1005, .inl f22_1))] := hD
  exact W.vret hx hb hr (fun t ht hW => ⟨⟨(), rfl, trivial, ⟨(xt.set 1 (.int 8)), f22_1, g30_0, g30_1, by rw [ht]; exact hP, hD⟩⟩, hS.F ht⟩) hS.2.2 d_Tp_put_33
set_option maxHeartbeats 4000000 in
set_option maxRecDepth 100000 in
theorem c_Tp_put_8 (l : Launch) (dC : Nat → ClassId) (dI : Nat → Nat → Nat) (cI cB cZ cJ : ClassId) (nu : Int32) (oTp : Nat) (xt_cells : Nat) (z_xt_cells : Nat → Int32) (xt : List Value) (htp_cells : fx xt 0 (.ref xt_cells)) (htp_length : fx xt 1 (.int 8)) (sz : Nat) : Met l y_Tp_put w_Tp_put ({ frames := 0, cells := 0, slots := 0, locals := 0 }) (va_Pc [.ref oTp, .int nu] (PW dC dI cI cB cZ cJ [(oTp, .inr (1, xt)), (xt_cells, .inl (cI, 1005, .inl z_xt_cells))] sz)) (va_Qv (fun _ : Unit => True) (fun (_ : Unit) (t : State) => ∃ (n_xt : List Value) (n_xt_cells : Nat → Int32), fx n_xt 0 (.ref xt_cells) ∧ fx n_xt 1 (.int 12) ∧ va_P (dC, dI) classes [(oTp, .inr (1, n_xt)), (xt_cells, .inl (cI, 1005, .inl n_xt_cells))] t.heap ∧ va_D (va_A [(oTp, .inr (1, xt)), (xt_cells, .inl (cI, 1005, .inl z_xt_cells))] sz) [(oTp, .inr (1, n_xt)), (xt_cells, .inl (cI, 1005, .inl n_xt_cells))]) (va_A [(oTp, .inr (1, xt)), (xt_cells, .inl (cI, 1005, .inl z_xt_cells))] sz)) 0 0 (va_A [(oTp, .inr (1, xt)), (xt_cells, .inl (cI, 1005, .inl z_xt_cells))] sz) := by
  refine Met.ofW (cc := b_Tp_put) (maxL := 3) (ret := none) (by decide) rfl ?_
  intro p e s m args below meth c s₁ B hml hv
  obtain ⟨rfl, hsz, hP, hK, hD⟩ := hv
  have hx := B.exec
  have hb := B.bytes
  have hr := B.returns
  have hts := atoms_spec (ws := w_Tp_put) B.pre
  have hown : s.vm.findClass R_Tp = some m.cls := findClass_of_methodNamed B.named
  have hlocks := B.notSynchronized
  subst hsz
  have hD := hD.self (sz := s.heap.size)
  generalize hAe : va_A [(oTp, .inr (1, xt)), (xt_cells, .inl (cI, 1005, .inl z_xt_cells))] s.heap.size = A at hD ⊢
  have hA : ∀ q : Nat, s.heap.size ≤ q → A q := fun q h => by rw [← hAe]; exact Or.inr h
  have hS : va_S A s.heap s.heap [] := va_S.rf
  have hP : va_P (dC, dI) classes [(oTp, .inr (1, xt)), (xt_cells, .inl (cI, 1005, .inl z_xt_cells))] s.heap := hP
  have hl := lv_entry ([.ref oTp, .int nu]) (n := 3) (Nat.le_of_ble_eq_true rfl)
  rw [lg_entry_eq]
  generalize (lg_sl ([.ref oTp, .int nu]) ++ List.replicate (3 - (lg_sl ([.ref oTp, .int nu])).length) Slot.unset).toArray = ls at hl ⊢
  have hl : lv_has ls 3 [(0, .ref oTp), (1, .int nu)] := hl
  refine lv_aload_n hx hb d_Tp_put_0 rfl (lv_at hl 0 rfl) ?_
  refine va_get (D := (dC, dI)) (ci := 1) (v := .int 8) (C := R_Tp) (T := F_Tp) (N := 3) hx hb hts (fun w h => List.mem_cons_of_mem _ (in_Tp w h)) hown hK.1 hP 0 rfl rfl 1 (by decide) (hts _ (List.mem_cons_of_mem _ mw_39)) (fun _ h9 => h9) htp_length d_Tp_put_1 ?_
  refine lv_iconst (v := 2) hx hb d_Tp_put_4 (by decide) ?_
  refine lv_ishr hx hb d_Tp_put_5 ?_
  refine lv_topi (fun x0 e0 => ?_)
  obtain rfl : x0 = 2 := e0.trans (by decide)
  refine lv_istore_n hx hb d_Tp_put_6 rfl hl (by decide) rfl (fun ls hl => ?_)
  have hl : lv_has ls 3 [(2, .int 2), (0, .ref oTp), (1, .int nu)] := hl
  refine lv_iload_n hx hb d_Tp_put_7 rfl (lv_at hl 0 rfl) ?_
  refine lv_aload_n hx hb d_Tp_put_8 rfl (lv_at hl 1 rfl) ?_
  refine va_get (D := (dC, dI)) (ci := 1) (v := .ref xt_cells) (C := R_Tp) (T := F_Tp) (N := 3) hx hb hts (fun w h => List.mem_cons_of_mem _ (in_Tp w h)) hown hK.1 hP 0 rfl rfl 0 (by decide) (hts _ (List.mem_cons_of_mem _ mw_38)) (fun _ h9 => h9) htp_cells d_Tp_put_9 ?_
  refine va_alen hx hb hK.1 hP 1 0 rfl rfl (v := 1005) rfl d_Tp_put_12 ?_
  refine lv_icmp_ge (tgt := 33) hx hb d_Tp_put_13 (by decide) (fun h => absurd h (by decide)) (fun _ => ?_)
  refine lv_aload_n hx hb d_Tp_put_16 rfl (lv_at hl 1 rfl) ?_
  refine va_get (D := (dC, dI)) (ci := 1) (v := .ref xt_cells) (C := R_Tp) (T := F_Tp) (N := 3) hx hb hts (fun w h => List.mem_cons_of_mem _ (in_Tp w h)) hown hK.1 hP 0 rfl rfl 0 (by decide) (hts _ (List.mem_cons_of_mem _ mw_38)) (fun _ h9 => h9) htp_cells d_Tp_put_17 ?_
  refine lv_iload_n hx hb d_Tp_put_20 rfl (lv_at hl 0 rfl) ?_
  refine lv_iload_n hx hb d_Tp_put_21 rfl (lv_at hl 2 rfl) ?_
  refine va_iast hx hb hK.1 hP hD hS 1 0 rfl rfl (vp_in_iff.mpr (by decide)) d_Tp_put_22 (fun H locs hP hD hS => ?_)
  have hP : va_P (dC, dI) classes [(oTp, .inr (1, xt)), (xt_cells, .inl (cI, 1005, .inl ((upd z_xt_cells (2 : Int32).toNatClampNeg nu))))] H := hP
  have hD : va_D A [(oTp, .inr (1, xt)), (xt_cells, .inl (cI, 1005, .inl ((upd z_xt_cells (2 : Int32).toNatClampNeg nu))))] := hD
  generalize (upd z_xt_cells (2 : Int32).toNatClampNeg nu) = f22_1 at hP hD
  refine lv_aload_n hx hb d_Tp_put_23 rfl (lv_at hl 1 rfl) ?_
  refine lv_dup hx hb d_Tp_put_24 rfl ?_
  refine va_get (D := (dC, dI)) (ci := 1) (v := .int 8) (C := R_Tp) (T := F_Tp) (N := 3) hx hb hts (fun w h => List.mem_cons_of_mem _ (in_Tp w h)) hown hK.1 hP 0 rfl rfl 1 (by decide) (hts _ (List.mem_cons_of_mem _ mw_39)) (fun _ h9 => h9) htp_length d_Tp_put_25 ?_
  refine lv_iconst (v := 4) hx hb d_Tp_put_28 (by decide) ?_
  refine lv_iadd hx hb d_Tp_put_29 ?_
  refine lv_topi (fun x0 e0 => ?_)
  obtain rfl : x0 = 12 := e0.trans (by decide)
  refine va_put (D := (dC, dI)) (ci := 1) (v := .int 12) (ty := .int) (C := R_Tp) (T := F_Tp) (N := 3) hx hb hts (fun w h => List.mem_cons_of_mem _ (in_Tp w h)) t_Tp t_Tp_ok n_Tp hown hK.1 hP hD hS 0 rfl rfl 1 (by decide) (hts _ (List.mem_cons_of_mem _ mw_39)) (fun _ h9 => h9) rfl (by decide +kernel) rfl rfl (st_lt htp_length) d_Tp_put_30 (fun H locs hP hD hS => ?_)
  have g30_0 : fx (xt.set 1 (.int 12)) 0 (.ref xt_cells) := (st_ne htp_cells (by decide))
  have g30_1 : fx (xt.set 1 (.int 12)) 1 (.int 12) := (st_eq htp_length)
  have hP : va_P (dC, dI) classes [(oTp, .inr (1, (xt.set 1 (.int 12)))), (xt_cells, .inl (cI, 1005, .inl f22_1))] H := hP
  have hD : va_D A [(oTp, .inr (1, (xt.set 1 (.int 12)))), (xt_cells, .inl (cI, 1005, .inl f22_1))] := hD
  exact W.vret hx hb hr (fun t ht hW => ⟨⟨(), rfl, trivial, ⟨(xt.set 1 (.int 12)), f22_1, g30_0, g30_1, by rw [ht]; exact hP, hD⟩⟩, hS.F ht⟩) hS.2.2 d_Tp_put_33
set_option maxHeartbeats 4000000 in
set_option maxRecDepth 100000 in
theorem c_Tp_put_12 (l : Launch) (dC : Nat → ClassId) (dI : Nat → Nat → Nat) (cI cB cZ cJ : ClassId) (nu : Int32) (oTp : Nat) (xt_cells : Nat) (z_xt_cells : Nat → Int32) (xt : List Value) (htp_cells : fx xt 0 (.ref xt_cells)) (htp_length : fx xt 1 (.int 12)) (sz : Nat) : Met l y_Tp_put w_Tp_put ({ frames := 0, cells := 0, slots := 0, locals := 0 }) (va_Pc [.ref oTp, .int nu] (PW dC dI cI cB cZ cJ [(oTp, .inr (1, xt)), (xt_cells, .inl (cI, 1005, .inl z_xt_cells))] sz)) (va_Qv (fun _ : Unit => True) (fun (_ : Unit) (t : State) => ∃ (n_xt : List Value) (n_xt_cells : Nat → Int32), fx n_xt 0 (.ref xt_cells) ∧ fx n_xt 1 (.int 16) ∧ va_P (dC, dI) classes [(oTp, .inr (1, n_xt)), (xt_cells, .inl (cI, 1005, .inl n_xt_cells))] t.heap ∧ va_D (va_A [(oTp, .inr (1, xt)), (xt_cells, .inl (cI, 1005, .inl z_xt_cells))] sz) [(oTp, .inr (1, n_xt)), (xt_cells, .inl (cI, 1005, .inl n_xt_cells))]) (va_A [(oTp, .inr (1, xt)), (xt_cells, .inl (cI, 1005, .inl z_xt_cells))] sz)) 0 0 (va_A [(oTp, .inr (1, xt)), (xt_cells, .inl (cI, 1005, .inl z_xt_cells))] sz) := by
  refine Met.ofW (cc := b_Tp_put) (maxL := 3) (ret := none) (by decide) rfl ?_
  intro p e s m args below meth c s₁ B hml hv
  obtain ⟨rfl, hsz, hP, hK, hD⟩ := hv
  have hx := B.exec
  have hb := B.bytes
  have hr := B.returns
  have hts := atoms_spec (ws := w_Tp_put) B.pre
  have hown : s.vm.findClass R_Tp = some m.cls := findClass_of_methodNamed B.named
  have hlocks := B.notSynchronized
  subst hsz
  have hD := hD.self (sz := s.heap.size)
  generalize hAe : va_A [(oTp, .inr (1, xt)), (xt_cells, .inl (cI, 1005, .inl z_xt_cells))] s.heap.size = A at hD ⊢
  have hA : ∀ q : Nat, s.heap.size ≤ q → A q := fun q h => by rw [← hAe]; exact Or.inr h
  have hS : va_S A s.heap s.heap [] := va_S.rf
  have hP : va_P (dC, dI) classes [(oTp, .inr (1, xt)), (xt_cells, .inl (cI, 1005, .inl z_xt_cells))] s.heap := hP
  have hl := lv_entry ([.ref oTp, .int nu]) (n := 3) (Nat.le_of_ble_eq_true rfl)
  rw [lg_entry_eq]
  generalize (lg_sl ([.ref oTp, .int nu]) ++ List.replicate (3 - (lg_sl ([.ref oTp, .int nu])).length) Slot.unset).toArray = ls at hl ⊢
  have hl : lv_has ls 3 [(0, .ref oTp), (1, .int nu)] := hl
  refine lv_aload_n hx hb d_Tp_put_0 rfl (lv_at hl 0 rfl) ?_
  refine va_get (D := (dC, dI)) (ci := 1) (v := .int 12) (C := R_Tp) (T := F_Tp) (N := 3) hx hb hts (fun w h => List.mem_cons_of_mem _ (in_Tp w h)) hown hK.1 hP 0 rfl rfl 1 (by decide) (hts _ (List.mem_cons_of_mem _ mw_39)) (fun _ h9 => h9) htp_length d_Tp_put_1 ?_
  refine lv_iconst (v := 2) hx hb d_Tp_put_4 (by decide) ?_
  refine lv_ishr hx hb d_Tp_put_5 ?_
  refine lv_topi (fun x0 e0 => ?_)
  obtain rfl : x0 = 3 := e0.trans (by decide)
  refine lv_istore_n hx hb d_Tp_put_6 rfl hl (by decide) rfl (fun ls hl => ?_)
  have hl : lv_has ls 3 [(2, .int 3), (0, .ref oTp), (1, .int nu)] := hl
  refine lv_iload_n hx hb d_Tp_put_7 rfl (lv_at hl 0 rfl) ?_
  refine lv_aload_n hx hb d_Tp_put_8 rfl (lv_at hl 1 rfl) ?_
  refine va_get (D := (dC, dI)) (ci := 1) (v := .ref xt_cells) (C := R_Tp) (T := F_Tp) (N := 3) hx hb hts (fun w h => List.mem_cons_of_mem _ (in_Tp w h)) hown hK.1 hP 0 rfl rfl 0 (by decide) (hts _ (List.mem_cons_of_mem _ mw_38)) (fun _ h9 => h9) htp_cells d_Tp_put_9 ?_
  refine va_alen hx hb hK.1 hP 1 0 rfl rfl (v := 1005) rfl d_Tp_put_12 ?_
  refine lv_icmp_ge (tgt := 33) hx hb d_Tp_put_13 (by decide) (fun h => absurd h (by decide)) (fun _ => ?_)
  refine lv_aload_n hx hb d_Tp_put_16 rfl (lv_at hl 1 rfl) ?_
  refine va_get (D := (dC, dI)) (ci := 1) (v := .ref xt_cells) (C := R_Tp) (T := F_Tp) (N := 3) hx hb hts (fun w h => List.mem_cons_of_mem _ (in_Tp w h)) hown hK.1 hP 0 rfl rfl 0 (by decide) (hts _ (List.mem_cons_of_mem _ mw_38)) (fun _ h9 => h9) htp_cells d_Tp_put_17 ?_
  refine lv_iload_n hx hb d_Tp_put_20 rfl (lv_at hl 0 rfl) ?_
  refine lv_iload_n hx hb d_Tp_put_21 rfl (lv_at hl 2 rfl) ?_
  refine va_iast hx hb hK.1 hP hD hS 1 0 rfl rfl (vp_in_iff.mpr (by decide)) d_Tp_put_22 (fun H locs hP hD hS => ?_)
  have hP : va_P (dC, dI) classes [(oTp, .inr (1, xt)), (xt_cells, .inl (cI, 1005, .inl ((upd z_xt_cells (3 : Int32).toNatClampNeg nu))))] H := hP
  have hD : va_D A [(oTp, .inr (1, xt)), (xt_cells, .inl (cI, 1005, .inl ((upd z_xt_cells (3 : Int32).toNatClampNeg nu))))] := hD
  generalize (upd z_xt_cells (3 : Int32).toNatClampNeg nu) = f22_1 at hP hD
  refine lv_aload_n hx hb d_Tp_put_23 rfl (lv_at hl 1 rfl) ?_
  refine lv_dup hx hb d_Tp_put_24 rfl ?_
  refine va_get (D := (dC, dI)) (ci := 1) (v := .int 12) (C := R_Tp) (T := F_Tp) (N := 3) hx hb hts (fun w h => List.mem_cons_of_mem _ (in_Tp w h)) hown hK.1 hP 0 rfl rfl 1 (by decide) (hts _ (List.mem_cons_of_mem _ mw_39)) (fun _ h9 => h9) htp_length d_Tp_put_25 ?_
  refine lv_iconst (v := 4) hx hb d_Tp_put_28 (by decide) ?_
  refine lv_iadd hx hb d_Tp_put_29 ?_
  refine lv_topi (fun x0 e0 => ?_)
  obtain rfl : x0 = 16 := e0.trans (by decide)
  refine va_put (D := (dC, dI)) (ci := 1) (v := .int 16) (ty := .int) (C := R_Tp) (T := F_Tp) (N := 3) hx hb hts (fun w h => List.mem_cons_of_mem _ (in_Tp w h)) t_Tp t_Tp_ok n_Tp hown hK.1 hP hD hS 0 rfl rfl 1 (by decide) (hts _ (List.mem_cons_of_mem _ mw_39)) (fun _ h9 => h9) rfl (by decide +kernel) rfl rfl (st_lt htp_length) d_Tp_put_30 (fun H locs hP hD hS => ?_)
  have g30_0 : fx (xt.set 1 (.int 16)) 0 (.ref xt_cells) := (st_ne htp_cells (by decide))
  have g30_1 : fx (xt.set 1 (.int 16)) 1 (.int 16) := (st_eq htp_length)
  have hP : va_P (dC, dI) classes [(oTp, .inr (1, (xt.set 1 (.int 16)))), (xt_cells, .inl (cI, 1005, .inl f22_1))] H := hP
  have hD : va_D A [(oTp, .inr (1, (xt.set 1 (.int 16)))), (xt_cells, .inl (cI, 1005, .inl f22_1))] := hD
  exact W.vret hx hb hr (fun t ht hW => ⟨⟨(), rfl, trivial, ⟨(xt.set 1 (.int 16)), f22_1, g30_0, g30_1, by rw [ht]; exact hP, hD⟩⟩, hS.F ht⟩) hS.2.2 d_Tp_put_33
set_option maxHeartbeats 4000000 in
set_option maxRecDepth 100000 in
theorem c_Tp_put_16 (l : Launch) (dC : Nat → ClassId) (dI : Nat → Nat → Nat) (cI cB cZ cJ : ClassId) (nu : Int32) (oTp : Nat) (xt_cells : Nat) (z_xt_cells : Nat → Int32) (xt : List Value) (htp_cells : fx xt 0 (.ref xt_cells)) (htp_length : fx xt 1 (.int 16)) (sz : Nat) : Met l y_Tp_put w_Tp_put ({ frames := 0, cells := 0, slots := 0, locals := 0 }) (va_Pc [.ref oTp, .int nu] (PW dC dI cI cB cZ cJ [(oTp, .inr (1, xt)), (xt_cells, .inl (cI, 1005, .inl z_xt_cells))] sz)) (va_Qv (fun _ : Unit => True) (fun (_ : Unit) (t : State) => ∃ (n_xt : List Value) (n_xt_cells : Nat → Int32), fx n_xt 0 (.ref xt_cells) ∧ fx n_xt 1 (.int 20) ∧ va_P (dC, dI) classes [(oTp, .inr (1, n_xt)), (xt_cells, .inl (cI, 1005, .inl n_xt_cells))] t.heap ∧ va_D (va_A [(oTp, .inr (1, xt)), (xt_cells, .inl (cI, 1005, .inl z_xt_cells))] sz) [(oTp, .inr (1, n_xt)), (xt_cells, .inl (cI, 1005, .inl n_xt_cells))]) (va_A [(oTp, .inr (1, xt)), (xt_cells, .inl (cI, 1005, .inl z_xt_cells))] sz)) 0 0 (va_A [(oTp, .inr (1, xt)), (xt_cells, .inl (cI, 1005, .inl z_xt_cells))] sz) := by
  refine Met.ofW (cc := b_Tp_put) (maxL := 3) (ret := none) (by decide) rfl ?_
  intro p e s m args below meth c s₁ B hml hv
  obtain ⟨rfl, hsz, hP, hK, hD⟩ := hv
  have hx := B.exec
  have hb := B.bytes
  have hr := B.returns
  have hts := atoms_spec (ws := w_Tp_put) B.pre
  have hown : s.vm.findClass R_Tp = some m.cls := findClass_of_methodNamed B.named
  have hlocks := B.notSynchronized
  subst hsz
  have hD := hD.self (sz := s.heap.size)
  generalize hAe : va_A [(oTp, .inr (1, xt)), (xt_cells, .inl (cI, 1005, .inl z_xt_cells))] s.heap.size = A at hD ⊢
  have hA : ∀ q : Nat, s.heap.size ≤ q → A q := fun q h => by rw [← hAe]; exact Or.inr h
  have hS : va_S A s.heap s.heap [] := va_S.rf
  have hP : va_P (dC, dI) classes [(oTp, .inr (1, xt)), (xt_cells, .inl (cI, 1005, .inl z_xt_cells))] s.heap := hP
  have hl := lv_entry ([.ref oTp, .int nu]) (n := 3) (Nat.le_of_ble_eq_true rfl)
  rw [lg_entry_eq]
  generalize (lg_sl ([.ref oTp, .int nu]) ++ List.replicate (3 - (lg_sl ([.ref oTp, .int nu])).length) Slot.unset).toArray = ls at hl ⊢
  have hl : lv_has ls 3 [(0, .ref oTp), (1, .int nu)] := hl
  refine lv_aload_n hx hb d_Tp_put_0 rfl (lv_at hl 0 rfl) ?_
  refine va_get (D := (dC, dI)) (ci := 1) (v := .int 16) (C := R_Tp) (T := F_Tp) (N := 3) hx hb hts (fun w h => List.mem_cons_of_mem _ (in_Tp w h)) hown hK.1 hP 0 rfl rfl 1 (by decide) (hts _ (List.mem_cons_of_mem _ mw_39)) (fun _ h9 => h9) htp_length d_Tp_put_1 ?_
  refine lv_iconst (v := 2) hx hb d_Tp_put_4 (by decide) ?_
  refine lv_ishr hx hb d_Tp_put_5 ?_
  refine lv_topi (fun x0 e0 => ?_)
  obtain rfl : x0 = 4 := e0.trans (by decide)
  refine lv_istore_n hx hb d_Tp_put_6 rfl hl (by decide) rfl (fun ls hl => ?_)
  have hl : lv_has ls 3 [(2, .int 4), (0, .ref oTp), (1, .int nu)] := hl
  refine lv_iload_n hx hb d_Tp_put_7 rfl (lv_at hl 0 rfl) ?_
  refine lv_aload_n hx hb d_Tp_put_8 rfl (lv_at hl 1 rfl) ?_
  refine va_get (D := (dC, dI)) (ci := 1) (v := .ref xt_cells) (C := R_Tp) (T := F_Tp) (N := 3) hx hb hts (fun w h => List.mem_cons_of_mem _ (in_Tp w h)) hown hK.1 hP 0 rfl rfl 0 (by decide) (hts _ (List.mem_cons_of_mem _ mw_38)) (fun _ h9 => h9) htp_cells d_Tp_put_9 ?_
  refine va_alen hx hb hK.1 hP 1 0 rfl rfl (v := 1005) rfl d_Tp_put_12 ?_
  refine lv_icmp_ge (tgt := 33) hx hb d_Tp_put_13 (by decide) (fun h => absurd h (by decide)) (fun _ => ?_)
  refine lv_aload_n hx hb d_Tp_put_16 rfl (lv_at hl 1 rfl) ?_
  refine va_get (D := (dC, dI)) (ci := 1) (v := .ref xt_cells) (C := R_Tp) (T := F_Tp) (N := 3) hx hb hts (fun w h => List.mem_cons_of_mem _ (in_Tp w h)) hown hK.1 hP 0 rfl rfl 0 (by decide) (hts _ (List.mem_cons_of_mem _ mw_38)) (fun _ h9 => h9) htp_cells d_Tp_put_17 ?_
  refine lv_iload_n hx hb d_Tp_put_20 rfl (lv_at hl 0 rfl) ?_
  refine lv_iload_n hx hb d_Tp_put_21 rfl (lv_at hl 2 rfl) ?_
  refine va_iast hx hb hK.1 hP hD hS 1 0 rfl rfl (vp_in_iff.mpr (by decide)) d_Tp_put_22 (fun H locs hP hD hS => ?_)
  have hP : va_P (dC, dI) classes [(oTp, .inr (1, xt)), (xt_cells, .inl (cI, 1005, .inl ((upd z_xt_cells (4 : Int32).toNatClampNeg nu))))] H := hP
  have hD : va_D A [(oTp, .inr (1, xt)), (xt_cells, .inl (cI, 1005, .inl ((upd z_xt_cells (4 : Int32).toNatClampNeg nu))))] := hD
  generalize (upd z_xt_cells (4 : Int32).toNatClampNeg nu) = f22_1 at hP hD
  refine lv_aload_n hx hb d_Tp_put_23 rfl (lv_at hl 1 rfl) ?_
  refine lv_dup hx hb d_Tp_put_24 rfl ?_
  refine va_get (D := (dC, dI)) (ci := 1) (v := .int 16) (C := R_Tp) (T := F_Tp) (N := 3) hx hb hts (fun w h => List.mem_cons_of_mem _ (in_Tp w h)) hown hK.1 hP 0 rfl rfl 1 (by decide) (hts _ (List.mem_cons_of_mem _ mw_39)) (fun _ h9 => h9) htp_length d_Tp_put_25 ?_
  refine lv_iconst (v := 4) hx hb d_Tp_put_28 (by decide) ?_
  refine lv_iadd hx hb d_Tp_put_29 ?_
  refine lv_topi (fun x0 e0 => ?_)
  obtain rfl : x0 = 20 := e0.trans (by decide)
  refine va_put (D := (dC, dI)) (ci := 1) (v := .int 20) (ty := .int) (C := R_Tp) (T := F_Tp) (N := 3) hx hb hts (fun w h => List.mem_cons_of_mem _ (in_Tp w h)) t_Tp t_Tp_ok n_Tp hown hK.1 hP hD hS 0 rfl rfl 1 (by decide) (hts _ (List.mem_cons_of_mem _ mw_39)) (fun _ h9 => h9) rfl (by decide +kernel) rfl rfl (st_lt htp_length) d_Tp_put_30 (fun H locs hP hD hS => ?_)
  have g30_0 : fx (xt.set 1 (.int 20)) 0 (.ref xt_cells) := (st_ne htp_cells (by decide))
  have g30_1 : fx (xt.set 1 (.int 20)) 1 (.int 20) := (st_eq htp_length)
  have hP : va_P (dC, dI) classes [(oTp, .inr (1, (xt.set 1 (.int 20)))), (xt_cells, .inl (cI, 1005, .inl f22_1))] H := hP
  have hD : va_D A [(oTp, .inr (1, (xt.set 1 (.int 20)))), (xt_cells, .inl (cI, 1005, .inl f22_1))] := hD
  exact W.vret hx hb hr (fun t ht hW => ⟨⟨(), rfl, trivial, ⟨(xt.set 1 (.int 20)), f22_1, g30_0, g30_1, by rw [ht]; exact hP, hD⟩⟩, hS.F ht⟩) hS.2.2 d_Tp_put_33
abbrev t_Bh_feed_62 : List UInt8 := 172 :: []
abbrev t_Bh_feed_59 : List UInt8 := 180 :: 0 :: 123 :: t_Bh_feed_62
abbrev t_Bh_feed_56 : List UInt8 := 180 :: 0 :: 10 :: t_Bh_feed_59
abbrev t_Bh_feed_55 : List UInt8 := 42 :: t_Bh_feed_56
abbrev t_Bh_feed_52 : List UInt8 := 182 :: 0 :: 119 :: t_Bh_feed_55
abbrev t_Bh_feed_50 : List UInt8 := 21 :: 5 :: t_Bh_feed_52
abbrev t_Bh_feed_47 : List UInt8 := 180 :: 0 :: 10 :: t_Bh_feed_50
abbrev t_Bh_feed_46 : List UInt8 := 42 :: t_Bh_feed_47
abbrev t_Bh_feed_43 : List UInt8 := 182 :: 0 :: 119 :: t_Bh_feed_46
abbrev t_Bh_feed_41 : List UInt8 := 21 :: 4 :: t_Bh_feed_43
abbrev t_Bh_feed_38 : List UInt8 := 180 :: 0 :: 10 :: t_Bh_feed_41
abbrev t_Bh_feed_37 : List UInt8 := 42 :: t_Bh_feed_38
abbrev t_Bh_feed_34 : List UInt8 := 182 :: 0 :: 119 :: t_Bh_feed_37
abbrev t_Bh_feed_33 : List UInt8 := 29 :: t_Bh_feed_34
abbrev t_Bh_feed_30 : List UInt8 := 180 :: 0 :: 10 :: t_Bh_feed_33
abbrev t_Bh_feed_29 : List UInt8 := 42 :: t_Bh_feed_30
abbrev t_Bh_feed_26 : List UInt8 := 182 :: 0 :: 119 :: t_Bh_feed_29
abbrev t_Bh_feed_25 : List UInt8 := 28 :: t_Bh_feed_26
abbrev t_Bh_feed_22 : List UInt8 := 180 :: 0 :: 10 :: t_Bh_feed_25
abbrev t_Bh_feed_21 : List UInt8 := 42 :: t_Bh_feed_22
abbrev t_Bh_feed_18 : List UInt8 := 182 :: 0 :: 119 :: t_Bh_feed_21
abbrev t_Bh_feed_17 : List UInt8 := 27 :: t_Bh_feed_18
abbrev t_Bh_feed_14 : List UInt8 := 180 :: 0 :: 10 :: t_Bh_feed_17
abbrev t_Bh_feed_13 : List UInt8 := 42 :: t_Bh_feed_14
abbrev t_Bh_feed_12 : List UInt8 := 172 :: t_Bh_feed_13
abbrev t_Bh_feed_10 : List UInt8 := 16 :: 254 :: t_Bh_feed_12
abbrev t_Bh_feed_7 : List UInt8 := 154 :: 0 :: 6 :: t_Bh_feed_10
abbrev t_Bh_feed_4 : List UInt8 := 182 :: 0 :: 115 :: t_Bh_feed_7
abbrev t_Bh_feed_1 : List UInt8 := 180 :: 0 :: 10 :: t_Bh_feed_4
abbrev t_Bh_feed_0 : List UInt8 := 42 :: t_Bh_feed_1
theorem a_Bh_feed_0 : dk_at b_Bh_feed 0 t_Bh_feed_0 := dk_start (by decide +kernel)
theorem a_Bh_feed_1 : dk_at b_Bh_feed 1 t_Bh_feed_1 := dk_go 1 a_Bh_feed_0 rfl
theorem a_Bh_feed_4 : dk_at b_Bh_feed 4 t_Bh_feed_4 := dk_go 3 a_Bh_feed_1 rfl
theorem a_Bh_feed_7 : dk_at b_Bh_feed 7 t_Bh_feed_7 := dk_go 3 a_Bh_feed_4 rfl
theorem a_Bh_feed_10 : dk_at b_Bh_feed 10 t_Bh_feed_10 := dk_go 3 a_Bh_feed_7 rfl
theorem a_Bh_feed_12 : dk_at b_Bh_feed 12 t_Bh_feed_12 := dk_go 2 a_Bh_feed_10 rfl
theorem a_Bh_feed_13 : dk_at b_Bh_feed 13 t_Bh_feed_13 := dk_go 1 a_Bh_feed_12 rfl
theorem a_Bh_feed_14 : dk_at b_Bh_feed 14 t_Bh_feed_14 := dk_go 1 a_Bh_feed_13 rfl
theorem a_Bh_feed_17 : dk_at b_Bh_feed 17 t_Bh_feed_17 := dk_go 3 a_Bh_feed_14 rfl
theorem a_Bh_feed_18 : dk_at b_Bh_feed 18 t_Bh_feed_18 := dk_go 1 a_Bh_feed_17 rfl
theorem a_Bh_feed_21 : dk_at b_Bh_feed 21 t_Bh_feed_21 := dk_go 3 a_Bh_feed_18 rfl
theorem a_Bh_feed_22 : dk_at b_Bh_feed 22 t_Bh_feed_22 := dk_go 1 a_Bh_feed_21 rfl
theorem a_Bh_feed_25 : dk_at b_Bh_feed 25 t_Bh_feed_25 := dk_go 3 a_Bh_feed_22 rfl
theorem a_Bh_feed_26 : dk_at b_Bh_feed 26 t_Bh_feed_26 := dk_go 1 a_Bh_feed_25 rfl
theorem a_Bh_feed_29 : dk_at b_Bh_feed 29 t_Bh_feed_29 := dk_go 3 a_Bh_feed_26 rfl
theorem a_Bh_feed_30 : dk_at b_Bh_feed 30 t_Bh_feed_30 := dk_go 1 a_Bh_feed_29 rfl
theorem a_Bh_feed_33 : dk_at b_Bh_feed 33 t_Bh_feed_33 := dk_go 3 a_Bh_feed_30 rfl
theorem a_Bh_feed_34 : dk_at b_Bh_feed 34 t_Bh_feed_34 := dk_go 1 a_Bh_feed_33 rfl
theorem a_Bh_feed_37 : dk_at b_Bh_feed 37 t_Bh_feed_37 := dk_go 3 a_Bh_feed_34 rfl
theorem a_Bh_feed_38 : dk_at b_Bh_feed 38 t_Bh_feed_38 := dk_go 1 a_Bh_feed_37 rfl
theorem a_Bh_feed_41 : dk_at b_Bh_feed 41 t_Bh_feed_41 := dk_go 3 a_Bh_feed_38 rfl
theorem a_Bh_feed_43 : dk_at b_Bh_feed 43 t_Bh_feed_43 := dk_go 2 a_Bh_feed_41 rfl
theorem a_Bh_feed_46 : dk_at b_Bh_feed 46 t_Bh_feed_46 := dk_go 3 a_Bh_feed_43 rfl
theorem a_Bh_feed_47 : dk_at b_Bh_feed 47 t_Bh_feed_47 := dk_go 1 a_Bh_feed_46 rfl
theorem a_Bh_feed_50 : dk_at b_Bh_feed 50 t_Bh_feed_50 := dk_go 3 a_Bh_feed_47 rfl
theorem a_Bh_feed_52 : dk_at b_Bh_feed 52 t_Bh_feed_52 := dk_go 2 a_Bh_feed_50 rfl
theorem a_Bh_feed_55 : dk_at b_Bh_feed 55 t_Bh_feed_55 := dk_go 3 a_Bh_feed_52 rfl
theorem a_Bh_feed_56 : dk_at b_Bh_feed 56 t_Bh_feed_56 := dk_go 1 a_Bh_feed_55 rfl
theorem a_Bh_feed_59 : dk_at b_Bh_feed 59 t_Bh_feed_59 := dk_go 3 a_Bh_feed_56 rfl
theorem a_Bh_feed_62 : dk_at b_Bh_feed 62 t_Bh_feed_62 := dk_go 3 a_Bh_feed_59 rfl
theorem d_Bh_feed_0 : decode b_Bh_feed 0 = .ok (.aload_n 0, 1) := dk_0 a_Bh_feed_0 (dko_42 _)
theorem d_Bh_feed_1 : decode b_Bh_feed 1 = .ok (.getfield 10, 3) := dk_U2 a_Bh_feed_1 (dko_180 _) rfl
theorem d_Bh_feed_4 : decode b_Bh_feed 4 = .ok (.invokevirtual 115, 3) := dk_U2 a_Bh_feed_4 (dko_182 _) rfl
theorem d_Bh_feed_7 : decode b_Bh_feed 7 = .ok (.ifCond .ne 6, 3) := dk_S2 a_Bh_feed_7 (dko_154 _) (by decide +kernel)
theorem d_Bh_feed_13 : decode b_Bh_feed 13 = .ok (.aload_n 0, 1) := dk_0 a_Bh_feed_13 (dko_42 _)
theorem d_Bh_feed_14 : decode b_Bh_feed 14 = .ok (.getfield 10, 3) := dk_U2 a_Bh_feed_14 (dko_180 _) rfl
theorem d_Bh_feed_17 : decode b_Bh_feed 17 = .ok (.iload_n 1, 1) := dk_0 a_Bh_feed_17 (dko_27 _)
theorem d_Bh_feed_18 : decode b_Bh_feed 18 = .ok (.invokevirtual 119, 3) := dk_U2 a_Bh_feed_18 (dko_182 _) rfl
theorem d_Bh_feed_21 : decode b_Bh_feed 21 = .ok (.aload_n 0, 1) := dk_0 a_Bh_feed_21 (dko_42 _)
theorem d_Bh_feed_22 : decode b_Bh_feed 22 = .ok (.getfield 10, 3) := dk_U2 a_Bh_feed_22 (dko_180 _) rfl
theorem d_Bh_feed_25 : decode b_Bh_feed 25 = .ok (.iload_n 2, 1) := dk_0 a_Bh_feed_25 (dko_28 _)
theorem d_Bh_feed_26 : decode b_Bh_feed 26 = .ok (.invokevirtual 119, 3) := dk_U2 a_Bh_feed_26 (dko_182 _) rfl
theorem d_Bh_feed_29 : decode b_Bh_feed 29 = .ok (.aload_n 0, 1) := dk_0 a_Bh_feed_29 (dko_42 _)
theorem d_Bh_feed_30 : decode b_Bh_feed 30 = .ok (.getfield 10, 3) := dk_U2 a_Bh_feed_30 (dko_180 _) rfl
theorem d_Bh_feed_33 : decode b_Bh_feed 33 = .ok (.iload_n 3, 1) := dk_0 a_Bh_feed_33 (dko_29 _)
theorem d_Bh_feed_34 : decode b_Bh_feed 34 = .ok (.invokevirtual 119, 3) := dk_U2 a_Bh_feed_34 (dko_182 _) rfl
theorem d_Bh_feed_37 : decode b_Bh_feed 37 = .ok (.aload_n 0, 1) := dk_0 a_Bh_feed_37 (dko_42 _)
theorem d_Bh_feed_38 : decode b_Bh_feed 38 = .ok (.getfield 10, 3) := dk_U2 a_Bh_feed_38 (dko_180 _) rfl
theorem d_Bh_feed_41 : decode b_Bh_feed 41 = .ok (.iload 4, 2) := dk_U1 a_Bh_feed_41 (dko_21 _) rfl
theorem d_Bh_feed_43 : decode b_Bh_feed 43 = .ok (.invokevirtual 119, 3) := dk_U2 a_Bh_feed_43 (dko_182 _) rfl
theorem d_Bh_feed_46 : decode b_Bh_feed 46 = .ok (.aload_n 0, 1) := dk_0 a_Bh_feed_46 (dko_42 _)
theorem d_Bh_feed_47 : decode b_Bh_feed 47 = .ok (.getfield 10, 3) := dk_U2 a_Bh_feed_47 (dko_180 _) rfl
theorem d_Bh_feed_50 : decode b_Bh_feed 50 = .ok (.iload 5, 2) := dk_U1 a_Bh_feed_50 (dko_21 _) rfl
theorem d_Bh_feed_52 : decode b_Bh_feed 52 = .ok (.invokevirtual 119, 3) := dk_U2 a_Bh_feed_52 (dko_182 _) rfl
theorem d_Bh_feed_55 : decode b_Bh_feed 55 = .ok (.aload_n 0, 1) := dk_0 a_Bh_feed_55 (dko_42 _)
theorem d_Bh_feed_56 : decode b_Bh_feed 56 = .ok (.getfield 10, 3) := dk_U2 a_Bh_feed_56 (dko_180 _) rfl
theorem d_Bh_feed_59 : decode b_Bh_feed 59 = .ok (.getfield 123, 3) := dk_U2 a_Bh_feed_59 (dko_180 _) rfl
theorem d_Bh_feed_62 : decode b_Bh_feed 62 = .ok (.ireturn, 1) := dk_0 a_Bh_feed_62 (dko_172 _)
set_option maxHeartbeats 4000000 in
set_option maxRecDepth 100000 in
theorem c_Bh_feed (l : Launch) (dC : Nat → ClassId) (dI : Nat → Nat → Nat) (cI cB cZ cJ : ClassId) (a1 : Int32) (b1 : Int32) (c1 : Int32) (d1 : Int32) (e1 : Int32) (oB : Nat) (oTp : Nat) (xt_cells : Nat) (xb : List Value) (hb_tape : fx xb 0 (.ref oTp)) (xt : List Value) (htp_cells : fx xt 0 (.ref xt_cells)) (htp_length : fx xt 1 (.int 0)) (sz : Nat) : Met l y_Bh_feed w_Bh_feed ({ frames := 1, cells := 0, slots := 0, locals := 22 }) (va_Pc [.ref oB, .int a1, .int b1, .int c1, .int d1, .int e1] (PW dC dI cI cB cZ cJ [(oB, .inr (0, xb)), (oTp, .inr (1, xt)), (xt_cells, .inl (cI, 1005, .inl (fun _ => 0)))] sz)) (va_Qi (fun (r : Int32) (_ : Unit) => r = 20) (fun _ _ => True) (va_A [(oB, .inr (0, xb)), (oTp, .inr (1, xt)), (xt_cells, .inl (cI, 1005, .inl (fun _ => 0)))] sz)) 0 0 (va_A [(oB, .inr (0, xb)), (oTp, .inr (1, xt)), (xt_cells, .inl (cI, 1005, .inl (fun _ => 0)))] sz) := by
  refine Met.ofW (cc := b_Bh_feed) (maxL := 6) (ret := (some .int)) (by decide) rfl ?_
  intro p e s m args below meth c s₁ B hml hv
  obtain ⟨rfl, hsz, hP, hK, hD⟩ := hv
  have hx := B.exec
  have hb := B.bytes
  have hr := B.returns
  have hts := atoms_spec (ws := w_Bh_feed) B.pre
  have hown : s.vm.findClass R_Bh = some m.cls := findClass_of_methodNamed B.named
  have hlocks := B.notSynchronized
  subst hsz
  have hD := hD.self (sz := s.heap.size)
  generalize hAe : va_A [(oB, .inr (0, xb)), (oTp, .inr (1, xt)), (xt_cells, .inl (cI, 1005, .inl (fun _ => 0)))] s.heap.size = A at hD ⊢
  have hA : ∀ q : Nat, s.heap.size ≤ q → A q := fun q h => by rw [← hAe]; exact Or.inr h
  have hS : va_S A s.heap s.heap [] := va_S.rf
  have hP : va_P (dC, dI) classes [(oB, .inr (0, xb)), (oTp, .inr (1, xt)), (xt_cells, .inl (cI, 1005, .inl (fun _ => 0)))] s.heap := hP
  have hl := lv_entry ([.ref oB, .int a1, .int b1, .int c1, .int d1, .int e1]) (n := 6) (Nat.le_of_ble_eq_true rfl)
  rw [lg_entry_eq]
  generalize (lg_sl ([.ref oB, .int a1, .int b1, .int c1, .int d1, .int e1]) ++ List.replicate (6 - (lg_sl ([.ref oB, .int a1, .int b1, .int c1, .int d1, .int e1])).length) Slot.unset).toArray = ls at hl ⊢
  have hl : lv_has ls 6 [(0, .ref oB), (1, .int a1), (2, .int b1), (3, .int c1), (4, .int d1), (5, .int e1)] := hl
  refine lv_aload_n hx hb d_Bh_feed_0 rfl (lv_at hl 0 rfl) ?_
  refine va_get (D := (dC, dI)) (ci := 0) (v := .ref oTp) (C := R_Bh) (T := F_Bh) (N := 16) hx hb hts (fun w h => List.mem_cons_of_mem _ (in_Bh w h)) hown hK.1 hP 0 rfl rfl 0 (by decide) (hts _ (List.mem_cons_of_mem _ mw_684)) (fun _ h9 => h9) hb_tape d_Bh_feed_1 ?_
  have hPc := hP.sub (ws' := [(oTp, .inr (1, xt)), (xt_cells, .inl (cI, 1005, .inl (fun _ => 0)))]) [1, 2] rfl
  have hDc := hD.sub (ws' := [(oTp, .inr (1, xt)), (xt_cells, .inl (cI, 1005, .inl (fun _ => 0)))]) [1, 2] (by decide) rfl
  have hFc := pu_free hS hA
  refine va_calli (va_runV (C := R_Tp) (As := []) (rest := []) ⟨hx, hb, hml, hown, hts⟩ (c_Tp_hasRoom l dC dI cI cB cZ cJ oTp xt_cells xt htp_cells htp_length s.heap.size) (cwV 0 hts (tb_V mw_737 mw_738 mw_739 mw_2 mw_740) rfl rfl rfl ⟨rfl, by decide +kernel, by decide +kernel, by decide +kernel⟩ ⟨(Nat.le_of_ble_eq_true rfl), (Nat.le_of_ble_eq_true rfl)⟩) ⟨pw_blind, va_recv (q := (R_Tp, F_Tp, 3)) hK.1 hP (ci := 1) (q0 := 1) rfl rfl, pw_pre hPc hK hDc⟩ rfl rfl hl.1 rfl (lv_room (Nat.le_of_ble_eq_true rfl)) d_Bh_feed_4 ⟨(Nat.le_of_ble_eq_true rfl), (Nat.le_of_ble_eq_true rfl)⟩) hS (fun q _ h => hFc q h) hFc (fun r u t H locs ht hvm hw hB hz1 hk1 hS => ?_)
  have hP := pu_kept hP hk1
  obtain rfl : r = 1 := hw
  refine lv_if_ne (tgt := 13) hx hb d_Bh_feed_7 (by decide) (fun _ => ?_) (fun h => absurd h (by decide))
  refine lv_aload_n hx hb d_Bh_feed_13 rfl (lv_at hl 0 rfl) ?_
  refine va_get (D := (dC, dI)) (ci := 0) (v := .ref oTp) (C := R_Bh) (T := F_Bh) (N := 16) hx hb hts (fun w h => List.mem_cons_of_mem _ (in_Bh w h)) hown hK.1 hP 0 rfl rfl 0 (by decide) (hts _ (List.mem_cons_of_mem _ mw_684)) (fun _ h9 => h9) hb_tape d_Bh_feed_14 ?_
  refine lv_iload_n hx hb d_Bh_feed_17 rfl (lv_at hl 1 rfl) ?_
  have hPc := hP.sub (ws' := [(oTp, .inr (1, xt)), (xt_cells, .inl (cI, 1005, .inl (fun _ => 0)))]) [1, 2] rfl
  have hDc := hD.sub (ws' := [(oTp, .inr (1, xt)), (xt_cells, .inl (cI, 1005, .inl (fun _ => 0)))]) [1, 2] (by decide) rfl
  have hFc := va_free (wc := [(oTp, .inr (1, xt)), (xt_cells, .inl (cI, 1005, .inl (fun _ => 0)))]) hD hS hA [1, 2] rfl
  refine va_callv (va_runV (C := R_Tp) (As := [.int a1]) (rest := []) ⟨hx, hb, hml, hown, hts⟩ (c_Tp_put_0 l dC dI cI cB cZ cJ a1 oTp xt_cells (fun _ => 0) xt htp_cells htp_length H.size) (cwV 1 hts (tb_V mw_741 mw_742 mw_743 mw_2 mw_744) rfl rfl rfl ⟨rfl, by decide +kernel, by decide +kernel, by decide +kernel⟩ ⟨(Nat.le_of_ble_eq_true rfl), (Nat.le_of_ble_eq_true rfl)⟩) ⟨pw_blind, va_recv (q := (R_Tp, F_Tp, 3)) hK.1 hP (ci := 1) (q0 := 1) rfl rfl, pw_pre hPc hK hDc⟩ rfl rfl hl.1 rfl (lv_room (Nat.le_of_ble_eq_true rfl)) d_Bh_feed_18 ⟨(Nat.le_of_ble_eq_true rfl), (Nat.le_of_ble_eq_true rfl)⟩) hS (fun q _ h => hFc q h) hFc (fun u t H locs ht hvm hw hB hz1 hk1 hS => ?_)
  obtain ⟨s18_1_oTp, f18_1_xt_cells, k18_1_oTp_0, k18_1_oTp_1, hP1, hD1⟩ := hB
  rw [ht] at hP1
  obtain ⟨hP, hD⟩ := va_join (wr := [(oB, .inr (0, xb))]) (w1 := [(oTp, .inr (1, s18_1_oTp)), (xt_cells, .inl (cI, 1005, .inl f18_1_xt_cells))]) hP hD [1, 2] [0] rfl rfl (by decide) (by decide) hk1 hFc hP1 hD1
  have hP : va_P (dC, dI) classes [(oB, .inr (0, xb)), (oTp, .inr (1, s18_1_oTp)), (xt_cells, .inl (cI, 1005, .inl f18_1_xt_cells))] H := hP
  have hD : va_D A [(oB, .inr (0, xb)), (oTp, .inr (1, s18_1_oTp)), (xt_cells, .inl (cI, 1005, .inl f18_1_xt_cells))] := hD
  refine lv_aload_n hx hb d_Bh_feed_21 rfl (lv_at hl 0 rfl) ?_
  refine va_get (D := (dC, dI)) (ci := 0) (v := .ref oTp) (C := R_Bh) (T := F_Bh) (N := 16) hx hb hts (fun w h => List.mem_cons_of_mem _ (in_Bh w h)) hown hK.1 hP 0 rfl rfl 0 (by decide) (hts _ (List.mem_cons_of_mem _ mw_684)) (fun _ h9 => h9) hb_tape d_Bh_feed_22 ?_
  refine lv_iload_n hx hb d_Bh_feed_25 rfl (lv_at hl 2 rfl) ?_
  have hPc := hP.sub (ws' := [(oTp, .inr (1, s18_1_oTp)), (xt_cells, .inl (cI, 1005, .inl f18_1_xt_cells))]) [1, 2] rfl
  have hDc := hD.sub (ws' := [(oTp, .inr (1, s18_1_oTp)), (xt_cells, .inl (cI, 1005, .inl f18_1_xt_cells))]) [1, 2] (by decide) rfl
  have hFc := va_free (wc := [(oTp, .inr (1, s18_1_oTp)), (xt_cells, .inl (cI, 1005, .inl f18_1_xt_cells))]) hD hS hA [1, 2] rfl
  refine va_callv (va_runV (C := R_Tp) (As := [.int b1]) (rest := []) ⟨hx, hb, hml, hown, hts⟩ (c_Tp_put_4 l dC dI cI cB cZ cJ b1 oTp xt_cells f18_1_xt_cells s18_1_oTp k18_1_oTp_0 k18_1_oTp_1 H.size) (cwV 1 hts (tb_V mw_741 mw_742 mw_743 mw_2 mw_744) rfl rfl rfl ⟨rfl, by decide +kernel, by decide +kernel, by decide +kernel⟩ ⟨(Nat.le_of_ble_eq_true rfl), (Nat.le_of_ble_eq_true rfl)⟩) ⟨pw_blind, va_recv (q := (R_Tp, F_Tp, 3)) hK.1 hP (ci := 1) (q0 := 1) rfl rfl, pw_pre hPc hK hDc⟩ rfl rfl hl.1 rfl (lv_room (Nat.le_of_ble_eq_true rfl)) d_Bh_feed_26 ⟨(Nat.le_of_ble_eq_true rfl), (Nat.le_of_ble_eq_true rfl)⟩) hS (fun q _ h => hFc q h) hFc (fun u t H locs ht hvm hw hB hz1 hk1 hS => ?_)
  obtain ⟨s26_2_oTp, f26_2_xt_cells, k26_2_oTp_0, k26_2_oTp_1, hP1, hD1⟩ := hB
  rw [ht] at hP1
  obtain ⟨hP, hD⟩ := va_join (wr := [(oB, .inr (0, xb))]) (w1 := [(oTp, .inr (1, s26_2_oTp)), (xt_cells, .inl (cI, 1005, .inl f26_2_xt_cells))]) hP hD [1, 2] [0] rfl rfl (by decide) (by decide) hk1 hFc hP1 hD1
  have hP : va_P (dC, dI) classes [(oB, .inr (0, xb)), (oTp, .inr (1, s26_2_oTp)), (xt_cells, .inl (cI, 1005, .inl f26_2_xt_cells))] H := hP
  have hD : va_D A [(oB, .inr (0, xb)), (oTp, .inr (1, s26_2_oTp)), (xt_cells, .inl (cI, 1005, .inl f26_2_xt_cells))] := hD
  refine lv_aload_n hx hb d_Bh_feed_29 rfl (lv_at hl 0 rfl) ?_
  refine va_get (D := (dC, dI)) (ci := 0) (v := .ref oTp) (C := R_Bh) (T := F_Bh) (N := 16) hx hb hts (fun w h => List.mem_cons_of_mem _ (in_Bh w h)) hown hK.1 hP 0 rfl rfl 0 (by decide) (hts _ (List.mem_cons_of_mem _ mw_684)) (fun _ h9 => h9) hb_tape d_Bh_feed_30 ?_
  refine lv_iload_n hx hb d_Bh_feed_33 rfl (lv_at hl 3 rfl) ?_
  have hPc := hP.sub (ws' := [(oTp, .inr (1, s26_2_oTp)), (xt_cells, .inl (cI, 1005, .inl f26_2_xt_cells))]) [1, 2] rfl
  have hDc := hD.sub (ws' := [(oTp, .inr (1, s26_2_oTp)), (xt_cells, .inl (cI, 1005, .inl f26_2_xt_cells))]) [1, 2] (by decide) rfl
  have hFc := va_free (wc := [(oTp, .inr (1, s26_2_oTp)), (xt_cells, .inl (cI, 1005, .inl f26_2_xt_cells))]) hD hS hA [1, 2] rfl
  refine va_callv (va_runV (C := R_Tp) (As := [.int c1]) (rest := []) ⟨hx, hb, hml, hown, hts⟩ (c_Tp_put_8 l dC dI cI cB cZ cJ c1 oTp xt_cells f26_2_xt_cells s26_2_oTp k26_2_oTp_0 k26_2_oTp_1 H.size) (cwV 1 hts (tb_V mw_741 mw_742 mw_743 mw_2 mw_744) rfl rfl rfl ⟨rfl, by decide +kernel, by decide +kernel, by decide +kernel⟩ ⟨(Nat.le_of_ble_eq_true rfl), (Nat.le_of_ble_eq_true rfl)⟩) ⟨pw_blind, va_recv (q := (R_Tp, F_Tp, 3)) hK.1 hP (ci := 1) (q0 := 1) rfl rfl, pw_pre hPc hK hDc⟩ rfl rfl hl.1 rfl (lv_room (Nat.le_of_ble_eq_true rfl)) d_Bh_feed_34 ⟨(Nat.le_of_ble_eq_true rfl), (Nat.le_of_ble_eq_true rfl)⟩) hS (fun q _ h => hFc q h) hFc (fun u t H locs ht hvm hw hB hz1 hk1 hS => ?_)
  obtain ⟨s34_3_oTp, f34_3_xt_cells, k34_3_oTp_0, k34_3_oTp_1, hP1, hD1⟩ := hB
  rw [ht] at hP1
  obtain ⟨hP, hD⟩ := va_join (wr := [(oB, .inr (0, xb))]) (w1 := [(oTp, .inr (1, s34_3_oTp)), (xt_cells, .inl (cI, 1005, .inl f34_3_xt_cells))]) hP hD [1, 2] [0] rfl rfl (by decide) (by decide) hk1 hFc hP1 hD1
  have hP : va_P (dC, dI) classes [(oB, .inr (0, xb)), (oTp, .inr (1, s34_3_oTp)), (xt_cells, .inl (cI, 1005, .inl f34_3_xt_cells))] H := hP
  have hD : va_D A [(oB, .inr (0, xb)), (oTp, .inr (1, s34_3_oTp)), (xt_cells, .inl (cI, 1005, .inl f34_3_xt_cells))] := hD
  refine lv_aload_n hx hb d_Bh_feed_37 rfl (lv_at hl 0 rfl) ?_
  refine va_get (D := (dC, dI)) (ci := 0) (v := .ref oTp) (C := R_Bh) (T := F_Bh) (N := 16) hx hb hts (fun w h => List.mem_cons_of_mem _ (in_Bh w h)) hown hK.1 hP 0 rfl rfl 0 (by decide) (hts _ (List.mem_cons_of_mem _ mw_684)) (fun _ h9 => h9) hb_tape d_Bh_feed_38 ?_
  refine lv_iload hx hb d_Bh_feed_41 (lv_at hl 4 rfl) ?_
  have hPc := hP.sub (ws' := [(oTp, .inr (1, s34_3_oTp)), (xt_cells, .inl (cI, 1005, .inl f34_3_xt_cells))]) [1, 2] rfl
  have hDc := hD.sub (ws' := [(oTp, .inr (1, s34_3_oTp)), (xt_cells, .inl (cI, 1005, .inl f34_3_xt_cells))]) [1, 2] (by decide) rfl
  have hFc := va_free (wc := [(oTp, .inr (1, s34_3_oTp)), (xt_cells, .inl (cI, 1005, .inl f34_3_xt_cells))]) hD hS hA [1, 2] rfl
  refine va_callv (va_runV (C := R_Tp) (As := [.int d1]) (rest := []) ⟨hx, hb, hml, hown, hts⟩ (c_Tp_put_12 l dC dI cI cB cZ cJ d1 oTp xt_cells f34_3_xt_cells s34_3_oTp k34_3_oTp_0 k34_3_oTp_1 H.size) (cwV 1 hts (tb_V mw_741 mw_742 mw_743 mw_2 mw_744) rfl rfl rfl ⟨rfl, by decide +kernel, by decide +kernel, by decide +kernel⟩ ⟨(Nat.le_of_ble_eq_true rfl), (Nat.le_of_ble_eq_true rfl)⟩) ⟨pw_blind, va_recv (q := (R_Tp, F_Tp, 3)) hK.1 hP (ci := 1) (q0 := 1) rfl rfl, pw_pre hPc hK hDc⟩ rfl rfl hl.1 rfl (lv_room (Nat.le_of_ble_eq_true rfl)) d_Bh_feed_43 ⟨(Nat.le_of_ble_eq_true rfl), (Nat.le_of_ble_eq_true rfl)⟩) hS (fun q _ h => hFc q h) hFc (fun u t H locs ht hvm hw hB hz1 hk1 hS => ?_)
  obtain ⟨s43_4_oTp, f43_4_xt_cells, k43_4_oTp_0, k43_4_oTp_1, hP1, hD1⟩ := hB
  rw [ht] at hP1
  obtain ⟨hP, hD⟩ := va_join (wr := [(oB, .inr (0, xb))]) (w1 := [(oTp, .inr (1, s43_4_oTp)), (xt_cells, .inl (cI, 1005, .inl f43_4_xt_cells))]) hP hD [1, 2] [0] rfl rfl (by decide) (by decide) hk1 hFc hP1 hD1
  have hP : va_P (dC, dI) classes [(oB, .inr (0, xb)), (oTp, .inr (1, s43_4_oTp)), (xt_cells, .inl (cI, 1005, .inl f43_4_xt_cells))] H := hP
  have hD : va_D A [(oB, .inr (0, xb)), (oTp, .inr (1, s43_4_oTp)), (xt_cells, .inl (cI, 1005, .inl f43_4_xt_cells))] := hD
  refine lv_aload_n hx hb d_Bh_feed_46 rfl (lv_at hl 0 rfl) ?_
  refine va_get (D := (dC, dI)) (ci := 0) (v := .ref oTp) (C := R_Bh) (T := F_Bh) (N := 16) hx hb hts (fun w h => List.mem_cons_of_mem _ (in_Bh w h)) hown hK.1 hP 0 rfl rfl 0 (by decide) (hts _ (List.mem_cons_of_mem _ mw_684)) (fun _ h9 => h9) hb_tape d_Bh_feed_47 ?_
  refine lv_iload hx hb d_Bh_feed_50 (lv_at hl 5 rfl) ?_
  have hPc := hP.sub (ws' := [(oTp, .inr (1, s43_4_oTp)), (xt_cells, .inl (cI, 1005, .inl f43_4_xt_cells))]) [1, 2] rfl
  have hDc := hD.sub (ws' := [(oTp, .inr (1, s43_4_oTp)), (xt_cells, .inl (cI, 1005, .inl f43_4_xt_cells))]) [1, 2] (by decide) rfl
  have hFc := va_free (wc := [(oTp, .inr (1, s43_4_oTp)), (xt_cells, .inl (cI, 1005, .inl f43_4_xt_cells))]) hD hS hA [1, 2] rfl
  refine va_callv (va_runV (C := R_Tp) (As := [.int e1]) (rest := []) ⟨hx, hb, hml, hown, hts⟩ (c_Tp_put_16 l dC dI cI cB cZ cJ e1 oTp xt_cells f43_4_xt_cells s43_4_oTp k43_4_oTp_0 k43_4_oTp_1 H.size) (cwV 1 hts (tb_V mw_741 mw_742 mw_743 mw_2 mw_744) rfl rfl rfl ⟨rfl, by decide +kernel, by decide +kernel, by decide +kernel⟩ ⟨(Nat.le_of_ble_eq_true rfl), (Nat.le_of_ble_eq_true rfl)⟩) ⟨pw_blind, va_recv (q := (R_Tp, F_Tp, 3)) hK.1 hP (ci := 1) (q0 := 1) rfl rfl, pw_pre hPc hK hDc⟩ rfl rfl hl.1 rfl (lv_room (Nat.le_of_ble_eq_true rfl)) d_Bh_feed_52 ⟨(Nat.le_of_ble_eq_true rfl), (Nat.le_of_ble_eq_true rfl)⟩) hS (fun q _ h => hFc q h) hFc (fun u t H locs ht hvm hw hB hz1 hk1 hS => ?_)
  obtain ⟨s52_5_oTp, f52_5_xt_cells, k52_5_oTp_0, k52_5_oTp_1, hP1, hD1⟩ := hB
  rw [ht] at hP1
  obtain ⟨hP, hD⟩ := va_join (wr := [(oB, .inr (0, xb))]) (w1 := [(oTp, .inr (1, s52_5_oTp)), (xt_cells, .inl (cI, 1005, .inl f52_5_xt_cells))]) hP hD [1, 2] [0] rfl rfl (by decide) (by decide) hk1 hFc hP1 hD1
  have hP : va_P (dC, dI) classes [(oB, .inr (0, xb)), (oTp, .inr (1, s52_5_oTp)), (xt_cells, .inl (cI, 1005, .inl f52_5_xt_cells))] H := hP
  have hD : va_D A [(oB, .inr (0, xb)), (oTp, .inr (1, s52_5_oTp)), (xt_cells, .inl (cI, 1005, .inl f52_5_xt_cells))] := hD
  refine lv_aload_n hx hb d_Bh_feed_55 rfl (lv_at hl 0 rfl) ?_
  refine va_get (D := (dC, dI)) (ci := 0) (v := .ref oTp) (C := R_Bh) (T := F_Bh) (N := 16) hx hb hts (fun w h => List.mem_cons_of_mem _ (in_Bh w h)) hown hK.1 hP 0 rfl rfl 0 (by decide) (hts _ (List.mem_cons_of_mem _ mw_684)) (fun _ h9 => h9) hb_tape d_Bh_feed_56 ?_
  refine va_get (D := (dC, dI)) (ci := 1) (v := .int 20) (C := R_Tp) (T := F_Tp) (N := 3) hx hb hts (fun w h => List.mem_cons_of_mem _ (in_Tp w h)) hown hK.1 hP 1 rfl rfl 1 (by decide) (hts _ (List.mem_cons_of_mem _ mw_40)) (fun _ h9 => h9) k52_5_oTp_1 d_Bh_feed_59 ?_
  exact W.iret (v := 20) hx hb hr (fun t ht hW => ⟨⟨_, (), rfl, (rfl), trivial⟩, hS.F ht⟩) hS.2.2 d_Bh_feed_62
abbrev t_Ro_countSecond_103 : List UInt8 := 177 :: []
abbrev t_Ro_countSecond_100 : List UInt8 := 167 :: 255 :: 158 :: t_Ro_countSecond_103
abbrev t_Ro_countSecond_97 : List UInt8 := 132 :: 1 :: 1 :: t_Ro_countSecond_100
abbrev t_Ro_countSecond_96 : List UInt8 := 79 :: t_Ro_countSecond_97
abbrev t_Ro_countSecond_95 : List UInt8 := 100 :: t_Ro_countSecond_96
abbrev t_Ro_countSecond_94 : List UInt8 := 4 :: t_Ro_countSecond_95
abbrev t_Ro_countSecond_93 : List UInt8 := 46 :: t_Ro_countSecond_94
abbrev t_Ro_countSecond_92 : List UInt8 := 92 :: t_Ro_countSecond_93
abbrev t_Ro_countSecond_91 : List UInt8 := 27 :: t_Ro_countSecond_92
abbrev t_Ro_countSecond_88 : List UInt8 := 180 :: 0 :: 19 :: t_Ro_countSecond_91
abbrev t_Ro_countSecond_87 : List UInt8 := 42 :: t_Ro_countSecond_88
abbrev t_Ro_countSecond_84 : List UInt8 := 158 :: 0 :: 13 :: t_Ro_countSecond_87
abbrev t_Ro_countSecond_83 : List UInt8 := 46 :: t_Ro_countSecond_84
abbrev t_Ro_countSecond_82 : List UInt8 := 27 :: t_Ro_countSecond_83
abbrev t_Ro_countSecond_79 : List UInt8 := 180 :: 0 :: 19 :: t_Ro_countSecond_82
abbrev t_Ro_countSecond_78 : List UInt8 := 42 :: t_Ro_countSecond_79
abbrev t_Ro_countSecond_77 : List UInt8 := 84 :: t_Ro_countSecond_78
abbrev t_Ro_countSecond_76 : List UInt8 := 4 :: t_Ro_countSecond_77
abbrev t_Ro_countSecond_75 : List UInt8 := 27 :: t_Ro_countSecond_76
abbrev t_Ro_countSecond_72 : List UInt8 := 180 :: 0 :: 15 :: t_Ro_countSecond_75
abbrev t_Ro_countSecond_71 : List UInt8 := 42 :: t_Ro_countSecond_72
abbrev t_Ro_countSecond_68 : List UInt8 := 161 :: 0 :: 10 :: t_Ro_countSecond_71
abbrev t_Ro_countSecond_67 : List UInt8 := 46 :: t_Ro_countSecond_68
abbrev t_Ro_countSecond_66 : List UInt8 := 27 :: t_Ro_countSecond_67
abbrev t_Ro_countSecond_63 : List UInt8 := 180 :: 0 :: 25 :: t_Ro_countSecond_66
abbrev t_Ro_countSecond_62 : List UInt8 := 42 :: t_Ro_countSecond_63
abbrev t_Ro_countSecond_61 : List UInt8 := 46 :: t_Ro_countSecond_62
abbrev t_Ro_countSecond_60 : List UInt8 := 27 :: t_Ro_countSecond_61
abbrev t_Ro_countSecond_57 : List UInt8 := 180 :: 0 :: 9 :: t_Ro_countSecond_60
abbrev t_Ro_countSecond_56 : List UInt8 := 42 :: t_Ro_countSecond_57
abbrev t_Ro_countSecond_53 : List UInt8 := 153 :: 0 :: 25 :: t_Ro_countSecond_56
abbrev t_Ro_countSecond_52 : List UInt8 := 28 :: t_Ro_countSecond_53
abbrev t_Ro_countSecond_49 : List UInt8 := 153 :: 0 :: 29 :: t_Ro_countSecond_52
abbrev t_Ro_countSecond_48 : List UInt8 := 51 :: t_Ro_countSecond_49
abbrev t_Ro_countSecond_47 : List UInt8 := 27 :: t_Ro_countSecond_48
abbrev t_Ro_countSecond_44 : List UInt8 := 180 :: 0 :: 28 :: t_Ro_countSecond_47
abbrev t_Ro_countSecond_43 : List UInt8 := 42 :: t_Ro_countSecond_44
abbrev t_Ro_countSecond_42 : List UInt8 := 79 :: t_Ro_countSecond_43
abbrev t_Ro_countSecond_41 : List UInt8 := 3 :: t_Ro_countSecond_42
abbrev t_Ro_countSecond_38 : List UInt8 := 167 :: 0 :: 4 :: t_Ro_countSecond_41
abbrev t_Ro_countSecond_35 : List UInt8 := 184 :: 0 :: 51 :: t_Ro_countSecond_38
abbrev t_Ro_countSecond_33 : List UInt8 := 18 :: 50 :: t_Ro_countSecond_35
abbrev t_Ro_countSecond_32 : List UInt8 := 96 :: t_Ro_countSecond_33
abbrev t_Ro_countSecond_31 : List UInt8 := 4 :: t_Ro_countSecond_32
abbrev t_Ro_countSecond_30 : List UInt8 := 46 :: t_Ro_countSecond_31
abbrev t_Ro_countSecond_29 : List UInt8 := 27 :: t_Ro_countSecond_30
abbrev t_Ro_countSecond_26 : List UInt8 := 180 :: 0 :: 9 :: t_Ro_countSecond_29
abbrev t_Ro_countSecond_25 : List UInt8 := 42 :: t_Ro_countSecond_26
abbrev t_Ro_countSecond_22 : List UInt8 := 153 :: 0 :: 19 :: t_Ro_countSecond_25
abbrev t_Ro_countSecond_21 : List UInt8 := 28 :: t_Ro_countSecond_22
abbrev t_Ro_countSecond_20 : List UInt8 := 27 :: t_Ro_countSecond_21
abbrev t_Ro_countSecond_17 : List UInt8 := 180 :: 0 :: 9 :: t_Ro_countSecond_20
abbrev t_Ro_countSecond_16 : List UInt8 := 42 :: t_Ro_countSecond_17
abbrev t_Ro_countSecond_15 : List UInt8 := 61 :: t_Ro_countSecond_16
abbrev t_Ro_countSecond_12 : List UInt8 := 182 :: 0 :: 46 :: t_Ro_countSecond_15
abbrev t_Ro_countSecond_11 : List UInt8 := 27 :: t_Ro_countSecond_12
abbrev t_Ro_countSecond_10 : List UInt8 := 42 :: t_Ro_countSecond_11
abbrev t_Ro_countSecond_7 : List UInt8 := 162 :: 0 :: 96 :: t_Ro_countSecond_10
abbrev t_Ro_countSecond_4 : List UInt8 := 180 :: 0 :: 37 :: t_Ro_countSecond_7
abbrev t_Ro_countSecond_3 : List UInt8 := 42 :: t_Ro_countSecond_4
abbrev t_Ro_countSecond_2 : List UInt8 := 27 :: t_Ro_countSecond_3
abbrev t_Ro_countSecond_1 : List UInt8 := 60 :: t_Ro_countSecond_2
abbrev t_Ro_countSecond_0 : List UInt8 := 3 :: t_Ro_countSecond_1
theorem a_Ro_countSecond_0 : dk_at b_Ro_countSecond 0 t_Ro_countSecond_0 := dk_start (by decide +kernel)
theorem a_Ro_countSecond_1 : dk_at b_Ro_countSecond 1 t_Ro_countSecond_1 := dk_go 1 a_Ro_countSecond_0 rfl
theorem a_Ro_countSecond_2 : dk_at b_Ro_countSecond 2 t_Ro_countSecond_2 := dk_go 1 a_Ro_countSecond_1 rfl
theorem a_Ro_countSecond_3 : dk_at b_Ro_countSecond 3 t_Ro_countSecond_3 := dk_go 1 a_Ro_countSecond_2 rfl
theorem a_Ro_countSecond_4 : dk_at b_Ro_countSecond 4 t_Ro_countSecond_4 := dk_go 1 a_Ro_countSecond_3 rfl
theorem a_Ro_countSecond_7 : dk_at b_Ro_countSecond 7 t_Ro_countSecond_7 := dk_go 3 a_Ro_countSecond_4 rfl
theorem a_Ro_countSecond_10 : dk_at b_Ro_countSecond 10 t_Ro_countSecond_10 := dk_go 3 a_Ro_countSecond_7 rfl
theorem a_Ro_countSecond_11 : dk_at b_Ro_countSecond 11 t_Ro_countSecond_11 := dk_go 1 a_Ro_countSecond_10 rfl
theorem a_Ro_countSecond_12 : dk_at b_Ro_countSecond 12 t_Ro_countSecond_12 := dk_go 1 a_Ro_countSecond_11 rfl
theorem a_Ro_countSecond_15 : dk_at b_Ro_countSecond 15 t_Ro_countSecond_15 := dk_go 3 a_Ro_countSecond_12 rfl
theorem a_Ro_countSecond_16 : dk_at b_Ro_countSecond 16 t_Ro_countSecond_16 := dk_go 1 a_Ro_countSecond_15 rfl
theorem a_Ro_countSecond_17 : dk_at b_Ro_countSecond 17 t_Ro_countSecond_17 := dk_go 1 a_Ro_countSecond_16 rfl
theorem a_Ro_countSecond_20 : dk_at b_Ro_countSecond 20 t_Ro_countSecond_20 := dk_go 3 a_Ro_countSecond_17 rfl
theorem a_Ro_countSecond_21 : dk_at b_Ro_countSecond 21 t_Ro_countSecond_21 := dk_go 1 a_Ro_countSecond_20 rfl
theorem a_Ro_countSecond_22 : dk_at b_Ro_countSecond 22 t_Ro_countSecond_22 := dk_go 1 a_Ro_countSecond_21 rfl
theorem a_Ro_countSecond_25 : dk_at b_Ro_countSecond 25 t_Ro_countSecond_25 := dk_go 3 a_Ro_countSecond_22 rfl
theorem a_Ro_countSecond_26 : dk_at b_Ro_countSecond 26 t_Ro_countSecond_26 := dk_go 1 a_Ro_countSecond_25 rfl
theorem a_Ro_countSecond_29 : dk_at b_Ro_countSecond 29 t_Ro_countSecond_29 := dk_go 3 a_Ro_countSecond_26 rfl
theorem a_Ro_countSecond_30 : dk_at b_Ro_countSecond 30 t_Ro_countSecond_30 := dk_go 1 a_Ro_countSecond_29 rfl
theorem a_Ro_countSecond_31 : dk_at b_Ro_countSecond 31 t_Ro_countSecond_31 := dk_go 1 a_Ro_countSecond_30 rfl
theorem a_Ro_countSecond_32 : dk_at b_Ro_countSecond 32 t_Ro_countSecond_32 := dk_go 1 a_Ro_countSecond_31 rfl
theorem a_Ro_countSecond_33 : dk_at b_Ro_countSecond 33 t_Ro_countSecond_33 := dk_go 1 a_Ro_countSecond_32 rfl
theorem a_Ro_countSecond_35 : dk_at b_Ro_countSecond 35 t_Ro_countSecond_35 := dk_go 2 a_Ro_countSecond_33 rfl
theorem a_Ro_countSecond_38 : dk_at b_Ro_countSecond 38 t_Ro_countSecond_38 := dk_go 3 a_Ro_countSecond_35 rfl
theorem a_Ro_countSecond_41 : dk_at b_Ro_countSecond 41 t_Ro_countSecond_41 := dk_go 3 a_Ro_countSecond_38 rfl
theorem a_Ro_countSecond_42 : dk_at b_Ro_countSecond 42 t_Ro_countSecond_42 := dk_go 1 a_Ro_countSecond_41 rfl
theorem a_Ro_countSecond_43 : dk_at b_Ro_countSecond 43 t_Ro_countSecond_43 := dk_go 1 a_Ro_countSecond_42 rfl
theorem a_Ro_countSecond_44 : dk_at b_Ro_countSecond 44 t_Ro_countSecond_44 := dk_go 1 a_Ro_countSecond_43 rfl
theorem a_Ro_countSecond_47 : dk_at b_Ro_countSecond 47 t_Ro_countSecond_47 := dk_go 3 a_Ro_countSecond_44 rfl
theorem a_Ro_countSecond_48 : dk_at b_Ro_countSecond 48 t_Ro_countSecond_48 := dk_go 1 a_Ro_countSecond_47 rfl
theorem a_Ro_countSecond_49 : dk_at b_Ro_countSecond 49 t_Ro_countSecond_49 := dk_go 1 a_Ro_countSecond_48 rfl
theorem a_Ro_countSecond_52 : dk_at b_Ro_countSecond 52 t_Ro_countSecond_52 := dk_go 3 a_Ro_countSecond_49 rfl
theorem a_Ro_countSecond_53 : dk_at b_Ro_countSecond 53 t_Ro_countSecond_53 := dk_go 1 a_Ro_countSecond_52 rfl
theorem a_Ro_countSecond_56 : dk_at b_Ro_countSecond 56 t_Ro_countSecond_56 := dk_go 3 a_Ro_countSecond_53 rfl
theorem a_Ro_countSecond_57 : dk_at b_Ro_countSecond 57 t_Ro_countSecond_57 := dk_go 1 a_Ro_countSecond_56 rfl
theorem a_Ro_countSecond_60 : dk_at b_Ro_countSecond 60 t_Ro_countSecond_60 := dk_go 3 a_Ro_countSecond_57 rfl
theorem a_Ro_countSecond_61 : dk_at b_Ro_countSecond 61 t_Ro_countSecond_61 := dk_go 1 a_Ro_countSecond_60 rfl
theorem a_Ro_countSecond_62 : dk_at b_Ro_countSecond 62 t_Ro_countSecond_62 := dk_go 1 a_Ro_countSecond_61 rfl
theorem a_Ro_countSecond_63 : dk_at b_Ro_countSecond 63 t_Ro_countSecond_63 := dk_go 1 a_Ro_countSecond_62 rfl
theorem a_Ro_countSecond_66 : dk_at b_Ro_countSecond 66 t_Ro_countSecond_66 := dk_go 3 a_Ro_countSecond_63 rfl
theorem a_Ro_countSecond_67 : dk_at b_Ro_countSecond 67 t_Ro_countSecond_67 := dk_go 1 a_Ro_countSecond_66 rfl
theorem a_Ro_countSecond_68 : dk_at b_Ro_countSecond 68 t_Ro_countSecond_68 := dk_go 1 a_Ro_countSecond_67 rfl
theorem a_Ro_countSecond_71 : dk_at b_Ro_countSecond 71 t_Ro_countSecond_71 := dk_go 3 a_Ro_countSecond_68 rfl
theorem a_Ro_countSecond_72 : dk_at b_Ro_countSecond 72 t_Ro_countSecond_72 := dk_go 1 a_Ro_countSecond_71 rfl
theorem a_Ro_countSecond_75 : dk_at b_Ro_countSecond 75 t_Ro_countSecond_75 := dk_go 3 a_Ro_countSecond_72 rfl
theorem a_Ro_countSecond_76 : dk_at b_Ro_countSecond 76 t_Ro_countSecond_76 := dk_go 1 a_Ro_countSecond_75 rfl
theorem a_Ro_countSecond_77 : dk_at b_Ro_countSecond 77 t_Ro_countSecond_77 := dk_go 1 a_Ro_countSecond_76 rfl
theorem a_Ro_countSecond_78 : dk_at b_Ro_countSecond 78 t_Ro_countSecond_78 := dk_go 1 a_Ro_countSecond_77 rfl
theorem a_Ro_countSecond_79 : dk_at b_Ro_countSecond 79 t_Ro_countSecond_79 := dk_go 1 a_Ro_countSecond_78 rfl
theorem a_Ro_countSecond_82 : dk_at b_Ro_countSecond 82 t_Ro_countSecond_82 := dk_go 3 a_Ro_countSecond_79 rfl
theorem a_Ro_countSecond_83 : dk_at b_Ro_countSecond 83 t_Ro_countSecond_83 := dk_go 1 a_Ro_countSecond_82 rfl
theorem a_Ro_countSecond_84 : dk_at b_Ro_countSecond 84 t_Ro_countSecond_84 := dk_go 1 a_Ro_countSecond_83 rfl
theorem a_Ro_countSecond_87 : dk_at b_Ro_countSecond 87 t_Ro_countSecond_87 := dk_go 3 a_Ro_countSecond_84 rfl
theorem a_Ro_countSecond_88 : dk_at b_Ro_countSecond 88 t_Ro_countSecond_88 := dk_go 1 a_Ro_countSecond_87 rfl
theorem a_Ro_countSecond_91 : dk_at b_Ro_countSecond 91 t_Ro_countSecond_91 := dk_go 3 a_Ro_countSecond_88 rfl
theorem a_Ro_countSecond_92 : dk_at b_Ro_countSecond 92 t_Ro_countSecond_92 := dk_go 1 a_Ro_countSecond_91 rfl
theorem a_Ro_countSecond_93 : dk_at b_Ro_countSecond 93 t_Ro_countSecond_93 := dk_go 1 a_Ro_countSecond_92 rfl
theorem a_Ro_countSecond_94 : dk_at b_Ro_countSecond 94 t_Ro_countSecond_94 := dk_go 1 a_Ro_countSecond_93 rfl
theorem a_Ro_countSecond_95 : dk_at b_Ro_countSecond 95 t_Ro_countSecond_95 := dk_go 1 a_Ro_countSecond_94 rfl
theorem a_Ro_countSecond_96 : dk_at b_Ro_countSecond 96 t_Ro_countSecond_96 := dk_go 1 a_Ro_countSecond_95 rfl
theorem a_Ro_countSecond_97 : dk_at b_Ro_countSecond 97 t_Ro_countSecond_97 := dk_go 1 a_Ro_countSecond_96 rfl
theorem a_Ro_countSecond_100 : dk_at b_Ro_countSecond 100 t_Ro_countSecond_100 := dk_go 3 a_Ro_countSecond_97 rfl
theorem a_Ro_countSecond_103 : dk_at b_Ro_countSecond 103 t_Ro_countSecond_103 := dk_go 3 a_Ro_countSecond_100 rfl
theorem d_Ro_countSecond_0 : decode b_Ro_countSecond 0 = .ok (.iconst 0, 1) := dk_0 a_Ro_countSecond_0 (dko_3 _)
theorem d_Ro_countSecond_1 : decode b_Ro_countSecond 1 = .ok (.istore_n 1, 1) := dk_0 a_Ro_countSecond_1 (dko_60 _)
theorem d_Ro_countSecond_2 : decode b_Ro_countSecond 2 = .ok (.iload_n 1, 1) := dk_0 a_Ro_countSecond_2 (dko_27 _)
theorem d_Ro_countSecond_3 : decode b_Ro_countSecond 3 = .ok (.aload_n 0, 1) := dk_0 a_Ro_countSecond_3 (dko_42 _)
theorem d_Ro_countSecond_4 : decode b_Ro_countSecond 4 = .ok (.getfield 37, 3) := dk_U2 a_Ro_countSecond_4 (dko_180 _) rfl
theorem d_Ro_countSecond_7 : decode b_Ro_countSecond 7 = .ok (.if_icmp .ge 96, 3) := dk_S2 a_Ro_countSecond_7 (dko_162 _) (by decide +kernel)
theorem d_Ro_countSecond_103 : decode b_Ro_countSecond 103 = .ok (.return_, 1) := dk_0 a_Ro_countSecond_103 (dko_177 _)
set_option maxHeartbeats 4000000 in
set_option maxRecDepth 100000 in
theorem c_Ro_countSecond (l : Launch) (dC : Nat → ClassId) (dI : Nat → Nat → Nat) (cI cB cZ cJ : ClassId) (oR1 : Nat) (xr : List Value) (hxr_count : fx xr 0 (.int 0)) (sz : Nat) : Met l y_Ro_countSecond w_Ro_countSecond ({ frames := 0, cells := 0, slots := 0, locals := 0 }) (va_Pc [.ref oR1] (PW dC dI cI cB cZ cJ [(oR1, .inr (7, xr))] sz)) (va_Qv (fun _ : Unit => True) (fun _ _ => True) (va_A [] sz)) 0 0 (va_A [] sz) := by
  refine Met.ofW (cc := b_Ro_countSecond) (maxL := 3) (ret := none) (by decide) rfl ?_
  intro p e s m args below meth c s₁ B hml hv
  obtain ⟨rfl, hsz, hP, hK, hD⟩ := hv
  have hx := B.exec
  have hb := B.bytes
  have hr := B.returns
  have hts := atoms_spec (ws := w_Ro_countSecond) B.pre
  have hown : s.vm.findClass R_Ro = some m.cls := findClass_of_methodNamed B.named
  have hlocks := B.notSynchronized
  subst hsz
  generalize hAe : va_A [] s.heap.size = A at ⊢
  have hA : ∀ q : Nat, s.heap.size ≤ q → A q := fun q h => by rw [← hAe]; exact Or.inr h
  have hS : va_S A s.heap s.heap [] := va_S.rf
  have hP : va_P (dC, dI) classes [(oR1, .inr (7, xr))] s.heap := hP
  have hl := lv_entry ([.ref oR1]) (n := 3) (Nat.le_of_ble_eq_true rfl)
  rw [lg_entry_eq]
  generalize (lg_sl ([.ref oR1]) ++ List.replicate (3 - (lg_sl ([.ref oR1])).length) Slot.unset).toArray = ls at hl ⊢
  have hl : lv_has ls 3 [(0, .ref oR1)] := hl
  refine lv_iconst (v := 0) hx hb d_Ro_countSecond_0 (by decide) ?_
  refine lv_istore_n hx hb d_Ro_countSecond_1 rfl hl (by decide) rfl (fun ls hl => ?_)
  have hl : lv_has ls 3 [(1, .int 0), (0, .ref oR1)] := hl
  refine lv_iload_n hx hb d_Ro_countSecond_2 rfl (lv_at hl 0 rfl) ?_
  refine lv_aload_n hx hb d_Ro_countSecond_3 rfl (lv_at hl 1 rfl) ?_
  refine va_get (D := (dC, dI)) (ci := 7) (v := .int 0) (C := R_Ro) (T := F_Ro) (N := 18) hx hb hts (fun w h => List.mem_cons_of_mem _ (in_Ro w h)) hown hK.1 hP 0 rfl rfl 0 (by decide) (hts _ (List.mem_cons_of_mem _ mw_329)) (fun _ h9 => h9) hxr_count d_Ro_countSecond_4 ?_
  refine lv_icmp_ge (tgt := 103) hx hb d_Ro_countSecond_7 (by decide) (fun _ => ?_) (fun h => absurd (by decide) h)
  exact W.vret hx hb hr (fun t ht hW => ⟨⟨(), rfl, trivial, trivial⟩, hS.F ht⟩) hS.2.2 d_Ro_countSecond_103
abbrev t_Wa_move_42 : List UInt8 := 177 :: []
abbrev t_Wa_move_39 : List UInt8 := 167 :: 255 :: 219 :: t_Wa_move_42
abbrev t_Wa_move_36 : List UInt8 := 132 :: 1 :: 1 :: t_Wa_move_39
abbrev t_Wa_move_33 : List UInt8 := 167 :: 255 :: 235 :: t_Wa_move_36
abbrev t_Wa_move_30 : List UInt8 := 132 :: 2 :: 1 :: t_Wa_move_33
abbrev t_Wa_move_27 : List UInt8 := 153 :: 0 :: 9 :: t_Wa_move_30
abbrev t_Wa_move_24 : List UInt8 := 182 :: 0 :: 129 :: t_Wa_move_27
abbrev t_Wa_move_23 : List UInt8 := 27 :: t_Wa_move_24
abbrev t_Wa_move_22 : List UInt8 := 42 :: t_Wa_move_23
abbrev t_Wa_move_19 : List UInt8 := 162 :: 0 :: 17 :: t_Wa_move_22
abbrev t_Wa_move_18 : List UInt8 := 46 :: t_Wa_move_19
abbrev t_Wa_move_17 : List UInt8 := 27 :: t_Wa_move_18
abbrev t_Wa_move_14 : List UInt8 := 180 :: 0 :: 18 :: t_Wa_move_17
abbrev t_Wa_move_13 : List UInt8 := 42 :: t_Wa_move_14
abbrev t_Wa_move_12 : List UInt8 := 28 :: t_Wa_move_13
abbrev t_Wa_move_11 : List UInt8 := 61 :: t_Wa_move_12
abbrev t_Wa_move_10 : List UInt8 := 3 :: t_Wa_move_11
abbrev t_Wa_move_7 : List UInt8 := 162 :: 0 :: 35 :: t_Wa_move_10
abbrev t_Wa_move_4 : List UInt8 := 180 :: 0 :: 65 :: t_Wa_move_7
abbrev t_Wa_move_3 : List UInt8 := 42 :: t_Wa_move_4
abbrev t_Wa_move_2 : List UInt8 := 27 :: t_Wa_move_3
abbrev t_Wa_move_1 : List UInt8 := 60 :: t_Wa_move_2
abbrev t_Wa_move_0 : List UInt8 := 3 :: t_Wa_move_1
theorem a_Wa_move_0 : dk_at b_Wa_move 0 t_Wa_move_0 := dk_start (by decide +kernel)
theorem a_Wa_move_1 : dk_at b_Wa_move 1 t_Wa_move_1 := dk_go 1 a_Wa_move_0 rfl
theorem a_Wa_move_2 : dk_at b_Wa_move 2 t_Wa_move_2 := dk_go 1 a_Wa_move_1 rfl
theorem a_Wa_move_3 : dk_at b_Wa_move 3 t_Wa_move_3 := dk_go 1 a_Wa_move_2 rfl
theorem a_Wa_move_4 : dk_at b_Wa_move 4 t_Wa_move_4 := dk_go 1 a_Wa_move_3 rfl
theorem a_Wa_move_7 : dk_at b_Wa_move 7 t_Wa_move_7 := dk_go 3 a_Wa_move_4 rfl
theorem a_Wa_move_10 : dk_at b_Wa_move 10 t_Wa_move_10 := dk_go 3 a_Wa_move_7 rfl
theorem a_Wa_move_11 : dk_at b_Wa_move 11 t_Wa_move_11 := dk_go 1 a_Wa_move_10 rfl
theorem a_Wa_move_12 : dk_at b_Wa_move 12 t_Wa_move_12 := dk_go 1 a_Wa_move_11 rfl
theorem a_Wa_move_13 : dk_at b_Wa_move 13 t_Wa_move_13 := dk_go 1 a_Wa_move_12 rfl
theorem a_Wa_move_14 : dk_at b_Wa_move 14 t_Wa_move_14 := dk_go 1 a_Wa_move_13 rfl
theorem a_Wa_move_17 : dk_at b_Wa_move 17 t_Wa_move_17 := dk_go 3 a_Wa_move_14 rfl
theorem a_Wa_move_18 : dk_at b_Wa_move 18 t_Wa_move_18 := dk_go 1 a_Wa_move_17 rfl
theorem a_Wa_move_19 : dk_at b_Wa_move 19 t_Wa_move_19 := dk_go 1 a_Wa_move_18 rfl
theorem a_Wa_move_22 : dk_at b_Wa_move 22 t_Wa_move_22 := dk_go 3 a_Wa_move_19 rfl
theorem a_Wa_move_23 : dk_at b_Wa_move 23 t_Wa_move_23 := dk_go 1 a_Wa_move_22 rfl
theorem a_Wa_move_24 : dk_at b_Wa_move 24 t_Wa_move_24 := dk_go 1 a_Wa_move_23 rfl
theorem a_Wa_move_27 : dk_at b_Wa_move 27 t_Wa_move_27 := dk_go 3 a_Wa_move_24 rfl
theorem a_Wa_move_30 : dk_at b_Wa_move 30 t_Wa_move_30 := dk_go 3 a_Wa_move_27 rfl
theorem a_Wa_move_33 : dk_at b_Wa_move 33 t_Wa_move_33 := dk_go 3 a_Wa_move_30 rfl
theorem a_Wa_move_36 : dk_at b_Wa_move 36 t_Wa_move_36 := dk_go 3 a_Wa_move_33 rfl
theorem a_Wa_move_39 : dk_at b_Wa_move 39 t_Wa_move_39 := dk_go 3 a_Wa_move_36 rfl
theorem a_Wa_move_42 : dk_at b_Wa_move 42 t_Wa_move_42 := dk_go 3 a_Wa_move_39 rfl
theorem d_Wa_move_0 : decode b_Wa_move 0 = .ok (.iconst 0, 1) := dk_0 a_Wa_move_0 (dko_3 _)
theorem d_Wa_move_1 : decode b_Wa_move 1 = .ok (.istore_n 1, 1) := dk_0 a_Wa_move_1 (dko_60 _)
theorem d_Wa_move_2 : decode b_Wa_move 2 = .ok (.iload_n 1, 1) := dk_0 a_Wa_move_2 (dko_27 _)
theorem d_Wa_move_3 : decode b_Wa_move 3 = .ok (.aload_n 0, 1) := dk_0 a_Wa_move_3 (dko_42 _)
theorem d_Wa_move_4 : decode b_Wa_move 4 = .ok (.getfield 65, 3) := dk_U2 a_Wa_move_4 (dko_180 _) rfl
theorem d_Wa_move_7 : decode b_Wa_move 7 = .ok (.if_icmp .ge 35, 3) := dk_S2 a_Wa_move_7 (dko_162 _) (by decide +kernel)
theorem d_Wa_move_42 : decode b_Wa_move 42 = .ok (.return_, 1) := dk_0 a_Wa_move_42 (dko_177 _)
set_option maxHeartbeats 4000000 in
set_option maxRecDepth 100000 in
theorem c_Wa_move (l : Launch) (dC : Nat → ClassId) (dI : Nat → Nat → Nat) (cI cB cZ cJ : ClassId) (oWa : Nat) (xw : List Value) (hwa_count : fx xw 1 (.int 0)) (sz : Nat) : Met l y_Wa_move w_Wa_move ({ frames := 0, cells := 0, slots := 0, locals := 0 }) (va_Pc [.ref oWa] (PW dC dI cI cB cZ cJ [(oWa, .inr (5, xw))] sz)) (va_Qv (fun _ : Unit => True) (fun _ _ => True) (va_A [] sz)) 0 0 (va_A [] sz) := by
  refine Met.ofW (cc := b_Wa_move) (maxL := 3) (ret := none) (by decide) rfl ?_
  intro p e s m args below meth c s₁ B hml hv
  obtain ⟨rfl, hsz, hP, hK, hD⟩ := hv
  have hx := B.exec
  have hb := B.bytes
  have hr := B.returns
  have hts := atoms_spec (ws := w_Wa_move) B.pre
  have hown : s.vm.findClass R_Wa = some m.cls := findClass_of_methodNamed B.named
  have hlocks := B.notSynchronized
  subst hsz
  generalize hAe : va_A [] s.heap.size = A at ⊢
  have hA : ∀ q : Nat, s.heap.size ≤ q → A q := fun q h => by rw [← hAe]; exact Or.inr h
  have hS : va_S A s.heap s.heap [] := va_S.rf
  have hP : va_P (dC, dI) classes [(oWa, .inr (5, xw))] s.heap := hP
  have hl := lv_entry ([.ref oWa]) (n := 3) (Nat.le_of_ble_eq_true rfl)
  rw [lg_entry_eq]
  generalize (lg_sl ([.ref oWa]) ++ List.replicate (3 - (lg_sl ([.ref oWa])).length) Slot.unset).toArray = ls at hl ⊢
  have hl : lv_has ls 3 [(0, .ref oWa)] := hl
  refine lv_iconst (v := 0) hx hb d_Wa_move_0 (by decide) ?_
  refine lv_istore_n hx hb d_Wa_move_1 rfl hl (by decide) rfl (fun ls hl => ?_)
  have hl : lv_has ls 3 [(1, .int 0), (0, .ref oWa)] := hl
  refine lv_iload_n hx hb d_Wa_move_2 rfl (lv_at hl 0 rfl) ?_
  refine lv_aload_n hx hb d_Wa_move_3 rfl (lv_at hl 1 rfl) ?_
  refine va_get (D := (dC, dI)) (ci := 5) (v := .int 0) (C := R_Wa) (T := F_Wa) (N := 18) hx hb hts (fun w h => List.mem_cons_of_mem _ (in_Wa w h)) hown hK.1 hP 0 rfl rfl 1 (by decide) (hts _ (List.mem_cons_of_mem _ mw_218)) (fun _ h9 => h9) hwa_count d_Wa_move_4 ?_
  refine lv_icmp_ge (tgt := 42) hx hb d_Wa_move_7 (by decide) (fun _ => ?_) (fun h => absurd (by decide) h)
  exact W.vret hx hb hr (fun t ht hW => ⟨⟨(), rfl, trivial, trivial⟩, hS.F ht⟩) hS.2.2 d_Wa_move_42
abbrev t_Wa_closeAll_23 : List UInt8 := 177 :: []
abbrev t_Wa_closeAll_20 : List UInt8 := 167 :: 255 :: 243 :: t_Wa_closeAll_23
abbrev t_Wa_closeAll_17 : List UInt8 := 132 :: 1 :: 255 :: t_Wa_closeAll_20
abbrev t_Wa_closeAll_14 : List UInt8 := 182 :: 0 :: 125 :: t_Wa_closeAll_17
abbrev t_Wa_closeAll_13 : List UInt8 := 3 :: t_Wa_closeAll_14
abbrev t_Wa_closeAll_12 : List UInt8 := 27 :: t_Wa_closeAll_13
abbrev t_Wa_closeAll_11 : List UInt8 := 42 :: t_Wa_closeAll_12
abbrev t_Wa_closeAll_8 : List UInt8 := 155 :: 0 :: 15 :: t_Wa_closeAll_11
abbrev t_Wa_closeAll_7 : List UInt8 := 27 :: t_Wa_closeAll_8
abbrev t_Wa_closeAll_6 : List UInt8 := 60 :: t_Wa_closeAll_7
abbrev t_Wa_closeAll_5 : List UInt8 := 100 :: t_Wa_closeAll_6
abbrev t_Wa_closeAll_4 : List UInt8 := 4 :: t_Wa_closeAll_5
abbrev t_Wa_closeAll_1 : List UInt8 := 180 :: 0 :: 65 :: t_Wa_closeAll_4
abbrev t_Wa_closeAll_0 : List UInt8 := 42 :: t_Wa_closeAll_1
theorem a_Wa_closeAll_0 : dk_at b_Wa_closeAll 0 t_Wa_closeAll_0 := dk_start (by decide +kernel)
theorem a_Wa_closeAll_1 : dk_at b_Wa_closeAll 1 t_Wa_closeAll_1 := dk_go 1 a_Wa_closeAll_0 rfl
theorem a_Wa_closeAll_4 : dk_at b_Wa_closeAll 4 t_Wa_closeAll_4 := dk_go 3 a_Wa_closeAll_1 rfl
theorem a_Wa_closeAll_5 : dk_at b_Wa_closeAll 5 t_Wa_closeAll_5 := dk_go 1 a_Wa_closeAll_4 rfl
theorem a_Wa_closeAll_6 : dk_at b_Wa_closeAll 6 t_Wa_closeAll_6 := dk_go 1 a_Wa_closeAll_5 rfl
theorem a_Wa_closeAll_7 : dk_at b_Wa_closeAll 7 t_Wa_closeAll_7 := dk_go 1 a_Wa_closeAll_6 rfl
theorem a_Wa_closeAll_8 : dk_at b_Wa_closeAll 8 t_Wa_closeAll_8 := dk_go 1 a_Wa_closeAll_7 rfl
theorem a_Wa_closeAll_11 : dk_at b_Wa_closeAll 11 t_Wa_closeAll_11 := dk_go 3 a_Wa_closeAll_8 rfl
theorem a_Wa_closeAll_12 : dk_at b_Wa_closeAll 12 t_Wa_closeAll_12 := dk_go 1 a_Wa_closeAll_11 rfl
theorem a_Wa_closeAll_13 : dk_at b_Wa_closeAll 13 t_Wa_closeAll_13 := dk_go 1 a_Wa_closeAll_12 rfl
theorem a_Wa_closeAll_14 : dk_at b_Wa_closeAll 14 t_Wa_closeAll_14 := dk_go 1 a_Wa_closeAll_13 rfl
theorem a_Wa_closeAll_17 : dk_at b_Wa_closeAll 17 t_Wa_closeAll_17 := dk_go 3 a_Wa_closeAll_14 rfl
theorem a_Wa_closeAll_20 : dk_at b_Wa_closeAll 20 t_Wa_closeAll_20 := dk_go 3 a_Wa_closeAll_17 rfl
theorem a_Wa_closeAll_23 : dk_at b_Wa_closeAll 23 t_Wa_closeAll_23 := dk_go 3 a_Wa_closeAll_20 rfl
theorem d_Wa_closeAll_0 : decode b_Wa_closeAll 0 = .ok (.aload_n 0, 1) := dk_0 a_Wa_closeAll_0 (dko_42 _)
theorem d_Wa_closeAll_1 : decode b_Wa_closeAll 1 = .ok (.getfield 65, 3) := dk_U2 a_Wa_closeAll_1 (dko_180 _) rfl
theorem d_Wa_closeAll_4 : decode b_Wa_closeAll 4 = .ok (.iconst 1, 1) := dk_0 a_Wa_closeAll_4 (dko_4 _)
theorem d_Wa_closeAll_5 : decode b_Wa_closeAll 5 = .ok (.isub, 1) := dk_0 a_Wa_closeAll_5 (dko_100 _)
theorem d_Wa_closeAll_6 : decode b_Wa_closeAll 6 = .ok (.istore_n 1, 1) := dk_0 a_Wa_closeAll_6 (dko_60 _)
theorem d_Wa_closeAll_7 : decode b_Wa_closeAll 7 = .ok (.iload_n 1, 1) := dk_0 a_Wa_closeAll_7 (dko_27 _)
theorem d_Wa_closeAll_8 : decode b_Wa_closeAll 8 = .ok (.ifCond .lt 15, 3) := dk_S2 a_Wa_closeAll_8 (dko_155 _) (by decide +kernel)
theorem d_Wa_closeAll_23 : decode b_Wa_closeAll 23 = .ok (.return_, 1) := dk_0 a_Wa_closeAll_23 (dko_177 _)
set_option maxHeartbeats 4000000 in
set_option maxRecDepth 100000 in
theorem c_Wa_closeAll (l : Launch) (dC : Nat → ClassId) (dI : Nat → Nat → Nat) (cI cB cZ cJ : ClassId) (oWa : Nat) (xw : List Value) (hwa_count : fx xw 1 (.int 0)) (sz : Nat) : Met l y_Wa_closeAll w_Wa_closeAll ({ frames := 0, cells := 0, slots := 0, locals := 0 }) (va_Pc [.ref oWa] (PW dC dI cI cB cZ cJ [(oWa, .inr (5, xw))] sz)) (va_Qv (fun _ : Unit => True) (fun _ _ => True) (va_A [] sz)) 0 0 (va_A [] sz) := by
  refine Met.ofW (cc := b_Wa_closeAll) (maxL := 2) (ret := none) (by decide) rfl ?_
  intro p e s m args below meth c s₁ B hml hv
  obtain ⟨rfl, hsz, hP, hK, hD⟩ := hv
  have hx := B.exec
  have hb := B.bytes
  have hr := B.returns
  have hts := atoms_spec (ws := w_Wa_closeAll) B.pre
  have hown : s.vm.findClass R_Wa = some m.cls := findClass_of_methodNamed B.named
  have hlocks := B.notSynchronized
  subst hsz
  generalize hAe : va_A [] s.heap.size = A at ⊢
  have hA : ∀ q : Nat, s.heap.size ≤ q → A q := fun q h => by rw [← hAe]; exact Or.inr h
  have hS : va_S A s.heap s.heap [] := va_S.rf
  have hP : va_P (dC, dI) classes [(oWa, .inr (5, xw))] s.heap := hP
  have hl := lv_entry ([.ref oWa]) (n := 2) (Nat.le_of_ble_eq_true rfl)
  rw [lg_entry_eq]
  generalize (lg_sl ([.ref oWa]) ++ List.replicate (2 - (lg_sl ([.ref oWa])).length) Slot.unset).toArray = ls at hl ⊢
  have hl : lv_has ls 2 [(0, .ref oWa)] := hl
  refine lv_aload_n hx hb d_Wa_closeAll_0 rfl (lv_at hl 0 rfl) ?_
  refine va_get (D := (dC, dI)) (ci := 5) (v := .int 0) (C := R_Wa) (T := F_Wa) (N := 18) hx hb hts (fun w h => List.mem_cons_of_mem _ (in_Wa w h)) hown hK.1 hP 0 rfl rfl 1 (by decide) (hts _ (List.mem_cons_of_mem _ mw_218)) (fun _ h9 => h9) hwa_count d_Wa_closeAll_1 ?_
  refine lv_iconst (v := 1) hx hb d_Wa_closeAll_4 (by decide) ?_
  refine lv_isub hx hb d_Wa_closeAll_5 ?_
  refine lv_topi (fun x0 e0 => ?_)
  obtain rfl : x0 = (-1) := e0.trans (by decide)
  refine lv_istore_n hx hb d_Wa_closeAll_6 rfl hl (by decide) rfl (fun ls hl => ?_)
  have hl : lv_has ls 2 [(1, .int (-1)), (0, .ref oWa)] := hl
  refine lv_iload_n hx hb d_Wa_closeAll_7 rfl (lv_at hl 0 rfl) ?_
  refine lv_if_lt (tgt := 23) hx hb d_Wa_closeAll_8 (by decide) (fun _ => ?_) (fun h => absurd (by decide) h)
  exact W.vret hx hb hr (fun t ht hW => ⟨⟨(), rfl, trivial, trivial⟩, hS.F ht⟩) hS.2.2 d_Wa_closeAll_23
abbrev t_Bh_senseAll_156 : List UInt8 := 177 :: []
abbrev t_Bh_senseAll_153 : List UInt8 := 181 :: 0 :: 177 :: t_Bh_senseAll_156
abbrev t_Bh_senseAll_152 : List UInt8 := 28 :: t_Bh_senseAll_153
abbrev t_Bh_senseAll_149 : List UInt8 := 180 :: 0 :: 174 :: t_Bh_senseAll_152
abbrev t_Bh_senseAll_146 : List UInt8 := 180 :: 0 :: 53 :: t_Bh_senseAll_149
abbrev t_Bh_senseAll_145 : List UInt8 := 42 :: t_Bh_senseAll_146
abbrev t_Bh_senseAll_142 : List UInt8 := 167 :: 255 :: 190 :: t_Bh_senseAll_145
abbrev t_Bh_senseAll_139 : List UInt8 := 132 :: 3 :: 1 :: t_Bh_senseAll_142
abbrev t_Bh_senseAll_138 : List UInt8 := 61 :: t_Bh_senseAll_139
abbrev t_Bh_senseAll_137 : List UInt8 := 128 :: t_Bh_senseAll_138
abbrev t_Bh_senseAll_136 : List UInt8 := 3 :: t_Bh_senseAll_137
abbrev t_Bh_senseAll_133 : List UInt8 := 167 :: 0 :: 4 :: t_Bh_senseAll_136
abbrev t_Bh_senseAll_132 : List UInt8 := 120 :: t_Bh_senseAll_133
abbrev t_Bh_senseAll_131 : List UInt8 := 29 :: t_Bh_senseAll_132
abbrev t_Bh_senseAll_130 : List UInt8 := 4 :: t_Bh_senseAll_131
abbrev t_Bh_senseAll_127 : List UInt8 := 155 :: 0 :: 9 :: t_Bh_senseAll_130
abbrev t_Bh_senseAll_126 : List UInt8 := 148 :: t_Bh_senseAll_127
abbrev t_Bh_senseAll_125 : List UInt8 := 47 :: t_Bh_senseAll_126
abbrev t_Bh_senseAll_124 : List UInt8 := 29 :: t_Bh_senseAll_125
abbrev t_Bh_senseAll_121 : List UInt8 := 180 :: 0 :: 105 :: t_Bh_senseAll_124
abbrev t_Bh_senseAll_120 : List UInt8 := 42 :: t_Bh_senseAll_121
abbrev t_Bh_senseAll_118 : List UInt8 := 22 :: 4 :: t_Bh_senseAll_120
abbrev t_Bh_senseAll_115 : List UInt8 := 155 :: 0 :: 21 :: t_Bh_senseAll_118
abbrev t_Bh_senseAll_114 : List UInt8 := 148 :: t_Bh_senseAll_115
abbrev t_Bh_senseAll_113 : List UInt8 := 9 :: t_Bh_senseAll_114
abbrev t_Bh_senseAll_111 : List UInt8 := 22 :: 4 :: t_Bh_senseAll_113
abbrev t_Bh_senseAll_110 : List UInt8 := 28 :: t_Bh_senseAll_111
abbrev t_Bh_senseAll_108 : List UInt8 := 55 :: 4 :: t_Bh_senseAll_110
abbrev t_Bh_senseAll_105 : List UInt8 := 182 :: 1 :: 42 :: t_Bh_senseAll_108
abbrev t_Bh_senseAll_104 : List UInt8 := 46 :: t_Bh_senseAll_105
abbrev t_Bh_senseAll_103 : List UInt8 := 29 :: t_Bh_senseAll_104
abbrev t_Bh_senseAll_100 : List UInt8 := 180 :: 0 :: 102 :: t_Bh_senseAll_103
abbrev t_Bh_senseAll_99 : List UInt8 := 42 :: t_Bh_senseAll_100
abbrev t_Bh_senseAll_98 : List UInt8 := 46 :: t_Bh_senseAll_99
abbrev t_Bh_senseAll_97 : List UInt8 := 29 :: t_Bh_senseAll_98
abbrev t_Bh_senseAll_94 : List UInt8 := 180 :: 0 :: 98 :: t_Bh_senseAll_97
abbrev t_Bh_senseAll_93 : List UInt8 := 42 :: t_Bh_senseAll_94
abbrev t_Bh_senseAll_92 : List UInt8 := 42 :: t_Bh_senseAll_93
abbrev t_Bh_senseAll_89 : List UInt8 := 162 :: 0 :: 50 :: t_Bh_senseAll_92
abbrev t_Bh_senseAll_88 : List UInt8 := 8 :: t_Bh_senseAll_89
abbrev t_Bh_senseAll_87 : List UInt8 := 46 :: t_Bh_senseAll_88
abbrev t_Bh_senseAll_86 : List UInt8 := 29 :: t_Bh_senseAll_87
abbrev t_Bh_senseAll_83 : List UInt8 := 180 :: 0 :: 98 :: t_Bh_senseAll_86
abbrev t_Bh_senseAll_82 : List UInt8 := 42 :: t_Bh_senseAll_83
abbrev t_Bh_senseAll_79 : List UInt8 := 162 :: 0 :: 66 :: t_Bh_senseAll_82
abbrev t_Bh_senseAll_77 : List UInt8 := 16 :: 16 :: t_Bh_senseAll_79
abbrev t_Bh_senseAll_76 : List UInt8 := 29 :: t_Bh_senseAll_77
abbrev t_Bh_senseAll_75 : List UInt8 := 62 :: t_Bh_senseAll_76
abbrev t_Bh_senseAll_74 : List UInt8 := 3 :: t_Bh_senseAll_75
abbrev t_Bh_senseAll_73 : List UInt8 := 61 :: t_Bh_senseAll_74
abbrev t_Bh_senseAll_72 : List UInt8 := 3 :: t_Bh_senseAll_73
abbrev t_Bh_senseAll_69 : List UInt8 := 167 :: 255 :: 197 :: t_Bh_senseAll_72
abbrev t_Bh_senseAll_66 : List UInt8 := 132 :: 2 :: 1 :: t_Bh_senseAll_69
abbrev t_Bh_senseAll_65 : List UInt8 := 80 :: t_Bh_senseAll_66
abbrev t_Bh_senseAll_64 : List UInt8 := 105 :: t_Bh_senseAll_65
abbrev t_Bh_senseAll_61 : List UInt8 := 20 :: 1 :: 48 :: t_Bh_senseAll_64
abbrev t_Bh_senseAll_60 : List UInt8 := 33 :: t_Bh_senseAll_61
abbrev t_Bh_senseAll_57 : List UInt8 := 167 :: 0 :: 8 :: t_Bh_senseAll_60
abbrev t_Bh_senseAll_54 : List UInt8 := 20 :: 1 :: 46 :: t_Bh_senseAll_57
abbrev t_Bh_senseAll_51 : List UInt8 := 156 :: 0 :: 9 :: t_Bh_senseAll_54
abbrev t_Bh_senseAll_50 : List UInt8 := 148 :: t_Bh_senseAll_51
abbrev t_Bh_senseAll_49 : List UInt8 := 9 :: t_Bh_senseAll_50
abbrev t_Bh_senseAll_48 : List UInt8 := 33 :: t_Bh_senseAll_49
abbrev t_Bh_senseAll_47 : List UInt8 := 28 :: t_Bh_senseAll_48
abbrev t_Bh_senseAll_44 : List UInt8 := 180 :: 0 :: 247 :: t_Bh_senseAll_47
abbrev t_Bh_senseAll_43 : List UInt8 := 43 :: t_Bh_senseAll_44
abbrev t_Bh_senseAll_42 : List UInt8 := 66 :: t_Bh_senseAll_43
abbrev t_Bh_senseAll_39 : List UInt8 := 182 :: 1 :: 42 :: t_Bh_senseAll_42
abbrev t_Bh_senseAll_38 : List UInt8 := 46 :: t_Bh_senseAll_39
abbrev t_Bh_senseAll_37 : List UInt8 := 28 :: t_Bh_senseAll_38
abbrev t_Bh_senseAll_34 : List UInt8 := 180 :: 0 :: 244 :: t_Bh_senseAll_37
abbrev t_Bh_senseAll_33 : List UInt8 := 43 :: t_Bh_senseAll_34
abbrev t_Bh_senseAll_32 : List UInt8 := 46 :: t_Bh_senseAll_33
abbrev t_Bh_senseAll_31 : List UInt8 := 28 :: t_Bh_senseAll_32
abbrev t_Bh_senseAll_28 : List UInt8 := 180 :: 0 :: 241 :: t_Bh_senseAll_31
abbrev t_Bh_senseAll_27 : List UInt8 := 43 :: t_Bh_senseAll_28
abbrev t_Bh_senseAll_26 : List UInt8 := 42 :: t_Bh_senseAll_27
abbrev t_Bh_senseAll_23 : List UInt8 := 153 :: 0 :: 43 :: t_Bh_senseAll_26
abbrev t_Bh_senseAll_20 : List UInt8 := 182 :: 1 :: 39 :: t_Bh_senseAll_23
abbrev t_Bh_senseAll_19 : List UInt8 := 28 :: t_Bh_senseAll_20
abbrev t_Bh_senseAll_18 : List UInt8 := 43 :: t_Bh_senseAll_19
abbrev t_Bh_senseAll_15 : List UInt8 := 162 :: 0 :: 57 :: t_Bh_senseAll_18
abbrev t_Bh_senseAll_12 : List UInt8 := 180 :: 1 :: 36 :: t_Bh_senseAll_15
abbrev t_Bh_senseAll_11 : List UInt8 := 43 :: t_Bh_senseAll_12
abbrev t_Bh_senseAll_10 : List UInt8 := 28 :: t_Bh_senseAll_11
abbrev t_Bh_senseAll_9 : List UInt8 := 61 :: t_Bh_senseAll_10
abbrev t_Bh_senseAll_8 : List UInt8 := 3 :: t_Bh_senseAll_9
abbrev t_Bh_senseAll_7 : List UInt8 := 76 :: t_Bh_senseAll_8
abbrev t_Bh_senseAll_4 : List UInt8 := 180 :: 0 :: 183 :: t_Bh_senseAll_7
abbrev t_Bh_senseAll_1 : List UInt8 := 180 :: 0 :: 62 :: t_Bh_senseAll_4
abbrev t_Bh_senseAll_0 : List UInt8 := 42 :: t_Bh_senseAll_1
theorem a_Bh_senseAll_0 : dk_at b_Bh_senseAll 0 t_Bh_senseAll_0 := dk_start (by decide +kernel)
theorem a_Bh_senseAll_1 : dk_at b_Bh_senseAll 1 t_Bh_senseAll_1 := dk_go 1 a_Bh_senseAll_0 rfl
theorem a_Bh_senseAll_4 : dk_at b_Bh_senseAll 4 t_Bh_senseAll_4 := dk_go 3 a_Bh_senseAll_1 rfl
theorem a_Bh_senseAll_7 : dk_at b_Bh_senseAll 7 t_Bh_senseAll_7 := dk_go 3 a_Bh_senseAll_4 rfl
theorem a_Bh_senseAll_8 : dk_at b_Bh_senseAll 8 t_Bh_senseAll_8 := dk_go 1 a_Bh_senseAll_7 rfl
theorem a_Bh_senseAll_9 : dk_at b_Bh_senseAll 9 t_Bh_senseAll_9 := dk_go 1 a_Bh_senseAll_8 rfl
theorem a_Bh_senseAll_10 : dk_at b_Bh_senseAll 10 t_Bh_senseAll_10 := dk_go 1 a_Bh_senseAll_9 rfl
theorem a_Bh_senseAll_11 : dk_at b_Bh_senseAll 11 t_Bh_senseAll_11 := dk_go 1 a_Bh_senseAll_10 rfl
theorem a_Bh_senseAll_12 : dk_at b_Bh_senseAll 12 t_Bh_senseAll_12 := dk_go 1 a_Bh_senseAll_11 rfl
theorem a_Bh_senseAll_15 : dk_at b_Bh_senseAll 15 t_Bh_senseAll_15 := dk_go 3 a_Bh_senseAll_12 rfl
theorem a_Bh_senseAll_18 : dk_at b_Bh_senseAll 18 t_Bh_senseAll_18 := dk_go 3 a_Bh_senseAll_15 rfl
theorem a_Bh_senseAll_19 : dk_at b_Bh_senseAll 19 t_Bh_senseAll_19 := dk_go 1 a_Bh_senseAll_18 rfl
theorem a_Bh_senseAll_20 : dk_at b_Bh_senseAll 20 t_Bh_senseAll_20 := dk_go 1 a_Bh_senseAll_19 rfl
theorem a_Bh_senseAll_23 : dk_at b_Bh_senseAll 23 t_Bh_senseAll_23 := dk_go 3 a_Bh_senseAll_20 rfl
theorem a_Bh_senseAll_26 : dk_at b_Bh_senseAll 26 t_Bh_senseAll_26 := dk_go 3 a_Bh_senseAll_23 rfl
theorem a_Bh_senseAll_27 : dk_at b_Bh_senseAll 27 t_Bh_senseAll_27 := dk_go 1 a_Bh_senseAll_26 rfl
theorem a_Bh_senseAll_28 : dk_at b_Bh_senseAll 28 t_Bh_senseAll_28 := dk_go 1 a_Bh_senseAll_27 rfl
theorem a_Bh_senseAll_31 : dk_at b_Bh_senseAll 31 t_Bh_senseAll_31 := dk_go 3 a_Bh_senseAll_28 rfl
theorem a_Bh_senseAll_32 : dk_at b_Bh_senseAll 32 t_Bh_senseAll_32 := dk_go 1 a_Bh_senseAll_31 rfl
theorem a_Bh_senseAll_33 : dk_at b_Bh_senseAll 33 t_Bh_senseAll_33 := dk_go 1 a_Bh_senseAll_32 rfl
theorem a_Bh_senseAll_34 : dk_at b_Bh_senseAll 34 t_Bh_senseAll_34 := dk_go 1 a_Bh_senseAll_33 rfl
theorem a_Bh_senseAll_37 : dk_at b_Bh_senseAll 37 t_Bh_senseAll_37 := dk_go 3 a_Bh_senseAll_34 rfl
theorem a_Bh_senseAll_38 : dk_at b_Bh_senseAll 38 t_Bh_senseAll_38 := dk_go 1 a_Bh_senseAll_37 rfl
theorem a_Bh_senseAll_39 : dk_at b_Bh_senseAll 39 t_Bh_senseAll_39 := dk_go 1 a_Bh_senseAll_38 rfl
theorem a_Bh_senseAll_42 : dk_at b_Bh_senseAll 42 t_Bh_senseAll_42 := dk_go 3 a_Bh_senseAll_39 rfl
theorem a_Bh_senseAll_43 : dk_at b_Bh_senseAll 43 t_Bh_senseAll_43 := dk_go 1 a_Bh_senseAll_42 rfl
theorem a_Bh_senseAll_44 : dk_at b_Bh_senseAll 44 t_Bh_senseAll_44 := dk_go 1 a_Bh_senseAll_43 rfl
theorem a_Bh_senseAll_47 : dk_at b_Bh_senseAll 47 t_Bh_senseAll_47 := dk_go 3 a_Bh_senseAll_44 rfl
theorem a_Bh_senseAll_48 : dk_at b_Bh_senseAll 48 t_Bh_senseAll_48 := dk_go 1 a_Bh_senseAll_47 rfl
theorem a_Bh_senseAll_49 : dk_at b_Bh_senseAll 49 t_Bh_senseAll_49 := dk_go 1 a_Bh_senseAll_48 rfl
theorem a_Bh_senseAll_50 : dk_at b_Bh_senseAll 50 t_Bh_senseAll_50 := dk_go 1 a_Bh_senseAll_49 rfl
theorem a_Bh_senseAll_51 : dk_at b_Bh_senseAll 51 t_Bh_senseAll_51 := dk_go 1 a_Bh_senseAll_50 rfl
theorem a_Bh_senseAll_54 : dk_at b_Bh_senseAll 54 t_Bh_senseAll_54 := dk_go 3 a_Bh_senseAll_51 rfl
theorem a_Bh_senseAll_57 : dk_at b_Bh_senseAll 57 t_Bh_senseAll_57 := dk_go 3 a_Bh_senseAll_54 rfl
theorem a_Bh_senseAll_60 : dk_at b_Bh_senseAll 60 t_Bh_senseAll_60 := dk_go 3 a_Bh_senseAll_57 rfl
theorem a_Bh_senseAll_61 : dk_at b_Bh_senseAll 61 t_Bh_senseAll_61 := dk_go 1 a_Bh_senseAll_60 rfl
theorem a_Bh_senseAll_64 : dk_at b_Bh_senseAll 64 t_Bh_senseAll_64 := dk_go 3 a_Bh_senseAll_61 rfl
theorem a_Bh_senseAll_65 : dk_at b_Bh_senseAll 65 t_Bh_senseAll_65 := dk_go 1 a_Bh_senseAll_64 rfl
theorem a_Bh_senseAll_66 : dk_at b_Bh_senseAll 66 t_Bh_senseAll_66 := dk_go 1 a_Bh_senseAll_65 rfl
theorem a_Bh_senseAll_69 : dk_at b_Bh_senseAll 69 t_Bh_senseAll_69 := dk_go 3 a_Bh_senseAll_66 rfl
theorem a_Bh_senseAll_72 : dk_at b_Bh_senseAll 72 t_Bh_senseAll_72 := dk_go 3 a_Bh_senseAll_69 rfl
theorem a_Bh_senseAll_73 : dk_at b_Bh_senseAll 73 t_Bh_senseAll_73 := dk_go 1 a_Bh_senseAll_72 rfl
theorem a_Bh_senseAll_74 : dk_at b_Bh_senseAll 74 t_Bh_senseAll_74 := dk_go 1 a_Bh_senseAll_73 rfl
theorem a_Bh_senseAll_75 : dk_at b_Bh_senseAll 75 t_Bh_senseAll_75 := dk_go 1 a_Bh_senseAll_74 rfl
theorem a_Bh_senseAll_76 : dk_at b_Bh_senseAll 76 t_Bh_senseAll_76 := dk_go 1 a_Bh_senseAll_75 rfl
theorem a_Bh_senseAll_77 : dk_at b_Bh_senseAll 77 t_Bh_senseAll_77 := dk_go 1 a_Bh_senseAll_76 rfl
theorem a_Bh_senseAll_79 : dk_at b_Bh_senseAll 79 t_Bh_senseAll_79 := dk_go 2 a_Bh_senseAll_77 rfl
theorem a_Bh_senseAll_82 : dk_at b_Bh_senseAll 82 t_Bh_senseAll_82 := dk_go 3 a_Bh_senseAll_79 rfl
theorem a_Bh_senseAll_83 : dk_at b_Bh_senseAll 83 t_Bh_senseAll_83 := dk_go 1 a_Bh_senseAll_82 rfl
theorem a_Bh_senseAll_86 : dk_at b_Bh_senseAll 86 t_Bh_senseAll_86 := dk_go 3 a_Bh_senseAll_83 rfl
theorem a_Bh_senseAll_87 : dk_at b_Bh_senseAll 87 t_Bh_senseAll_87 := dk_go 1 a_Bh_senseAll_86 rfl
theorem a_Bh_senseAll_88 : dk_at b_Bh_senseAll 88 t_Bh_senseAll_88 := dk_go 1 a_Bh_senseAll_87 rfl
theorem a_Bh_senseAll_89 : dk_at b_Bh_senseAll 89 t_Bh_senseAll_89 := dk_go 1 a_Bh_senseAll_88 rfl
theorem a_Bh_senseAll_92 : dk_at b_Bh_senseAll 92 t_Bh_senseAll_92 := dk_go 3 a_Bh_senseAll_89 rfl
theorem a_Bh_senseAll_93 : dk_at b_Bh_senseAll 93 t_Bh_senseAll_93 := dk_go 1 a_Bh_senseAll_92 rfl
theorem a_Bh_senseAll_94 : dk_at b_Bh_senseAll 94 t_Bh_senseAll_94 := dk_go 1 a_Bh_senseAll_93 rfl
theorem a_Bh_senseAll_97 : dk_at b_Bh_senseAll 97 t_Bh_senseAll_97 := dk_go 3 a_Bh_senseAll_94 rfl
theorem a_Bh_senseAll_98 : dk_at b_Bh_senseAll 98 t_Bh_senseAll_98 := dk_go 1 a_Bh_senseAll_97 rfl
theorem a_Bh_senseAll_99 : dk_at b_Bh_senseAll 99 t_Bh_senseAll_99 := dk_go 1 a_Bh_senseAll_98 rfl
theorem a_Bh_senseAll_100 : dk_at b_Bh_senseAll 100 t_Bh_senseAll_100 := dk_go 1 a_Bh_senseAll_99 rfl
theorem a_Bh_senseAll_103 : dk_at b_Bh_senseAll 103 t_Bh_senseAll_103 := dk_go 3 a_Bh_senseAll_100 rfl
theorem a_Bh_senseAll_104 : dk_at b_Bh_senseAll 104 t_Bh_senseAll_104 := dk_go 1 a_Bh_senseAll_103 rfl
theorem a_Bh_senseAll_105 : dk_at b_Bh_senseAll 105 t_Bh_senseAll_105 := dk_go 1 a_Bh_senseAll_104 rfl
theorem a_Bh_senseAll_108 : dk_at b_Bh_senseAll 108 t_Bh_senseAll_108 := dk_go 3 a_Bh_senseAll_105 rfl
theorem a_Bh_senseAll_110 : dk_at b_Bh_senseAll 110 t_Bh_senseAll_110 := dk_go 2 a_Bh_senseAll_108 rfl
theorem a_Bh_senseAll_111 : dk_at b_Bh_senseAll 111 t_Bh_senseAll_111 := dk_go 1 a_Bh_senseAll_110 rfl
theorem a_Bh_senseAll_113 : dk_at b_Bh_senseAll 113 t_Bh_senseAll_113 := dk_go 2 a_Bh_senseAll_111 rfl
theorem a_Bh_senseAll_114 : dk_at b_Bh_senseAll 114 t_Bh_senseAll_114 := dk_go 1 a_Bh_senseAll_113 rfl
theorem a_Bh_senseAll_115 : dk_at b_Bh_senseAll 115 t_Bh_senseAll_115 := dk_go 1 a_Bh_senseAll_114 rfl
theorem a_Bh_senseAll_118 : dk_at b_Bh_senseAll 118 t_Bh_senseAll_118 := dk_go 3 a_Bh_senseAll_115 rfl
theorem a_Bh_senseAll_120 : dk_at b_Bh_senseAll 120 t_Bh_senseAll_120 := dk_go 2 a_Bh_senseAll_118 rfl
theorem a_Bh_senseAll_121 : dk_at b_Bh_senseAll 121 t_Bh_senseAll_121 := dk_go 1 a_Bh_senseAll_120 rfl
theorem a_Bh_senseAll_124 : dk_at b_Bh_senseAll 124 t_Bh_senseAll_124 := dk_go 3 a_Bh_senseAll_121 rfl
theorem a_Bh_senseAll_125 : dk_at b_Bh_senseAll 125 t_Bh_senseAll_125 := dk_go 1 a_Bh_senseAll_124 rfl
theorem a_Bh_senseAll_126 : dk_at b_Bh_senseAll 126 t_Bh_senseAll_126 := dk_go 1 a_Bh_senseAll_125 rfl
theorem a_Bh_senseAll_127 : dk_at b_Bh_senseAll 127 t_Bh_senseAll_127 := dk_go 1 a_Bh_senseAll_126 rfl
theorem a_Bh_senseAll_130 : dk_at b_Bh_senseAll 130 t_Bh_senseAll_130 := dk_go 3 a_Bh_senseAll_127 rfl
theorem a_Bh_senseAll_131 : dk_at b_Bh_senseAll 131 t_Bh_senseAll_131 := dk_go 1 a_Bh_senseAll_130 rfl
theorem a_Bh_senseAll_132 : dk_at b_Bh_senseAll 132 t_Bh_senseAll_132 := dk_go 1 a_Bh_senseAll_131 rfl
theorem a_Bh_senseAll_133 : dk_at b_Bh_senseAll 133 t_Bh_senseAll_133 := dk_go 1 a_Bh_senseAll_132 rfl
theorem a_Bh_senseAll_136 : dk_at b_Bh_senseAll 136 t_Bh_senseAll_136 := dk_go 3 a_Bh_senseAll_133 rfl
theorem a_Bh_senseAll_137 : dk_at b_Bh_senseAll 137 t_Bh_senseAll_137 := dk_go 1 a_Bh_senseAll_136 rfl
theorem a_Bh_senseAll_138 : dk_at b_Bh_senseAll 138 t_Bh_senseAll_138 := dk_go 1 a_Bh_senseAll_137 rfl
theorem a_Bh_senseAll_139 : dk_at b_Bh_senseAll 139 t_Bh_senseAll_139 := dk_go 1 a_Bh_senseAll_138 rfl
theorem a_Bh_senseAll_142 : dk_at b_Bh_senseAll 142 t_Bh_senseAll_142 := dk_go 3 a_Bh_senseAll_139 rfl
theorem a_Bh_senseAll_145 : dk_at b_Bh_senseAll 145 t_Bh_senseAll_145 := dk_go 3 a_Bh_senseAll_142 rfl
theorem a_Bh_senseAll_146 : dk_at b_Bh_senseAll 146 t_Bh_senseAll_146 := dk_go 1 a_Bh_senseAll_145 rfl
theorem a_Bh_senseAll_149 : dk_at b_Bh_senseAll 149 t_Bh_senseAll_149 := dk_go 3 a_Bh_senseAll_146 rfl
theorem a_Bh_senseAll_152 : dk_at b_Bh_senseAll 152 t_Bh_senseAll_152 := dk_go 3 a_Bh_senseAll_149 rfl
theorem a_Bh_senseAll_153 : dk_at b_Bh_senseAll 153 t_Bh_senseAll_153 := dk_go 1 a_Bh_senseAll_152 rfl
theorem a_Bh_senseAll_156 : dk_at b_Bh_senseAll 156 t_Bh_senseAll_156 := dk_go 3 a_Bh_senseAll_153 rfl
theorem d_Bh_senseAll_0 : decode b_Bh_senseAll 0 = .ok (.aload_n 0, 1) := dk_0 a_Bh_senseAll_0 (dko_42 _)
theorem d_Bh_senseAll_1 : decode b_Bh_senseAll 1 = .ok (.getfield 62, 3) := dk_U2 a_Bh_senseAll_1 (dko_180 _) rfl
theorem d_Bh_senseAll_4 : decode b_Bh_senseAll 4 = .ok (.getfield 183, 3) := dk_U2 a_Bh_senseAll_4 (dko_180 _) rfl
theorem d_Bh_senseAll_7 : decode b_Bh_senseAll 7 = .ok (.astore_n 1, 1) := dk_0 a_Bh_senseAll_7 (dko_76 _)
theorem d_Bh_senseAll_8 : decode b_Bh_senseAll 8 = .ok (.iconst 0, 1) := dk_0 a_Bh_senseAll_8 (dko_3 _)
theorem d_Bh_senseAll_9 : decode b_Bh_senseAll 9 = .ok (.istore_n 2, 1) := dk_0 a_Bh_senseAll_9 (dko_61 _)
theorem d_Bh_senseAll_10 : decode b_Bh_senseAll 10 = .ok (.iload_n 2, 1) := dk_0 a_Bh_senseAll_10 (dko_28 _)
theorem d_Bh_senseAll_11 : decode b_Bh_senseAll 11 = .ok (.aload_n 1, 1) := dk_0 a_Bh_senseAll_11 (dko_43 _)
theorem d_Bh_senseAll_12 : decode b_Bh_senseAll 12 = .ok (.getfield 292, 3) := dk_U2 a_Bh_senseAll_12 (dko_180 _) rfl
theorem d_Bh_senseAll_15 : decode b_Bh_senseAll 15 = .ok (.if_icmp .ge 57, 3) := dk_S2 a_Bh_senseAll_15 (dko_162 _) (by decide +kernel)
theorem d_Bh_senseAll_72 : decode b_Bh_senseAll 72 = .ok (.iconst 0, 1) := dk_0 a_Bh_senseAll_72 (dko_3 _)
theorem d_Bh_senseAll_73 : decode b_Bh_senseAll 73 = .ok (.istore_n 2, 1) := dk_0 a_Bh_senseAll_73 (dko_61 _)
theorem d_Bh_senseAll_74 : decode b_Bh_senseAll 74 = .ok (.iconst 0, 1) := dk_0 a_Bh_senseAll_74 (dko_3 _)
theorem d_Bh_senseAll_75 : decode b_Bh_senseAll 75 = .ok (.istore_n 3, 1) := dk_0 a_Bh_senseAll_75 (dko_62 _)
theorem d_Bh_senseAll_76 : decode b_Bh_senseAll 76 = .ok (.iload_n 3, 1) := dk_0 a_Bh_senseAll_76 (dko_29 _)
theorem d_Bh_senseAll_77 : decode b_Bh_senseAll 77 = .ok (.bipush 16, 2) := dk_S1 a_Bh_senseAll_77 (dko_16 _) (by decide +kernel)
theorem d_Bh_senseAll_79 : decode b_Bh_senseAll 79 = .ok (.if_icmp .ge 66, 3) := dk_S2 a_Bh_senseAll_79 (dko_162 _) (by decide +kernel)
theorem d_Bh_senseAll_82 : decode b_Bh_senseAll 82 = .ok (.aload_n 0, 1) := dk_0 a_Bh_senseAll_82 (dko_42 _)
theorem d_Bh_senseAll_83 : decode b_Bh_senseAll 83 = .ok (.getfield 98, 3) := dk_U2 a_Bh_senseAll_83 (dko_180 _) rfl
theorem d_Bh_senseAll_86 : decode b_Bh_senseAll 86 = .ok (.iload_n 3, 1) := dk_0 a_Bh_senseAll_86 (dko_29 _)
theorem d_Bh_senseAll_87 : decode b_Bh_senseAll 87 = .ok (.iaload, 1) := dk_0 a_Bh_senseAll_87 (dko_46 _)
theorem d_Bh_senseAll_88 : decode b_Bh_senseAll 88 = .ok (.iconst 5, 1) := dk_0 a_Bh_senseAll_88 (dko_8 _)
theorem d_Bh_senseAll_89 : decode b_Bh_senseAll 89 = .ok (.if_icmp .ge 50, 3) := dk_S2 a_Bh_senseAll_89 (dko_162 _) (by decide +kernel)
theorem d_Bh_senseAll_139 : decode b_Bh_senseAll 139 = .ok (.iinc 3 1, 3) := dk_US a_Bh_senseAll_139 (dko_132 _) (by decide +kernel)
theorem d_Bh_senseAll_142 : decode b_Bh_senseAll 142 = .ok (.goto (-66), 3) := dk_S2 a_Bh_senseAll_142 (dko_167 _) (by decide +kernel)
theorem d_Bh_senseAll_145 : decode b_Bh_senseAll 145 = .ok (.aload_n 0, 1) := dk_0 a_Bh_senseAll_145 (dko_42 _)
theorem d_Bh_senseAll_146 : decode b_Bh_senseAll 146 = .ok (.getfield 53, 3) := dk_U2 a_Bh_senseAll_146 (dko_180 _) rfl
theorem d_Bh_senseAll_149 : decode b_Bh_senseAll 149 = .ok (.getfield 174, 3) := dk_U2 a_Bh_senseAll_149 (dko_180 _) rfl
theorem d_Bh_senseAll_152 : decode b_Bh_senseAll 152 = .ok (.iload_n 2, 1) := dk_0 a_Bh_senseAll_152 (dko_28 _)
theorem d_Bh_senseAll_153 : decode b_Bh_senseAll 153 = .ok (.putfield 177, 3) := dk_U2 a_Bh_senseAll_153 (dko_181 _) rfl
theorem d_Bh_senseAll_156 : decode b_Bh_senseAll 156 = .ok (.return_, 1) := dk_0 a_Bh_senseAll_156 (dko_177 _)
set_option maxHeartbeats 4000000 in
set_option maxRecDepth 100000 in
theorem c_Bh_senseAll (l : Launch) (dC : Nat → ClassId) (dI : Nat → Nat → Nat) (cI cB cZ cJ : ClassId) (oB : Nat) (oRu : Nat) (oG1 : Nat) (xb_watchWhat : Nat) (oAc : Nat) (oR1 : Nat) (xb : List Value) (hb_acts : fx xb 5 (.ref oAc)) (hb_run : fx xb 6 (.ref oRu)) (hb_watchWhat : fx xb 13 (.ref xb_watchWhat)) (xn : List Value) (hru_program : fx xn 3 (.ref oG1)) (xg : List Value) (hxg_names : fx xg 10 (.int 0)) (xc : List Value) (hac_rows : fx xc 3 (.ref oR1)) (xr : List Value) (hxr_conditions : fx xr 1 (.int 0)) (sz : Nat) : Met l y_Bh_senseAll w_Bh_senseAll ({ frames := 0, cells := 0, slots := 0, locals := 0 }) (va_Pc [.ref oB] (PW dC dI cI cB cZ cJ [(oB, .inr (0, xb)), (oRu, .inr (10, xn)), (oG1, .inr (8, xg)), (xb_watchWhat, .inl (cI, 16, .inl (fun _ => 5))), (oAc, .inr (11, xc)), (oR1, .inr (7, xr))] sz)) (va_Qv (fun _ : Unit => True) (fun (_ : Unit) (t : State) => fx xb 5 (.ref oAc) ∧ fx xb 6 (.ref oRu) ∧ fx xb 13 (.ref xb_watchWhat) ∧ fx xn 3 (.ref oG1) ∧ fx xg 10 (.int 0) ∧ fx xc 3 (.ref oR1) ∧ fx xr 1 (.int 0) ∧ va_P (dC, dI) classes [(oB, .inr (0, xb)), (oRu, .inr (10, xn)), (oG1, .inr (8, xg)), (xb_watchWhat, .inl (cI, 16, .inl (fun _ => 5))), (oAc, .inr (11, xc)), (oR1, .inr (7, xr))] t.heap ∧ va_D (va_A [(oB, .inr (0, xb)), (oRu, .inr (10, xn)), (oG1, .inr (8, xg)), (xb_watchWhat, .inl (cI, 16, .inl (fun _ => 5))), (oAc, .inr (11, xc)), (oR1, .inr (7, xr))] sz) [(oB, .inr (0, xb)), (oRu, .inr (10, xn)), (oG1, .inr (8, xg)), (xb_watchWhat, .inl (cI, 16, .inl (fun _ => 5))), (oAc, .inr (11, xc)), (oR1, .inr (7, xr))]) (va_A [(oB, .inr (0, xb)), (oRu, .inr (10, xn)), (oG1, .inr (8, xg)), (xb_watchWhat, .inl (cI, 16, .inl (fun _ => 5))), (oAc, .inr (11, xc)), (oR1, .inr (7, xr))] sz)) 0 0 (va_A [(oB, .inr (0, xb)), (oRu, .inr (10, xn)), (oG1, .inr (8, xg)), (xb_watchWhat, .inl (cI, 16, .inl (fun _ => 5))), (oAc, .inr (11, xc)), (oR1, .inr (7, xr))] sz) := by
  refine Met.ofW (cc := b_Bh_senseAll) (maxL := 6) (ret := none) (by decide) rfl ?_
  intro p e s m args below meth c s₁ B hml hv
  obtain ⟨rfl, hsz, hP, hK, hD⟩ := hv
  have hx := B.exec
  have hb := B.bytes
  have hr := B.returns
  have hts := atoms_spec (ws := w_Bh_senseAll) B.pre
  have hown : s.vm.findClass R_Bh = some m.cls := findClass_of_methodNamed B.named
  have hlocks := B.notSynchronized
  subst hsz
  have hD := hD.self (sz := s.heap.size)
  generalize hAe : va_A [(oB, .inr (0, xb)), (oRu, .inr (10, xn)), (oG1, .inr (8, xg)), (xb_watchWhat, .inl (cI, 16, .inl (fun _ => 5))), (oAc, .inr (11, xc)), (oR1, .inr (7, xr))] s.heap.size = A at hD ⊢
  have hA : ∀ q : Nat, s.heap.size ≤ q → A q := fun q h => by rw [← hAe]; exact Or.inr h
  have hS : va_S A s.heap s.heap [] := va_S.rf
  have hP : va_P (dC, dI) classes [(oB, .inr (0, xb)), (oRu, .inr (10, xn)), (oG1, .inr (8, xg)), (xb_watchWhat, .inl (cI, 16, .inl (fun _ => 5))), (oAc, .inr (11, xc)), (oR1, .inr (7, xr))] s.heap := hP
  have hl := lv_entry ([.ref oB]) (n := 6) (Nat.le_of_ble_eq_true rfl)
  rw [lg_entry_eq]
  generalize (lg_sl ([.ref oB]) ++ List.replicate (6 - (lg_sl ([.ref oB])).length) Slot.unset).toArray = ls at hl ⊢
  have hl : lv_has ls 6 [(0, .ref oB)] := hl
  refine lv_aload_n hx hb d_Bh_senseAll_0 rfl (lv_at hl 0 rfl) ?_
  refine va_get (D := (dC, dI)) (ci := 0) (v := .ref oRu) (C := R_Bh) (T := F_Bh) (N := 16) hx hb hts (fun w h => List.mem_cons_of_mem _ (in_Bh w h)) hown hK.1 hP 0 rfl rfl 6 (by decide) (hts _ (List.mem_cons_of_mem _ mw_690)) (fun _ h9 => h9) hb_run d_Bh_senseAll_1 ?_
  refine va_get (D := (dC, dI)) (ci := 10) (v := .ref oG1) (C := R_Ru) (T := F_Ru) (N := 21) hx hb hts (fun w h => List.mem_cons_of_mem _ (in_Ru w h)) hown hK.1 hP 1 rfl rfl 3 (by decide) (hts _ (List.mem_cons_of_mem _ mw_515)) (fun _ h9 => h9) hru_program d_Bh_senseAll_4 ?_
  refine lv_astore_n hx hb d_Bh_senseAll_7 rfl hl (by decide) rfl (fun ls hl => ?_)
  have hl : lv_has ls 6 [(1, .ref oG1), (0, .ref oB)] := hl
  refine lv_iconst (v := 0) hx hb d_Bh_senseAll_8 (by decide) ?_
  refine lv_istore_n hx hb d_Bh_senseAll_9 rfl hl (by decide) rfl (fun ls hl => ?_)
  have hl : lv_has ls 6 [(2, .int 0), (1, .ref oG1), (0, .ref oB)] := hl
  refine lv_iload_n hx hb d_Bh_senseAll_10 rfl (lv_at hl 0 rfl) ?_
  refine lv_aload_n hx hb d_Bh_senseAll_11 rfl (lv_at hl 1 rfl) ?_
  refine va_get (D := (dC, dI)) (ci := 8) (v := .int 0) (C := R_Pr) (T := F_Pr) (N := 18) hx hb hts (fun w h => List.mem_cons_of_mem _ (in_Pr w h)) hown hK.1 hP 2 rfl rfl 10 (by decide) (hts _ (List.mem_cons_of_mem _ mw_459)) (fun _ h9 => h9) hxg_names d_Bh_senseAll_12 ?_
  refine lv_icmp_ge (tgt := 72) hx hb d_Bh_senseAll_15 (by decide) (fun _ => ?_) (fun h => absurd (by decide) h)
  refine lv_iconst (v := 0) hx hb d_Bh_senseAll_72 (by decide) ?_
  refine lv_istore_n hx hb d_Bh_senseAll_73 rfl hl (by decide) rfl (fun ls hl => ?_)
  have hl : lv_has ls 6 [(2, .int 0), (1, .ref oG1), (0, .ref oB)] := hl
  refine lv_iconst (v := 0) hx hb d_Bh_senseAll_74 (by decide) ?_
  refine lv_istore_n hx hb d_Bh_senseAll_75 rfl hl (by decide) rfl (fun ls hl => ?_)
  have hl : lv_has ls 6 [(3, .int 0), (2, .int 0), (1, .ref oG1), (0, .ref oB)] := hl
  refine lv_iload_n hx hb d_Bh_senseAll_76 rfl (lv_at hl 0 rfl) ?_
  refine lv_bipush (v := 16) hx hb d_Bh_senseAll_77 (by decide) ?_
  refine lv_icmp_ge (tgt := 145) hx hb d_Bh_senseAll_79 (by decide) (fun h => absurd h (by decide)) (fun _ => ?_)
  refine lv_aload_n hx hb d_Bh_senseAll_82 rfl (lv_at hl 3 rfl) ?_
  refine va_get (D := (dC, dI)) (ci := 0) (v := .ref xb_watchWhat) (C := R_Bh) (T := F_Bh) (N := 16) hx hb hts (fun w h => List.mem_cons_of_mem _ (in_Bh w h)) hown hK.1 hP 0 rfl rfl 13 (by decide) (hts _ (List.mem_cons_of_mem _ mw_697)) (fun _ h9 => h9) hb_watchWhat d_Bh_senseAll_83 ?_
  refine lv_iload_n hx hb d_Bh_senseAll_86 rfl (lv_at hl 0 rfl) ?_
  refine va_iald hx hb hK.1 hP 3 0 rfl rfl (vp_in_iff.mpr (by decide)) d_Bh_senseAll_87 ?_
  refine lv_iconst (v := 5) hx hb d_Bh_senseAll_88 (by decide) ?_
  refine lv_icmp_ge (tgt := 139) hx hb d_Bh_senseAll_89 (by decide) (fun _ => ?_) (fun h => absurd (by decide) h)
  refine lv_iinc (k := 0) (v := 1) hx hb d_Bh_senseAll_139 hl rfl (by first | rfl | decide | exact nI_1 i | exact pv_1 j hj) (by decide) rfl (fun ls hl => ?_)
  have hl : lv_has ls 6 [(3, .int 1), (2, .int 0), (1, .ref oG1), (0, .ref oB)] := hl
  refine lv_goto (tgt := 76) hx hb d_Bh_senseAll_142 (by decide) ?_
  refine lv_iload_n hx hb d_Bh_senseAll_76 rfl (lv_at hl 0 rfl) ?_
  refine lv_bipush (v := 16) hx hb d_Bh_senseAll_77 (by decide) ?_
  refine lv_icmp_ge (tgt := 145) hx hb d_Bh_senseAll_79 (by decide) (fun h => absurd h (by decide)) (fun _ => ?_)
  refine lv_aload_n hx hb d_Bh_senseAll_82 rfl (lv_at hl 3 rfl) ?_
  refine va_get (D := (dC, dI)) (ci := 0) (v := .ref xb_watchWhat) (C := R_Bh) (T := F_Bh) (N := 16) hx hb hts (fun w h => List.mem_cons_of_mem _ (in_Bh w h)) hown hK.1 hP 0 rfl rfl 13 (by decide) (hts _ (List.mem_cons_of_mem _ mw_697)) (fun _ h9 => h9) hb_watchWhat d_Bh_senseAll_83 ?_
  refine lv_iload_n hx hb d_Bh_senseAll_86 rfl (lv_at hl 0 rfl) ?_
  refine va_iald hx hb hK.1 hP 3 0 rfl rfl (vp_in_iff.mpr (by decide)) d_Bh_senseAll_87 ?_
  refine lv_iconst (v := 5) hx hb d_Bh_senseAll_88 (by decide) ?_
  refine lv_icmp_ge (tgt := 139) hx hb d_Bh_senseAll_89 (by decide) (fun _ => ?_) (fun h => absurd (by decide) h)
  refine lv_iinc (k := 0) (v := 2) hx hb d_Bh_senseAll_139 hl rfl (by first | rfl | decide | exact nI_1 i | exact pv_1 j hj) (by decide) rfl (fun ls hl => ?_)
  have hl : lv_has ls 6 [(3, .int 2), (2, .int 0), (1, .ref oG1), (0, .ref oB)] := hl
  refine lv_goto (tgt := 76) hx hb d_Bh_senseAll_142 (by decide) ?_
  refine lv_iload_n hx hb d_Bh_senseAll_76 rfl (lv_at hl 0 rfl) ?_
  refine lv_bipush (v := 16) hx hb d_Bh_senseAll_77 (by decide) ?_
  refine lv_icmp_ge (tgt := 145) hx hb d_Bh_senseAll_79 (by decide) (fun h => absurd h (by decide)) (fun _ => ?_)
  refine lv_aload_n hx hb d_Bh_senseAll_82 rfl (lv_at hl 3 rfl) ?_
  refine va_get (D := (dC, dI)) (ci := 0) (v := .ref xb_watchWhat) (C := R_Bh) (T := F_Bh) (N := 16) hx hb hts (fun w h => List.mem_cons_of_mem _ (in_Bh w h)) hown hK.1 hP 0 rfl rfl 13 (by decide) (hts _ (List.mem_cons_of_mem _ mw_697)) (fun _ h9 => h9) hb_watchWhat d_Bh_senseAll_83 ?_
  refine lv_iload_n hx hb d_Bh_senseAll_86 rfl (lv_at hl 0 rfl) ?_
  refine va_iald hx hb hK.1 hP 3 0 rfl rfl (vp_in_iff.mpr (by decide)) d_Bh_senseAll_87 ?_
  refine lv_iconst (v := 5) hx hb d_Bh_senseAll_88 (by decide) ?_
  refine lv_icmp_ge (tgt := 139) hx hb d_Bh_senseAll_89 (by decide) (fun _ => ?_) (fun h => absurd (by decide) h)
  refine lv_iinc (k := 0) (v := 3) hx hb d_Bh_senseAll_139 hl rfl (by first | rfl | decide | exact nI_1 i | exact pv_1 j hj) (by decide) rfl (fun ls hl => ?_)
  have hl : lv_has ls 6 [(3, .int 3), (2, .int 0), (1, .ref oG1), (0, .ref oB)] := hl
  refine lv_goto (tgt := 76) hx hb d_Bh_senseAll_142 (by decide) ?_
  refine lv_iload_n hx hb d_Bh_senseAll_76 rfl (lv_at hl 0 rfl) ?_
  refine lv_bipush (v := 16) hx hb d_Bh_senseAll_77 (by decide) ?_
  refine lv_icmp_ge (tgt := 145) hx hb d_Bh_senseAll_79 (by decide) (fun h => absurd h (by decide)) (fun _ => ?_)
  refine lv_aload_n hx hb d_Bh_senseAll_82 rfl (lv_at hl 3 rfl) ?_
  refine va_get (D := (dC, dI)) (ci := 0) (v := .ref xb_watchWhat) (C := R_Bh) (T := F_Bh) (N := 16) hx hb hts (fun w h => List.mem_cons_of_mem _ (in_Bh w h)) hown hK.1 hP 0 rfl rfl 13 (by decide) (hts _ (List.mem_cons_of_mem _ mw_697)) (fun _ h9 => h9) hb_watchWhat d_Bh_senseAll_83 ?_
  refine lv_iload_n hx hb d_Bh_senseAll_86 rfl (lv_at hl 0 rfl) ?_
  refine va_iald hx hb hK.1 hP 3 0 rfl rfl (vp_in_iff.mpr (by decide)) d_Bh_senseAll_87 ?_
  refine lv_iconst (v := 5) hx hb d_Bh_senseAll_88 (by decide) ?_
  refine lv_icmp_ge (tgt := 139) hx hb d_Bh_senseAll_89 (by decide) (fun _ => ?_) (fun h => absurd (by decide) h)
  refine lv_iinc (k := 0) (v := 4) hx hb d_Bh_senseAll_139 hl rfl (by first | rfl | decide | exact nI_1 i | exact pv_1 j hj) (by decide) rfl (fun ls hl => ?_)
  have hl : lv_has ls 6 [(3, .int 4), (2, .int 0), (1, .ref oG1), (0, .ref oB)] := hl
  refine lv_goto (tgt := 76) hx hb d_Bh_senseAll_142 (by decide) ?_
  refine lv_iload_n hx hb d_Bh_senseAll_76 rfl (lv_at hl 0 rfl) ?_
  refine lv_bipush (v := 16) hx hb d_Bh_senseAll_77 (by decide) ?_
  refine lv_icmp_ge (tgt := 145) hx hb d_Bh_senseAll_79 (by decide) (fun h => absurd h (by decide)) (fun _ => ?_)
  refine lv_aload_n hx hb d_Bh_senseAll_82 rfl (lv_at hl 3 rfl) ?_
  refine va_get (D := (dC, dI)) (ci := 0) (v := .ref xb_watchWhat) (C := R_Bh) (T := F_Bh) (N := 16) hx hb hts (fun w h => List.mem_cons_of_mem _ (in_Bh w h)) hown hK.1 hP 0 rfl rfl 13 (by decide) (hts _ (List.mem_cons_of_mem _ mw_697)) (fun _ h9 => h9) hb_watchWhat d_Bh_senseAll_83 ?_
  refine lv_iload_n hx hb d_Bh_senseAll_86 rfl (lv_at hl 0 rfl) ?_
  refine va_iald hx hb hK.1 hP 3 0 rfl rfl (vp_in_iff.mpr (by decide)) d_Bh_senseAll_87 ?_
  refine lv_iconst (v := 5) hx hb d_Bh_senseAll_88 (by decide) ?_
  refine lv_icmp_ge (tgt := 139) hx hb d_Bh_senseAll_89 (by decide) (fun _ => ?_) (fun h => absurd (by decide) h)
  refine lv_iinc (k := 0) (v := 5) hx hb d_Bh_senseAll_139 hl rfl (by first | rfl | decide | exact nI_1 i | exact pv_1 j hj) (by decide) rfl (fun ls hl => ?_)
  have hl : lv_has ls 6 [(3, .int 5), (2, .int 0), (1, .ref oG1), (0, .ref oB)] := hl
  refine lv_goto (tgt := 76) hx hb d_Bh_senseAll_142 (by decide) ?_
  refine lv_iload_n hx hb d_Bh_senseAll_76 rfl (lv_at hl 0 rfl) ?_
  refine lv_bipush (v := 16) hx hb d_Bh_senseAll_77 (by decide) ?_
  refine lv_icmp_ge (tgt := 145) hx hb d_Bh_senseAll_79 (by decide) (fun h => absurd h (by decide)) (fun _ => ?_)
  refine lv_aload_n hx hb d_Bh_senseAll_82 rfl (lv_at hl 3 rfl) ?_
  refine va_get (D := (dC, dI)) (ci := 0) (v := .ref xb_watchWhat) (C := R_Bh) (T := F_Bh) (N := 16) hx hb hts (fun w h => List.mem_cons_of_mem _ (in_Bh w h)) hown hK.1 hP 0 rfl rfl 13 (by decide) (hts _ (List.mem_cons_of_mem _ mw_697)) (fun _ h9 => h9) hb_watchWhat d_Bh_senseAll_83 ?_
  refine lv_iload_n hx hb d_Bh_senseAll_86 rfl (lv_at hl 0 rfl) ?_
  refine va_iald hx hb hK.1 hP 3 0 rfl rfl (vp_in_iff.mpr (by decide)) d_Bh_senseAll_87 ?_
  refine lv_iconst (v := 5) hx hb d_Bh_senseAll_88 (by decide) ?_
  refine lv_icmp_ge (tgt := 139) hx hb d_Bh_senseAll_89 (by decide) (fun _ => ?_) (fun h => absurd (by decide) h)
  refine lv_iinc (k := 0) (v := 6) hx hb d_Bh_senseAll_139 hl rfl (by first | rfl | decide | exact nI_1 i | exact pv_1 j hj) (by decide) rfl (fun ls hl => ?_)
  have hl : lv_has ls 6 [(3, .int 6), (2, .int 0), (1, .ref oG1), (0, .ref oB)] := hl
  refine lv_goto (tgt := 76) hx hb d_Bh_senseAll_142 (by decide) ?_
  refine lv_iload_n hx hb d_Bh_senseAll_76 rfl (lv_at hl 0 rfl) ?_
  refine lv_bipush (v := 16) hx hb d_Bh_senseAll_77 (by decide) ?_
  refine lv_icmp_ge (tgt := 145) hx hb d_Bh_senseAll_79 (by decide) (fun h => absurd h (by decide)) (fun _ => ?_)
  refine lv_aload_n hx hb d_Bh_senseAll_82 rfl (lv_at hl 3 rfl) ?_
  refine va_get (D := (dC, dI)) (ci := 0) (v := .ref xb_watchWhat) (C := R_Bh) (T := F_Bh) (N := 16) hx hb hts (fun w h => List.mem_cons_of_mem _ (in_Bh w h)) hown hK.1 hP 0 rfl rfl 13 (by decide) (hts _ (List.mem_cons_of_mem _ mw_697)) (fun _ h9 => h9) hb_watchWhat d_Bh_senseAll_83 ?_
  refine lv_iload_n hx hb d_Bh_senseAll_86 rfl (lv_at hl 0 rfl) ?_
  refine va_iald hx hb hK.1 hP 3 0 rfl rfl (vp_in_iff.mpr (by decide)) d_Bh_senseAll_87 ?_
  refine lv_iconst (v := 5) hx hb d_Bh_senseAll_88 (by decide) ?_
  refine lv_icmp_ge (tgt := 139) hx hb d_Bh_senseAll_89 (by decide) (fun _ => ?_) (fun h => absurd (by decide) h)
  refine lv_iinc (k := 0) (v := 7) hx hb d_Bh_senseAll_139 hl rfl (by first | rfl | decide | exact nI_1 i | exact pv_1 j hj) (by decide) rfl (fun ls hl => ?_)
  have hl : lv_has ls 6 [(3, .int 7), (2, .int 0), (1, .ref oG1), (0, .ref oB)] := hl
  refine lv_goto (tgt := 76) hx hb d_Bh_senseAll_142 (by decide) ?_
  refine lv_iload_n hx hb d_Bh_senseAll_76 rfl (lv_at hl 0 rfl) ?_
  refine lv_bipush (v := 16) hx hb d_Bh_senseAll_77 (by decide) ?_
  refine lv_icmp_ge (tgt := 145) hx hb d_Bh_senseAll_79 (by decide) (fun h => absurd h (by decide)) (fun _ => ?_)
  refine lv_aload_n hx hb d_Bh_senseAll_82 rfl (lv_at hl 3 rfl) ?_
  refine va_get (D := (dC, dI)) (ci := 0) (v := .ref xb_watchWhat) (C := R_Bh) (T := F_Bh) (N := 16) hx hb hts (fun w h => List.mem_cons_of_mem _ (in_Bh w h)) hown hK.1 hP 0 rfl rfl 13 (by decide) (hts _ (List.mem_cons_of_mem _ mw_697)) (fun _ h9 => h9) hb_watchWhat d_Bh_senseAll_83 ?_
  refine lv_iload_n hx hb d_Bh_senseAll_86 rfl (lv_at hl 0 rfl) ?_
  refine va_iald hx hb hK.1 hP 3 0 rfl rfl (vp_in_iff.mpr (by decide)) d_Bh_senseAll_87 ?_
  refine lv_iconst (v := 5) hx hb d_Bh_senseAll_88 (by decide) ?_
  refine lv_icmp_ge (tgt := 139) hx hb d_Bh_senseAll_89 (by decide) (fun _ => ?_) (fun h => absurd (by decide) h)
  refine lv_iinc (k := 0) (v := 8) hx hb d_Bh_senseAll_139 hl rfl (by first | rfl | decide | exact nI_1 i | exact pv_1 j hj) (by decide) rfl (fun ls hl => ?_)
  have hl : lv_has ls 6 [(3, .int 8), (2, .int 0), (1, .ref oG1), (0, .ref oB)] := hl
  refine lv_goto (tgt := 76) hx hb d_Bh_senseAll_142 (by decide) ?_
  refine lv_iload_n hx hb d_Bh_senseAll_76 rfl (lv_at hl 0 rfl) ?_
  refine lv_bipush (v := 16) hx hb d_Bh_senseAll_77 (by decide) ?_
  refine lv_icmp_ge (tgt := 145) hx hb d_Bh_senseAll_79 (by decide) (fun h => absurd h (by decide)) (fun _ => ?_)
  refine lv_aload_n hx hb d_Bh_senseAll_82 rfl (lv_at hl 3 rfl) ?_
  refine va_get (D := (dC, dI)) (ci := 0) (v := .ref xb_watchWhat) (C := R_Bh) (T := F_Bh) (N := 16) hx hb hts (fun w h => List.mem_cons_of_mem _ (in_Bh w h)) hown hK.1 hP 0 rfl rfl 13 (by decide) (hts _ (List.mem_cons_of_mem _ mw_697)) (fun _ h9 => h9) hb_watchWhat d_Bh_senseAll_83 ?_
  refine lv_iload_n hx hb d_Bh_senseAll_86 rfl (lv_at hl 0 rfl) ?_
  refine va_iald hx hb hK.1 hP 3 0 rfl rfl (vp_in_iff.mpr (by decide)) d_Bh_senseAll_87 ?_
  refine lv_iconst (v := 5) hx hb d_Bh_senseAll_88 (by decide) ?_
  refine lv_icmp_ge (tgt := 139) hx hb d_Bh_senseAll_89 (by decide) (fun _ => ?_) (fun h => absurd (by decide) h)
  refine lv_iinc (k := 0) (v := 9) hx hb d_Bh_senseAll_139 hl rfl (by first | rfl | decide | exact nI_1 i | exact pv_1 j hj) (by decide) rfl (fun ls hl => ?_)
  have hl : lv_has ls 6 [(3, .int 9), (2, .int 0), (1, .ref oG1), (0, .ref oB)] := hl
  refine lv_goto (tgt := 76) hx hb d_Bh_senseAll_142 (by decide) ?_
  refine lv_iload_n hx hb d_Bh_senseAll_76 rfl (lv_at hl 0 rfl) ?_
  refine lv_bipush (v := 16) hx hb d_Bh_senseAll_77 (by decide) ?_
  refine lv_icmp_ge (tgt := 145) hx hb d_Bh_senseAll_79 (by decide) (fun h => absurd h (by decide)) (fun _ => ?_)
  refine lv_aload_n hx hb d_Bh_senseAll_82 rfl (lv_at hl 3 rfl) ?_
  refine va_get (D := (dC, dI)) (ci := 0) (v := .ref xb_watchWhat) (C := R_Bh) (T := F_Bh) (N := 16) hx hb hts (fun w h => List.mem_cons_of_mem _ (in_Bh w h)) hown hK.1 hP 0 rfl rfl 13 (by decide) (hts _ (List.mem_cons_of_mem _ mw_697)) (fun _ h9 => h9) hb_watchWhat d_Bh_senseAll_83 ?_
  refine lv_iload_n hx hb d_Bh_senseAll_86 rfl (lv_at hl 0 rfl) ?_
  refine va_iald hx hb hK.1 hP 3 0 rfl rfl (vp_in_iff.mpr (by decide)) d_Bh_senseAll_87 ?_
  refine lv_iconst (v := 5) hx hb d_Bh_senseAll_88 (by decide) ?_
  refine lv_icmp_ge (tgt := 139) hx hb d_Bh_senseAll_89 (by decide) (fun _ => ?_) (fun h => absurd (by decide) h)
  refine lv_iinc (k := 0) (v := 10) hx hb d_Bh_senseAll_139 hl rfl (by first | rfl | decide | exact nI_1 i | exact pv_1 j hj) (by decide) rfl (fun ls hl => ?_)
  have hl : lv_has ls 6 [(3, .int 10), (2, .int 0), (1, .ref oG1), (0, .ref oB)] := hl
  refine lv_goto (tgt := 76) hx hb d_Bh_senseAll_142 (by decide) ?_
  refine lv_iload_n hx hb d_Bh_senseAll_76 rfl (lv_at hl 0 rfl) ?_
  refine lv_bipush (v := 16) hx hb d_Bh_senseAll_77 (by decide) ?_
  refine lv_icmp_ge (tgt := 145) hx hb d_Bh_senseAll_79 (by decide) (fun h => absurd h (by decide)) (fun _ => ?_)
  refine lv_aload_n hx hb d_Bh_senseAll_82 rfl (lv_at hl 3 rfl) ?_
  refine va_get (D := (dC, dI)) (ci := 0) (v := .ref xb_watchWhat) (C := R_Bh) (T := F_Bh) (N := 16) hx hb hts (fun w h => List.mem_cons_of_mem _ (in_Bh w h)) hown hK.1 hP 0 rfl rfl 13 (by decide) (hts _ (List.mem_cons_of_mem _ mw_697)) (fun _ h9 => h9) hb_watchWhat d_Bh_senseAll_83 ?_
  refine lv_iload_n hx hb d_Bh_senseAll_86 rfl (lv_at hl 0 rfl) ?_
  refine va_iald hx hb hK.1 hP 3 0 rfl rfl (vp_in_iff.mpr (by decide)) d_Bh_senseAll_87 ?_
  refine lv_iconst (v := 5) hx hb d_Bh_senseAll_88 (by decide) ?_
  refine lv_icmp_ge (tgt := 139) hx hb d_Bh_senseAll_89 (by decide) (fun _ => ?_) (fun h => absurd (by decide) h)
  refine lv_iinc (k := 0) (v := 11) hx hb d_Bh_senseAll_139 hl rfl (by first | rfl | decide | exact nI_1 i | exact pv_1 j hj) (by decide) rfl (fun ls hl => ?_)
  have hl : lv_has ls 6 [(3, .int 11), (2, .int 0), (1, .ref oG1), (0, .ref oB)] := hl
  refine lv_goto (tgt := 76) hx hb d_Bh_senseAll_142 (by decide) ?_
  refine lv_iload_n hx hb d_Bh_senseAll_76 rfl (lv_at hl 0 rfl) ?_
  refine lv_bipush (v := 16) hx hb d_Bh_senseAll_77 (by decide) ?_
  refine lv_icmp_ge (tgt := 145) hx hb d_Bh_senseAll_79 (by decide) (fun h => absurd h (by decide)) (fun _ => ?_)
  refine lv_aload_n hx hb d_Bh_senseAll_82 rfl (lv_at hl 3 rfl) ?_
  refine va_get (D := (dC, dI)) (ci := 0) (v := .ref xb_watchWhat) (C := R_Bh) (T := F_Bh) (N := 16) hx hb hts (fun w h => List.mem_cons_of_mem _ (in_Bh w h)) hown hK.1 hP 0 rfl rfl 13 (by decide) (hts _ (List.mem_cons_of_mem _ mw_697)) (fun _ h9 => h9) hb_watchWhat d_Bh_senseAll_83 ?_
  refine lv_iload_n hx hb d_Bh_senseAll_86 rfl (lv_at hl 0 rfl) ?_
  refine va_iald hx hb hK.1 hP 3 0 rfl rfl (vp_in_iff.mpr (by decide)) d_Bh_senseAll_87 ?_
  refine lv_iconst (v := 5) hx hb d_Bh_senseAll_88 (by decide) ?_
  refine lv_icmp_ge (tgt := 139) hx hb d_Bh_senseAll_89 (by decide) (fun _ => ?_) (fun h => absurd (by decide) h)
  refine lv_iinc (k := 0) (v := 12) hx hb d_Bh_senseAll_139 hl rfl (by first | rfl | decide | exact nI_1 i | exact pv_1 j hj) (by decide) rfl (fun ls hl => ?_)
  have hl : lv_has ls 6 [(3, .int 12), (2, .int 0), (1, .ref oG1), (0, .ref oB)] := hl
  refine lv_goto (tgt := 76) hx hb d_Bh_senseAll_142 (by decide) ?_
  refine lv_iload_n hx hb d_Bh_senseAll_76 rfl (lv_at hl 0 rfl) ?_
  refine lv_bipush (v := 16) hx hb d_Bh_senseAll_77 (by decide) ?_
  refine lv_icmp_ge (tgt := 145) hx hb d_Bh_senseAll_79 (by decide) (fun h => absurd h (by decide)) (fun _ => ?_)
  refine lv_aload_n hx hb d_Bh_senseAll_82 rfl (lv_at hl 3 rfl) ?_
  refine va_get (D := (dC, dI)) (ci := 0) (v := .ref xb_watchWhat) (C := R_Bh) (T := F_Bh) (N := 16) hx hb hts (fun w h => List.mem_cons_of_mem _ (in_Bh w h)) hown hK.1 hP 0 rfl rfl 13 (by decide) (hts _ (List.mem_cons_of_mem _ mw_697)) (fun _ h9 => h9) hb_watchWhat d_Bh_senseAll_83 ?_
  refine lv_iload_n hx hb d_Bh_senseAll_86 rfl (lv_at hl 0 rfl) ?_
  refine va_iald hx hb hK.1 hP 3 0 rfl rfl (vp_in_iff.mpr (by decide)) d_Bh_senseAll_87 ?_
  refine lv_iconst (v := 5) hx hb d_Bh_senseAll_88 (by decide) ?_
  refine lv_icmp_ge (tgt := 139) hx hb d_Bh_senseAll_89 (by decide) (fun _ => ?_) (fun h => absurd (by decide) h)
  refine lv_iinc (k := 0) (v := 13) hx hb d_Bh_senseAll_139 hl rfl (by first | rfl | decide | exact nI_1 i | exact pv_1 j hj) (by decide) rfl (fun ls hl => ?_)
  have hl : lv_has ls 6 [(3, .int 13), (2, .int 0), (1, .ref oG1), (0, .ref oB)] := hl
  refine lv_goto (tgt := 76) hx hb d_Bh_senseAll_142 (by decide) ?_
  refine lv_iload_n hx hb d_Bh_senseAll_76 rfl (lv_at hl 0 rfl) ?_
  refine lv_bipush (v := 16) hx hb d_Bh_senseAll_77 (by decide) ?_
  refine lv_icmp_ge (tgt := 145) hx hb d_Bh_senseAll_79 (by decide) (fun h => absurd h (by decide)) (fun _ => ?_)
  refine lv_aload_n hx hb d_Bh_senseAll_82 rfl (lv_at hl 3 rfl) ?_
  refine va_get (D := (dC, dI)) (ci := 0) (v := .ref xb_watchWhat) (C := R_Bh) (T := F_Bh) (N := 16) hx hb hts (fun w h => List.mem_cons_of_mem _ (in_Bh w h)) hown hK.1 hP 0 rfl rfl 13 (by decide) (hts _ (List.mem_cons_of_mem _ mw_697)) (fun _ h9 => h9) hb_watchWhat d_Bh_senseAll_83 ?_
  refine lv_iload_n hx hb d_Bh_senseAll_86 rfl (lv_at hl 0 rfl) ?_
  refine va_iald hx hb hK.1 hP 3 0 rfl rfl (vp_in_iff.mpr (by decide)) d_Bh_senseAll_87 ?_
  refine lv_iconst (v := 5) hx hb d_Bh_senseAll_88 (by decide) ?_
  refine lv_icmp_ge (tgt := 139) hx hb d_Bh_senseAll_89 (by decide) (fun _ => ?_) (fun h => absurd (by decide) h)
  refine lv_iinc (k := 0) (v := 14) hx hb d_Bh_senseAll_139 hl rfl (by first | rfl | decide | exact nI_1 i | exact pv_1 j hj) (by decide) rfl (fun ls hl => ?_)
  have hl : lv_has ls 6 [(3, .int 14), (2, .int 0), (1, .ref oG1), (0, .ref oB)] := hl
  refine lv_goto (tgt := 76) hx hb d_Bh_senseAll_142 (by decide) ?_
  refine lv_iload_n hx hb d_Bh_senseAll_76 rfl (lv_at hl 0 rfl) ?_
  refine lv_bipush (v := 16) hx hb d_Bh_senseAll_77 (by decide) ?_
  refine lv_icmp_ge (tgt := 145) hx hb d_Bh_senseAll_79 (by decide) (fun h => absurd h (by decide)) (fun _ => ?_)
  refine lv_aload_n hx hb d_Bh_senseAll_82 rfl (lv_at hl 3 rfl) ?_
  refine va_get (D := (dC, dI)) (ci := 0) (v := .ref xb_watchWhat) (C := R_Bh) (T := F_Bh) (N := 16) hx hb hts (fun w h => List.mem_cons_of_mem _ (in_Bh w h)) hown hK.1 hP 0 rfl rfl 13 (by decide) (hts _ (List.mem_cons_of_mem _ mw_697)) (fun _ h9 => h9) hb_watchWhat d_Bh_senseAll_83 ?_
  refine lv_iload_n hx hb d_Bh_senseAll_86 rfl (lv_at hl 0 rfl) ?_
  refine va_iald hx hb hK.1 hP 3 0 rfl rfl (vp_in_iff.mpr (by decide)) d_Bh_senseAll_87 ?_
  refine lv_iconst (v := 5) hx hb d_Bh_senseAll_88 (by decide) ?_
  refine lv_icmp_ge (tgt := 139) hx hb d_Bh_senseAll_89 (by decide) (fun _ => ?_) (fun h => absurd (by decide) h)
  refine lv_iinc (k := 0) (v := 15) hx hb d_Bh_senseAll_139 hl rfl (by first | rfl | decide | exact nI_1 i | exact pv_1 j hj) (by decide) rfl (fun ls hl => ?_)
  have hl : lv_has ls 6 [(3, .int 15), (2, .int 0), (1, .ref oG1), (0, .ref oB)] := hl
  refine lv_goto (tgt := 76) hx hb d_Bh_senseAll_142 (by decide) ?_
  refine lv_iload_n hx hb d_Bh_senseAll_76 rfl (lv_at hl 0 rfl) ?_
  refine lv_bipush (v := 16) hx hb d_Bh_senseAll_77 (by decide) ?_
  refine lv_icmp_ge (tgt := 145) hx hb d_Bh_senseAll_79 (by decide) (fun h => absurd h (by decide)) (fun _ => ?_)
  refine lv_aload_n hx hb d_Bh_senseAll_82 rfl (lv_at hl 3 rfl) ?_
  refine va_get (D := (dC, dI)) (ci := 0) (v := .ref xb_watchWhat) (C := R_Bh) (T := F_Bh) (N := 16) hx hb hts (fun w h => List.mem_cons_of_mem _ (in_Bh w h)) hown hK.1 hP 0 rfl rfl 13 (by decide) (hts _ (List.mem_cons_of_mem _ mw_697)) (fun _ h9 => h9) hb_watchWhat d_Bh_senseAll_83 ?_
  refine lv_iload_n hx hb d_Bh_senseAll_86 rfl (lv_at hl 0 rfl) ?_
  refine va_iald hx hb hK.1 hP 3 0 rfl rfl (vp_in_iff.mpr (by decide)) d_Bh_senseAll_87 ?_
  refine lv_iconst (v := 5) hx hb d_Bh_senseAll_88 (by decide) ?_
  refine lv_icmp_ge (tgt := 139) hx hb d_Bh_senseAll_89 (by decide) (fun _ => ?_) (fun h => absurd (by decide) h)
  refine lv_iinc (k := 0) (v := 16) hx hb d_Bh_senseAll_139 hl rfl (by first | rfl | decide | exact nI_1 i | exact pv_1 j hj) (by decide) rfl (fun ls hl => ?_)
  have hl : lv_has ls 6 [(3, .int 16), (2, .int 0), (1, .ref oG1), (0, .ref oB)] := hl
  refine lv_goto (tgt := 76) hx hb d_Bh_senseAll_142 (by decide) ?_
  refine lv_iload_n hx hb d_Bh_senseAll_76 rfl (lv_at hl 0 rfl) ?_
  refine lv_bipush (v := 16) hx hb d_Bh_senseAll_77 (by decide) ?_
  refine lv_icmp_ge (tgt := 145) hx hb d_Bh_senseAll_79 (by decide) (fun _ => ?_) (fun h => absurd (by decide) h)
  refine lv_aload_n hx hb d_Bh_senseAll_145 rfl (lv_at hl 3 rfl) ?_
  refine va_get (D := (dC, dI)) (ci := 0) (v := .ref oAc) (C := R_Bh) (T := F_Bh) (N := 16) hx hb hts (fun w h => List.mem_cons_of_mem _ (in_Bh w h)) hown hK.1 hP 0 rfl rfl 5 (by decide) (hts _ (List.mem_cons_of_mem _ mw_689)) (fun _ h9 => h9) hb_acts d_Bh_senseAll_146 ?_
  refine va_get (D := (dC, dI)) (ci := 11) (v := .ref oR1) (C := R_Ac) (T := F_Ac) (N := 8) hx hb hts (fun w h => List.mem_cons_of_mem _ (in_Ac w h)) hown hK.1 hP 4 rfl rfl 3 (by decide) (hts _ (List.mem_cons_of_mem _ mw_394)) (fun _ h9 => h9) hac_rows d_Bh_senseAll_149 ?_
  refine lv_iload_n hx hb d_Bh_senseAll_152 rfl (lv_at hl 1 rfl) ?_
  refine va_put (D := (dC, dI)) (ci := 7) (v := .int 0) (ty := .int) (C := R_Ro) (T := F_Ro) (N := 18) hx hb hts (fun w h => List.mem_cons_of_mem _ (in_Ro w h)) t_Ro t_Ro_ok n_Ro hown hK.1 hP hD hS 5 rfl rfl 1 (by decide) (hts _ (List.mem_cons_of_mem _ mw_332)) (fun _ h9 => h9) rfl (by decide +kernel) rfl rfl (st_lt hxr_conditions) d_Bh_senseAll_153 (fun H locs hP hD hS => ?_)
  have hP : va_P (dC, dI) classes [(oB, .inr (0, xb)), (oRu, .inr (10, xn)), (oG1, .inr (8, xg)), (xb_watchWhat, .inl (cI, 16, .inl (fun _ => 5))), (oAc, .inr (11, xc)), (oR1, .inr (7, (xr.set 1 (.int 0))))] H := hP
  have hD : va_D A [(oB, .inr (0, xb)), (oRu, .inr (10, xn)), (oG1, .inr (8, xg)), (xb_watchWhat, .inl (cI, 16, .inl (fun _ => 5))), (oAc, .inr (11, xc)), (oR1, .inr (7, (xr.set 1 (.int 0))))] := hD
  rw [st_same hxr_conditions] at hP hD
  exact W.vret hx hb hr (fun t ht hW => ⟨⟨(), rfl, trivial, ⟨hb_acts, hb_run, hb_watchWhat, hru_program, hxg_names, hac_rows, hxr_conditions, by rw [ht]; exact hP, hD⟩⟩, hS.F ht⟩) hS.2.2 d_Bh_senseAll_156
abbrev t_Bh_tick_113 : List UInt8 := 172 :: []
abbrev t_Bh_tick_110 : List UInt8 := 180 :: 0 :: 161 :: t_Bh_tick_113
abbrev t_Bh_tick_107 : List UInt8 := 180 :: 0 :: 62 :: t_Bh_tick_110
abbrev t_Bh_tick_106 : List UInt8 := 42 :: t_Bh_tick_107
abbrev t_Bh_tick_103 : List UInt8 := 167 :: 255 :: 168 :: t_Bh_tick_106
abbrev t_Bh_tick_100 : List UInt8 := 132 :: 2 :: 1 :: t_Bh_tick_103
abbrev t_Bh_tick_97 : List UInt8 := 181 :: 1 :: 5 :: t_Bh_tick_100
abbrev t_Bh_tick_96 : List UInt8 := 96 :: t_Bh_tick_97
abbrev t_Bh_tick_95 : List UInt8 := 4 :: t_Bh_tick_96
abbrev t_Bh_tick_92 : List UInt8 := 180 :: 1 :: 5 :: t_Bh_tick_95
abbrev t_Bh_tick_91 : List UInt8 := 89 :: t_Bh_tick_92
abbrev t_Bh_tick_88 : List UInt8 := 180 :: 0 :: 26 :: t_Bh_tick_91
abbrev t_Bh_tick_87 : List UInt8 := 42 :: t_Bh_tick_88
abbrev t_Bh_tick_84 : List UInt8 := 182 :: 1 :: 33 :: t_Bh_tick_87
abbrev t_Bh_tick_81 : List UInt8 := 180 :: 0 :: 35 :: t_Bh_tick_84
abbrev t_Bh_tick_80 : List UInt8 := 42 :: t_Bh_tick_81
abbrev t_Bh_tick_77 : List UInt8 := 182 :: 0 :: 190 :: t_Bh_tick_80
abbrev t_Bh_tick_74 : List UInt8 := 180 :: 0 :: 35 :: t_Bh_tick_77
abbrev t_Bh_tick_73 : List UInt8 := 42 :: t_Bh_tick_74
abbrev t_Bh_tick_70 : List UInt8 := 160 :: 0 :: 10 :: t_Bh_tick_73
abbrev t_Bh_tick_69 : List UInt8 := 6 :: t_Bh_tick_70
abbrev t_Bh_tick_66 : List UInt8 := 180 :: 0 :: 161 :: t_Bh_tick_69
abbrev t_Bh_tick_63 : List UInt8 := 180 :: 0 :: 62 :: t_Bh_tick_66
abbrev t_Bh_tick_62 : List UInt8 := 42 :: t_Bh_tick_63
abbrev t_Bh_tick_59 : List UInt8 := 159 :: 0 :: 14 :: t_Bh_tick_62
abbrev t_Bh_tick_58 : List UInt8 := 5 :: t_Bh_tick_59
abbrev t_Bh_tick_55 : List UInt8 := 180 :: 0 :: 161 :: t_Bh_tick_58
abbrev t_Bh_tick_52 : List UInt8 := 180 :: 0 :: 62 :: t_Bh_tick_55
abbrev t_Bh_tick_51 : List UInt8 := 42 :: t_Bh_tick_52
abbrev t_Bh_tick_48 : List UInt8 := 182 :: 1 :: 30 :: t_Bh_tick_51
abbrev t_Bh_tick_45 : List UInt8 := 180 :: 0 :: 62 :: t_Bh_tick_48
abbrev t_Bh_tick_44 : List UInt8 := 42 :: t_Bh_tick_45
abbrev t_Bh_tick_41 : List UInt8 := 154 :: 0 :: 39 :: t_Bh_tick_44
abbrev t_Bh_tick_38 : List UInt8 := 180 :: 0 :: 161 :: t_Bh_tick_41
abbrev t_Bh_tick_35 : List UInt8 := 180 :: 0 :: 62 :: t_Bh_tick_38
abbrev t_Bh_tick_34 : List UInt8 := 42 :: t_Bh_tick_35
abbrev t_Bh_tick_31 : List UInt8 := 182 :: 1 :: 27 :: t_Bh_tick_34
abbrev t_Bh_tick_28 : List UInt8 := 180 :: 0 :: 174 :: t_Bh_tick_31
abbrev t_Bh_tick_25 : List UInt8 := 180 :: 0 :: 53 :: t_Bh_tick_28
abbrev t_Bh_tick_24 : List UInt8 := 42 :: t_Bh_tick_25
abbrev t_Bh_tick_21 : List UInt8 := 182 :: 1 :: 24 :: t_Bh_tick_24
abbrev t_Bh_tick_20 : List UInt8 := 42 :: t_Bh_tick_21
abbrev t_Bh_tick_17 : List UInt8 := 162 :: 0 :: 89 :: t_Bh_tick_20
abbrev t_Bh_tick_16 : List UInt8 := 27 :: t_Bh_tick_17
abbrev t_Bh_tick_15 : List UInt8 := 28 :: t_Bh_tick_16
abbrev t_Bh_tick_14 : List UInt8 := 61 :: t_Bh_tick_15
abbrev t_Bh_tick_13 : List UInt8 := 3 :: t_Bh_tick_14
abbrev t_Bh_tick_12 : List UInt8 := 172 :: t_Bh_tick_13
abbrev t_Bh_tick_11 : List UInt8 := 2 :: t_Bh_tick_12
abbrev t_Bh_tick_8 : List UInt8 := 164 :: 0 :: 5 :: t_Bh_tick_11
abbrev t_Bh_tick_5 : List UInt8 := 17 :: 2 :: 88 :: t_Bh_tick_8
abbrev t_Bh_tick_4 : List UInt8 := 27 :: t_Bh_tick_5
abbrev t_Bh_tick_1 : List UInt8 := 155 :: 0 :: 10 :: t_Bh_tick_4
abbrev t_Bh_tick_0 : List UInt8 := 27 :: t_Bh_tick_1
theorem a_Bh_tick_0 : dk_at b_Bh_tick 0 t_Bh_tick_0 := dk_start (by decide +kernel)
theorem a_Bh_tick_1 : dk_at b_Bh_tick 1 t_Bh_tick_1 := dk_go 1 a_Bh_tick_0 rfl
theorem a_Bh_tick_4 : dk_at b_Bh_tick 4 t_Bh_tick_4 := dk_go 3 a_Bh_tick_1 rfl
theorem a_Bh_tick_5 : dk_at b_Bh_tick 5 t_Bh_tick_5 := dk_go 1 a_Bh_tick_4 rfl
theorem a_Bh_tick_8 : dk_at b_Bh_tick 8 t_Bh_tick_8 := dk_go 3 a_Bh_tick_5 rfl
theorem a_Bh_tick_11 : dk_at b_Bh_tick 11 t_Bh_tick_11 := dk_go 3 a_Bh_tick_8 rfl
theorem a_Bh_tick_12 : dk_at b_Bh_tick 12 t_Bh_tick_12 := dk_go 1 a_Bh_tick_11 rfl
theorem a_Bh_tick_13 : dk_at b_Bh_tick 13 t_Bh_tick_13 := dk_go 1 a_Bh_tick_12 rfl
theorem a_Bh_tick_14 : dk_at b_Bh_tick 14 t_Bh_tick_14 := dk_go 1 a_Bh_tick_13 rfl
theorem a_Bh_tick_15 : dk_at b_Bh_tick 15 t_Bh_tick_15 := dk_go 1 a_Bh_tick_14 rfl
theorem a_Bh_tick_16 : dk_at b_Bh_tick 16 t_Bh_tick_16 := dk_go 1 a_Bh_tick_15 rfl
theorem a_Bh_tick_17 : dk_at b_Bh_tick 17 t_Bh_tick_17 := dk_go 1 a_Bh_tick_16 rfl
theorem a_Bh_tick_20 : dk_at b_Bh_tick 20 t_Bh_tick_20 := dk_go 3 a_Bh_tick_17 rfl
theorem a_Bh_tick_21 : dk_at b_Bh_tick 21 t_Bh_tick_21 := dk_go 1 a_Bh_tick_20 rfl
theorem a_Bh_tick_24 : dk_at b_Bh_tick 24 t_Bh_tick_24 := dk_go 3 a_Bh_tick_21 rfl
theorem a_Bh_tick_25 : dk_at b_Bh_tick 25 t_Bh_tick_25 := dk_go 1 a_Bh_tick_24 rfl
theorem a_Bh_tick_28 : dk_at b_Bh_tick 28 t_Bh_tick_28 := dk_go 3 a_Bh_tick_25 rfl
theorem a_Bh_tick_31 : dk_at b_Bh_tick 31 t_Bh_tick_31 := dk_go 3 a_Bh_tick_28 rfl
theorem a_Bh_tick_34 : dk_at b_Bh_tick 34 t_Bh_tick_34 := dk_go 3 a_Bh_tick_31 rfl
theorem a_Bh_tick_35 : dk_at b_Bh_tick 35 t_Bh_tick_35 := dk_go 1 a_Bh_tick_34 rfl
theorem a_Bh_tick_38 : dk_at b_Bh_tick 38 t_Bh_tick_38 := dk_go 3 a_Bh_tick_35 rfl
theorem a_Bh_tick_41 : dk_at b_Bh_tick 41 t_Bh_tick_41 := dk_go 3 a_Bh_tick_38 rfl
theorem a_Bh_tick_44 : dk_at b_Bh_tick 44 t_Bh_tick_44 := dk_go 3 a_Bh_tick_41 rfl
theorem a_Bh_tick_45 : dk_at b_Bh_tick 45 t_Bh_tick_45 := dk_go 1 a_Bh_tick_44 rfl
theorem a_Bh_tick_48 : dk_at b_Bh_tick 48 t_Bh_tick_48 := dk_go 3 a_Bh_tick_45 rfl
theorem a_Bh_tick_51 : dk_at b_Bh_tick 51 t_Bh_tick_51 := dk_go 3 a_Bh_tick_48 rfl
theorem a_Bh_tick_52 : dk_at b_Bh_tick 52 t_Bh_tick_52 := dk_go 1 a_Bh_tick_51 rfl
theorem a_Bh_tick_55 : dk_at b_Bh_tick 55 t_Bh_tick_55 := dk_go 3 a_Bh_tick_52 rfl
theorem a_Bh_tick_58 : dk_at b_Bh_tick 58 t_Bh_tick_58 := dk_go 3 a_Bh_tick_55 rfl
theorem a_Bh_tick_59 : dk_at b_Bh_tick 59 t_Bh_tick_59 := dk_go 1 a_Bh_tick_58 rfl
theorem a_Bh_tick_62 : dk_at b_Bh_tick 62 t_Bh_tick_62 := dk_go 3 a_Bh_tick_59 rfl
theorem a_Bh_tick_63 : dk_at b_Bh_tick 63 t_Bh_tick_63 := dk_go 1 a_Bh_tick_62 rfl
theorem a_Bh_tick_66 : dk_at b_Bh_tick 66 t_Bh_tick_66 := dk_go 3 a_Bh_tick_63 rfl
theorem a_Bh_tick_69 : dk_at b_Bh_tick 69 t_Bh_tick_69 := dk_go 3 a_Bh_tick_66 rfl
theorem a_Bh_tick_70 : dk_at b_Bh_tick 70 t_Bh_tick_70 := dk_go 1 a_Bh_tick_69 rfl
theorem a_Bh_tick_73 : dk_at b_Bh_tick 73 t_Bh_tick_73 := dk_go 3 a_Bh_tick_70 rfl
theorem a_Bh_tick_74 : dk_at b_Bh_tick 74 t_Bh_tick_74 := dk_go 1 a_Bh_tick_73 rfl
theorem a_Bh_tick_77 : dk_at b_Bh_tick 77 t_Bh_tick_77 := dk_go 3 a_Bh_tick_74 rfl
theorem a_Bh_tick_80 : dk_at b_Bh_tick 80 t_Bh_tick_80 := dk_go 3 a_Bh_tick_77 rfl
theorem a_Bh_tick_81 : dk_at b_Bh_tick 81 t_Bh_tick_81 := dk_go 1 a_Bh_tick_80 rfl
theorem a_Bh_tick_84 : dk_at b_Bh_tick 84 t_Bh_tick_84 := dk_go 3 a_Bh_tick_81 rfl
theorem a_Bh_tick_87 : dk_at b_Bh_tick 87 t_Bh_tick_87 := dk_go 3 a_Bh_tick_84 rfl
theorem a_Bh_tick_88 : dk_at b_Bh_tick 88 t_Bh_tick_88 := dk_go 1 a_Bh_tick_87 rfl
theorem a_Bh_tick_91 : dk_at b_Bh_tick 91 t_Bh_tick_91 := dk_go 3 a_Bh_tick_88 rfl
theorem a_Bh_tick_92 : dk_at b_Bh_tick 92 t_Bh_tick_92 := dk_go 1 a_Bh_tick_91 rfl
theorem a_Bh_tick_95 : dk_at b_Bh_tick 95 t_Bh_tick_95 := dk_go 3 a_Bh_tick_92 rfl
theorem a_Bh_tick_96 : dk_at b_Bh_tick 96 t_Bh_tick_96 := dk_go 1 a_Bh_tick_95 rfl
theorem a_Bh_tick_97 : dk_at b_Bh_tick 97 t_Bh_tick_97 := dk_go 1 a_Bh_tick_96 rfl
theorem a_Bh_tick_100 : dk_at b_Bh_tick 100 t_Bh_tick_100 := dk_go 3 a_Bh_tick_97 rfl
theorem a_Bh_tick_103 : dk_at b_Bh_tick 103 t_Bh_tick_103 := dk_go 3 a_Bh_tick_100 rfl
theorem a_Bh_tick_106 : dk_at b_Bh_tick 106 t_Bh_tick_106 := dk_go 3 a_Bh_tick_103 rfl
theorem a_Bh_tick_107 : dk_at b_Bh_tick 107 t_Bh_tick_107 := dk_go 1 a_Bh_tick_106 rfl
theorem a_Bh_tick_110 : dk_at b_Bh_tick 110 t_Bh_tick_110 := dk_go 3 a_Bh_tick_107 rfl
theorem a_Bh_tick_113 : dk_at b_Bh_tick 113 t_Bh_tick_113 := dk_go 3 a_Bh_tick_110 rfl
theorem d_Bh_tick_0 : decode b_Bh_tick 0 = .ok (.iload_n 1, 1) := dk_0 a_Bh_tick_0 (dko_27 _)
theorem d_Bh_tick_1 : decode b_Bh_tick 1 = .ok (.ifCond .lt 10, 3) := dk_S2 a_Bh_tick_1 (dko_155 _) (by decide +kernel)
theorem d_Bh_tick_4 : decode b_Bh_tick 4 = .ok (.iload_n 1, 1) := dk_0 a_Bh_tick_4 (dko_27 _)
theorem d_Bh_tick_5 : decode b_Bh_tick 5 = .ok (.sipush 600, 3) := dk_S2 a_Bh_tick_5 (dko_17 _) (by decide +kernel)
theorem d_Bh_tick_8 : decode b_Bh_tick 8 = .ok (.if_icmp .le 5, 3) := dk_S2 a_Bh_tick_8 (dko_164 _) (by decide +kernel)
theorem d_Bh_tick_11 : decode b_Bh_tick 11 = .ok (.iconst (-1), 1) := dk_0 a_Bh_tick_11 (dko_2 _)
theorem d_Bh_tick_12 : decode b_Bh_tick 12 = .ok (.ireturn, 1) := dk_0 a_Bh_tick_12 (dko_172 _)
theorem d_Bh_tick_13 : decode b_Bh_tick 13 = .ok (.iconst 0, 1) := dk_0 a_Bh_tick_13 (dko_3 _)
theorem d_Bh_tick_14 : decode b_Bh_tick 14 = .ok (.istore_n 2, 1) := dk_0 a_Bh_tick_14 (dko_61 _)
theorem d_Bh_tick_15 : decode b_Bh_tick 15 = .ok (.iload_n 2, 1) := dk_0 a_Bh_tick_15 (dko_28 _)
theorem d_Bh_tick_16 : decode b_Bh_tick 16 = .ok (.iload_n 1, 1) := dk_0 a_Bh_tick_16 (dko_27 _)
theorem d_Bh_tick_17 : decode b_Bh_tick 17 = .ok (.if_icmp .ge 89, 3) := dk_S2 a_Bh_tick_17 (dko_162 _) (by decide +kernel)
theorem d_Bh_tick_20 : decode b_Bh_tick 20 = .ok (.aload_n 0, 1) := dk_0 a_Bh_tick_20 (dko_42 _)
theorem d_Bh_tick_21 : decode b_Bh_tick 21 = .ok (.invokevirtual 280, 3) := dk_U2 a_Bh_tick_21 (dko_182 _) rfl
theorem d_Bh_tick_24 : decode b_Bh_tick 24 = .ok (.aload_n 0, 1) := dk_0 a_Bh_tick_24 (dko_42 _)
theorem d_Bh_tick_25 : decode b_Bh_tick 25 = .ok (.getfield 53, 3) := dk_U2 a_Bh_tick_25 (dko_180 _) rfl
theorem d_Bh_tick_28 : decode b_Bh_tick 28 = .ok (.getfield 174, 3) := dk_U2 a_Bh_tick_28 (dko_180 _) rfl
theorem d_Bh_tick_31 : decode b_Bh_tick 31 = .ok (.invokevirtual 283, 3) := dk_U2 a_Bh_tick_31 (dko_182 _) rfl
theorem d_Bh_tick_34 : decode b_Bh_tick 34 = .ok (.aload_n 0, 1) := dk_0 a_Bh_tick_34 (dko_42 _)
theorem d_Bh_tick_35 : decode b_Bh_tick 35 = .ok (.getfield 62, 3) := dk_U2 a_Bh_tick_35 (dko_180 _) rfl
theorem d_Bh_tick_38 : decode b_Bh_tick 38 = .ok (.getfield 161, 3) := dk_U2 a_Bh_tick_38 (dko_180 _) rfl
theorem d_Bh_tick_41 : decode b_Bh_tick 41 = .ok (.ifCond .ne 39, 3) := dk_S2 a_Bh_tick_41 (dko_154 _) (by decide +kernel)
theorem d_Bh_tick_80 : decode b_Bh_tick 80 = .ok (.aload_n 0, 1) := dk_0 a_Bh_tick_80 (dko_42 _)
theorem d_Bh_tick_81 : decode b_Bh_tick 81 = .ok (.getfield 35, 3) := dk_U2 a_Bh_tick_81 (dko_180 _) rfl
theorem d_Bh_tick_84 : decode b_Bh_tick 84 = .ok (.invokevirtual 289, 3) := dk_U2 a_Bh_tick_84 (dko_182 _) rfl
theorem d_Bh_tick_87 : decode b_Bh_tick 87 = .ok (.aload_n 0, 1) := dk_0 a_Bh_tick_87 (dko_42 _)
theorem d_Bh_tick_88 : decode b_Bh_tick 88 = .ok (.getfield 26, 3) := dk_U2 a_Bh_tick_88 (dko_180 _) rfl
theorem d_Bh_tick_91 : decode b_Bh_tick 91 = .ok (.dup, 1) := dk_0 a_Bh_tick_91 (dko_89 _)
theorem d_Bh_tick_92 : decode b_Bh_tick 92 = .ok (.getfield 261, 3) := dk_U2 a_Bh_tick_92 (dko_180 _) rfl
theorem d_Bh_tick_95 : decode b_Bh_tick 95 = .ok (.iconst 1, 1) := dk_0 a_Bh_tick_95 (dko_4 _)
theorem d_Bh_tick_96 : decode b_Bh_tick 96 = .ok (.iadd, 1) := dk_0 a_Bh_tick_96 (dko_96 _)
theorem d_Bh_tick_97 : decode b_Bh_tick 97 = .ok (.putfield 261, 3) := dk_U2 a_Bh_tick_97 (dko_181 _) rfl
theorem d_Bh_tick_100 : decode b_Bh_tick 100 = .ok (.iinc 2 1, 3) := dk_US a_Bh_tick_100 (dko_132 _) (by decide +kernel)
theorem d_Bh_tick_103 : decode b_Bh_tick 103 = .ok (.goto (-88), 3) := dk_S2 a_Bh_tick_103 (dko_167 _) (by decide +kernel)
theorem d_Bh_tick_106 : decode b_Bh_tick 106 = .ok (.aload_n 0, 1) := dk_0 a_Bh_tick_106 (dko_42 _)
theorem d_Bh_tick_107 : decode b_Bh_tick 107 = .ok (.getfield 62, 3) := dk_U2 a_Bh_tick_107 (dko_180 _) rfl
theorem d_Bh_tick_110 : decode b_Bh_tick 110 = .ok (.getfield 161, 3) := dk_U2 a_Bh_tick_110 (dko_180 _) rfl
theorem d_Bh_tick_113 : decode b_Bh_tick 113 = .ok (.ireturn, 1) := dk_0 a_Bh_tick_113 (dko_172 _)
def fn_Bh_tick (se : Int32) : Int32 := (if se < 0 then (-1) else (if se ≤ 600 then 4 else (-1)))
set_option maxHeartbeats 4000000 in
set_option maxRecDepth 100000 in
theorem c_Bh_tick (l : Launch) (dC : Nat → ClassId) (dI : Nat → Nat → Nat) (cI cB cZ cJ : ClassId) (se : Int32) (oB : Nat) (oSt : Nat) (oRu : Nat) (oG1 : Nat) (xb_watchWhat : Nat) (oAc : Nat) (oR1 : Nat) (oWa : Nat) (xb : List Value) (hb_stock : fx xb 2 (.ref oSt)) (hb_ways : fx xb 3 (.ref oWa)) (hb_acts : fx xb 5 (.ref oAc)) (hb_run : fx xb 6 (.ref oRu)) (hb_watchWhat : fx xb 13 (.ref xb_watchWhat)) (xs_ : List Value) (hst_now : fx xs_ 1 (.int 0)) (xn : List Value) (hru_program : fx xn 3 (.ref oG1)) (hru_state : fx xn 4 (.int 4)) (xg : List Value) (hxg_names : fx xg 10 (.int 0)) (xc : List Value) (hac_rows : fx xc 3 (.ref oR1)) (xr : List Value) (hxr_count : fx xr 0 (.int 0)) (hxr_conditions : fx xr 1 (.int 0)) (xw : List Value) (hwa_count : fx xw 1 (.int 0)) (sz : Nat) : Met l y_Bh_tick w_Bh_tick ({ frames := 1, cells := 0, slots := 0, locals := 25 }) (va_Pc [.ref oB, .int se] (PW dC dI cI cB cZ cJ [(oB, .inr (0, xb)), (oSt, .inr (4, xs_)), (oRu, .inr (10, xn)), (oG1, .inr (8, xg)), (xb_watchWhat, .inl (cI, 16, .inl (fun _ => 5))), (oAc, .inr (11, xc)), (oR1, .inr (7, xr)), (oWa, .inr (5, xw))] sz)) (va_Qi (fun (r : Int32) (_ : Unit) => r = fn_Bh_tick se) (fun _ _ => True) (va_A [(oB, .inr (0, xb)), (oSt, .inr (4, xs_)), (oRu, .inr (10, xn)), (oG1, .inr (8, xg)), (xb_watchWhat, .inl (cI, 16, .inl (fun _ => 5))), (oAc, .inr (11, xc)), (oR1, .inr (7, xr)), (oWa, .inr (5, xw))] sz)) 0 0 (va_A [(oB, .inr (0, xb)), (oSt, .inr (4, xs_)), (oRu, .inr (10, xn)), (oG1, .inr (8, xg)), (xb_watchWhat, .inl (cI, 16, .inl (fun _ => 5))), (oAc, .inr (11, xc)), (oR1, .inr (7, xr)), (oWa, .inr (5, xw))] sz) := by
  refine Met.ofW (cc := b_Bh_tick) (maxL := 3) (ret := (some .int)) (by decide) rfl ?_
  intro p e s m args below meth c s₁ B hml hv
  obtain ⟨rfl, hsz, hP, hK, hD⟩ := hv
  have hx := B.exec
  have hb := B.bytes
  have hr := B.returns
  have hts := atoms_spec (ws := w_Bh_tick) B.pre
  have hown : s.vm.findClass R_Bh = some m.cls := findClass_of_methodNamed B.named
  have hlocks := B.notSynchronized
  subst hsz
  have hD := hD.self (sz := s.heap.size)
  generalize hAe : va_A [(oB, .inr (0, xb)), (oSt, .inr (4, xs_)), (oRu, .inr (10, xn)), (oG1, .inr (8, xg)), (xb_watchWhat, .inl (cI, 16, .inl (fun _ => 5))), (oAc, .inr (11, xc)), (oR1, .inr (7, xr)), (oWa, .inr (5, xw))] s.heap.size = A at hD ⊢
  have hA : ∀ q : Nat, s.heap.size ≤ q → A q := fun q h => by rw [← hAe]; exact Or.inr h
  have hS : va_S A s.heap s.heap [] := va_S.rf
  have hP : va_P (dC, dI) classes [(oB, .inr (0, xb)), (oSt, .inr (4, xs_)), (oRu, .inr (10, xn)), (oG1, .inr (8, xg)), (xb_watchWhat, .inl (cI, 16, .inl (fun _ => 5))), (oAc, .inr (11, xc)), (oR1, .inr (7, xr)), (oWa, .inr (5, xw))] s.heap := hP
  have hl := lv_entry ([.ref oB, .int se]) (n := 3) (Nat.le_of_ble_eq_true rfl)
  rw [lg_entry_eq]
  generalize (lg_sl ([.ref oB, .int se]) ++ List.replicate (3 - (lg_sl ([.ref oB, .int se])).length) Slot.unset).toArray = ls at hl ⊢
  have hl : lv_has ls 3 [(0, .ref oB), (1, .int se)] := hl
  refine lv_iload_n hx hb d_Bh_tick_0 rfl (lv_at hl 1 rfl) ?_
  refine lv_if_lt (tgt := 11) hx hb d_Bh_tick_1 (by decide) (fun h1 => ?_) (fun h1 => ?_)
  · refine lv_iconst (v := (-1)) hx hb d_Bh_tick_11 (by decide) ?_
    exact W.iret (v := (-1)) hx hb hr (fun t ht hW => ⟨⟨_, (), rfl, (by unfold fn_Bh_tick; rw [if_pos h1]), trivial⟩, hS.F ht⟩) hS.2.2 d_Bh_tick_12
  · refine lv_iload_n hx hb d_Bh_tick_4 rfl (lv_at hl 1 rfl) ?_
    refine lv_sipush (v := 600) hx hb d_Bh_tick_5 (by decide) ?_
    refine lv_icmp_le (tgt := 13) hx hb d_Bh_tick_8 (by decide) (fun h8 => ?_) (fun h8 => ?_)
    · refine lv_iconst (v := 0) hx hb d_Bh_tick_13 (by decide) ?_
      refine lv_istore_n hx hb d_Bh_tick_14 rfl hl (by decide) rfl (fun ls hl => ?_)
      have hl : lv_has ls 3 [(2, .int 0), (0, .ref oB), (1, .int se)] := hl
      obtain ⟨n, hn, hse⟩ := nI_of2 (M := 600) (n := 600) (by decide) h1 (Int32.not_lt.mp (Int32.not_lt.mpr h8))
      have hl : lv_has ls 3 [(2, .int 0), (0, .ref oB), (1, .int (nI n))] := hse ▸ hl
      have hl : lv_has ls 3 [(2, .int (nI 0)), (0, .ref oB), (1, .int (nI n))] := lv_sub hl [0, 1, 2] rfl
      refine lp_ind (σ := List Value) (fun i xs H locs ls => (∃ v : Int32, fx xs 1 (.int v)) ∧ va_P (dC, dI) classes [(oB, .inr (0, xb)), (oSt, .inr (4, xs)), (oRu, .inr (10, xn)), (oG1, .inr (8, xg)), (xb_watchWhat, .inl (cI, 16, .inl (fun _ => 5))), (oAc, .inr (11, xc)), (oR1, .inr (7, xr)), (oWa, .inr (5, xw))] H ∧ va_D A [(oB, .inr (0, xb)), (oSt, .inr (4, xs)), (oRu, .inr (10, xn)), (oG1, .inr (8, xg)), (xb_watchWhat, .inl (cI, 16, .inl (fun _ => 5))), (oAc, .inr (11, xc)), (oR1, .inr (7, xr)), (oWa, .inr (5, xw))] ∧ va_S A s.heap H locs ∧ lv_has ls 3 [(2, .int (nI i)), (0, .ref oB), (1, .int (nI n))]) 15 n ?_ ?_ 0 xs_ _ _ _ (Nat.zero_le _) ⟨⟨_, hst_now⟩, hP, hD, hS, hl⟩
      · intro i xs H locs ls hi hI hk
        obtain ⟨⟨v_1, y_1⟩, hP, hD, hS, hl⟩ := hI
        refine lv_iload_n hx hb d_Bh_tick_15 rfl (lv_at hl 0 rfl) ?_
        refine lv_iload_n hx hb d_Bh_tick_16 rfl (lv_at hl 2 rfl) ?_
        refine lv_icmp_ge (tgt := 106) hx hb d_Bh_tick_17 (by decide) (fun h => absurd h (nI_ge hi (by omega))) (fun _ => ?_)
        refine lv_aload_n hx hb d_Bh_tick_20 rfl (lv_at hl 1 rfl) ?_
        have hPc := hP.sub (ws' := [(oB, .inr (0, xb)), (oRu, .inr (10, xn)), (oG1, .inr (8, xg)), (xb_watchWhat, .inl (cI, 16, .inl (fun _ => 5))), (oAc, .inr (11, xc)), (oR1, .inr (7, xr))]) [0, 2, 3, 4, 5, 6] rfl
        have hDc := hD.sub (ws' := [(oB, .inr (0, xb)), (oRu, .inr (10, xn)), (oG1, .inr (8, xg)), (xb_watchWhat, .inl (cI, 16, .inl (fun _ => 5))), (oAc, .inr (11, xc)), (oR1, .inr (7, xr))]) [0, 2, 3, 4, 5, 6] (by decide) rfl
        have hFc := va_free (wc := [(oB, .inr (0, xb)), (oRu, .inr (10, xn)), (oG1, .inr (8, xg)), (xb_watchWhat, .inl (cI, 16, .inl (fun _ => 5))), (oAc, .inr (11, xc)), (oR1, .inr (7, xr))]) hD hS hA [0, 2, 3, 4, 5, 6] rfl
        refine va_callv (va_runV (C := R_Bh) (As := []) (rest := []) ⟨hx, hb, hml, hown, hts⟩ (c_Bh_senseAll l dC dI cI cB cZ cJ oB oRu oG1 xb_watchWhat oAc oR1 xb hb_acts hb_run hb_watchWhat xn hru_program xg hxg_names xc hac_rows xr hxr_conditions H.size) (cwV 0 hts (tb_V mw_1322 mw_1324 sl_62 mw_1 mw_1325) rfl rfl rfl ⟨rfl, by decide +kernel, by decide +kernel, by decide +kernel⟩ ⟨(Nat.le_of_ble_eq_true rfl), (Nat.le_of_ble_eq_true rfl)⟩) ⟨pw_blind, va_recv (q := (R_Bh, F_Bh, 16)) hK.1 hP (ci := 0) (q0 := 0) rfl rfl, pw_pre hPc hK hDc⟩ rfl rfl hl.1 rfl (lv_room (Nat.le_of_ble_eq_true rfl)) d_Bh_tick_21 ⟨(Nat.le_of_ble_eq_true rfl), (Nat.le_of_ble_eq_true rfl)⟩) hS (fun q _ h => hFc q h) hFc (fun u t H locs ht hvm hw hB hz1 hk1 hS => ?_)
        obtain ⟨k21_3_oB_5, k21_3_oB_6, k21_3_oB_13, k21_3_oRu_3, k21_3_oG1_10, k21_3_oAc_3, k21_3_oR1_1, hP1, hD1⟩ := hB
        rw [ht] at hP1
        obtain ⟨hP, hD⟩ := va_join (wr := [(oSt, .inr (4, xs)), (oWa, .inr (5, xw))]) (w1 := [(oB, .inr (0, xb)), (oRu, .inr (10, xn)), (oG1, .inr (8, xg)), (xb_watchWhat, .inl (cI, 16, .inl (fun _ => 5))), (oAc, .inr (11, xc)), (oR1, .inr (7, xr))]) hP hD [0, 2, 3, 4, 5, 6] [1, 7] rfl rfl (by decide) (by decide) hk1 hFc hP1 hD1
        have hP : va_P (dC, dI) classes [(oSt, .inr (4, xs)), (oWa, .inr (5, xw)), (oB, .inr (0, xb)), (oRu, .inr (10, xn)), (oG1, .inr (8, xg)), (xb_watchWhat, .inl (cI, 16, .inl (fun _ => 5))), (oAc, .inr (11, xc)), (oR1, .inr (7, xr))] H := hP
        have hD : va_D A [(oSt, .inr (4, xs)), (oWa, .inr (5, xw)), (oB, .inr (0, xb)), (oRu, .inr (10, xn)), (oG1, .inr (8, xg)), (xb_watchWhat, .inl (cI, 16, .inl (fun _ => 5))), (oAc, .inr (11, xc)), (oR1, .inr (7, xr))] := hD
        refine lv_aload_n hx hb d_Bh_tick_24 rfl (lv_at hl 1 rfl) ?_
        refine va_get (D := (dC, dI)) (ci := 0) (v := .ref oAc) (C := R_Bh) (T := F_Bh) (N := 16) hx hb hts (fun w h => List.mem_cons_of_mem _ (in_Bh w h)) hown hK.1 hP 2 rfl rfl 5 (by decide) (hts _ (List.mem_cons_of_mem _ mw_689)) (fun _ h9 => h9) hb_acts d_Bh_tick_25 ?_
        refine va_get (D := (dC, dI)) (ci := 11) (v := .ref oR1) (C := R_Ac) (T := F_Ac) (N := 8) hx hb hts (fun w h => List.mem_cons_of_mem _ (in_Ac w h)) hown hK.1 hP 6 rfl rfl 3 (by decide) (hts _ (List.mem_cons_of_mem _ mw_394)) (fun _ h9 => h9) hac_rows d_Bh_tick_28 ?_
        have hPc := hP.sub (ws' := [(oR1, .inr (7, xr))]) [7] rfl
        have hDc := hD.sub (ws' := [(oR1, .inr (7, xr))]) [7] (by decide) rfl
        have hFc := pu_free hS hA
        refine va_callv (va_runV (C := R_Ro) (As := []) (rest := []) ⟨hx, hb, hml, hown, hts⟩ (c_Ro_countSecond l dC dI cI cB cZ cJ oR1 xr hxr_count H.size) (cwV 0 hts (tb_V mw_1335 mw_1336 mw_1337 mw_10 mw_1338) rfl rfl rfl ⟨rfl, by decide +kernel, by decide +kernel, by decide +kernel⟩ ⟨(Nat.le_of_ble_eq_true rfl), (Nat.le_of_ble_eq_true rfl)⟩) ⟨pw_blind, va_recv (q := (R_Ro, F_Ro, 18)) hK.1 hP (ci := 7) (q0 := 7) rfl rfl, pw_pre hPc hK hDc⟩ rfl rfl hl.1 rfl (lv_room (Nat.le_of_ble_eq_true rfl)) d_Bh_tick_31 ⟨(Nat.le_of_ble_eq_true rfl), (Nat.le_of_ble_eq_true rfl)⟩) hS (fun q _ h => hFc q h) hFc (fun u t H locs ht hvm hw hB hz1 hk1 hS => ?_)
        have hP := pu_kept hP hk1
        refine lv_aload_n hx hb d_Bh_tick_34 rfl (lv_at hl 1 rfl) ?_
        refine va_get (D := (dC, dI)) (ci := 0) (v := .ref oRu) (C := R_Bh) (T := F_Bh) (N := 16) hx hb hts (fun w h => List.mem_cons_of_mem _ (in_Bh w h)) hown hK.1 hP 2 rfl rfl 6 (by decide) (hts _ (List.mem_cons_of_mem _ mw_690)) (fun _ h9 => h9) hb_run d_Bh_tick_35 ?_
        refine va_get (D := (dC, dI)) (ci := 10) (v := .int 4) (C := R_Ru) (T := F_Ru) (N := 21) hx hb hts (fun w h => List.mem_cons_of_mem _ (in_Ru w h)) hown hK.1 hP 3 rfl rfl 4 (by decide) (hts _ (List.mem_cons_of_mem _ mw_517)) (fun _ h9 => h9) hru_state d_Bh_tick_38 ?_
        refine lv_if_ne (tgt := 80) hx hb d_Bh_tick_41 (by decide) (fun _ => ?_) (fun h => absurd h (by decide))
        refine lv_aload_n hx hb d_Bh_tick_80 rfl (lv_at hl 1 rfl) ?_
        refine va_get (D := (dC, dI)) (ci := 0) (v := .ref oWa) (C := R_Bh) (T := F_Bh) (N := 16) hx hb hts (fun w h => List.mem_cons_of_mem _ (in_Bh w h)) hown hK.1 hP 2 rfl rfl 3 (by decide) (hts _ (List.mem_cons_of_mem _ mw_687)) (fun _ h9 => h9) hb_ways d_Bh_tick_81 ?_
        have hPc := hP.sub (ws' := [(oWa, .inr (5, xw))]) [1] rfl
        have hDc := hD.sub (ws' := [(oWa, .inr (5, xw))]) [1] (by decide) rfl
        have hFc := pu_free hS hA
        refine va_callv (va_runV (C := R_Wa) (As := []) (rest := []) ⟨hx, hb, hml, hown, hts⟩ (c_Wa_move l dC dI cI cB cZ cJ oWa xw hwa_count H.size) (cwV 0 hts (tb_V mw_1434 mw_1435 mw_1436 mw_7 mw_1437) rfl rfl rfl ⟨rfl, by decide +kernel, by decide +kernel, by decide +kernel⟩ ⟨(Nat.le_of_ble_eq_true rfl), (Nat.le_of_ble_eq_true rfl)⟩) ⟨pw_blind, va_recv (q := (R_Wa, F_Wa, 18)) hK.1 hP (ci := 5) (q0 := 1) rfl rfl, pw_pre hPc hK hDc⟩ rfl rfl hl.1 rfl (lv_room (Nat.le_of_ble_eq_true rfl)) d_Bh_tick_84 ⟨(Nat.le_of_ble_eq_true rfl), (Nat.le_of_ble_eq_true rfl)⟩) hS (fun q _ h => hFc q h) hFc (fun u t H locs ht hvm hw hB hz1 hk1 hS => ?_)
        have hP := pu_kept hP hk1
        refine lv_aload_n hx hb d_Bh_tick_87 rfl (lv_at hl 1 rfl) ?_
        refine va_get (D := (dC, dI)) (ci := 0) (v := .ref oSt) (C := R_Bh) (T := F_Bh) (N := 16) hx hb hts (fun w h => List.mem_cons_of_mem _ (in_Bh w h)) hown hK.1 hP 2 rfl rfl 2 (by decide) (hts _ (List.mem_cons_of_mem _ mw_686)) (fun _ h9 => h9) hb_stock d_Bh_tick_88 ?_
        refine lv_dup hx hb d_Bh_tick_91 rfl ?_
        refine va_get (D := (dC, dI)) (ci := 4) (v := .int v_1) (C := R_St) (T := F_St) (N := 12) hx hb hts (fun w h => List.mem_cons_of_mem _ (in_St w h)) hown hK.1 hP 0 rfl rfl 1 (by decide) (hts _ (List.mem_cons_of_mem _ mw_156)) (fun _ h9 => h9) y_1 d_Bh_tick_92 ?_
        refine lv_iconst (v := 1) hx hb d_Bh_tick_95 (by decide) ?_
        refine lv_iadd hx hb d_Bh_tick_96 ?_
        refine va_put (D := (dC, dI)) (ci := 4) (v := .int (v_1 + 1)) (ty := .int) (C := R_St) (T := F_St) (N := 12) hx hb hts (fun w h => List.mem_cons_of_mem _ (in_St w h)) t_St t_St_ok n_St hown hK.1 hP hD hS 0 rfl rfl 1 (by decide) (hts _ (List.mem_cons_of_mem _ mw_156)) (fun _ h9 => h9) rfl (by decide +kernel) rfl rfl (st_lt y_1) d_Bh_tick_97 (fun H locs hP hD hS => ?_)
        have g97_1 : fx (xs.set 1 (.int (v_1 + 1))) 1 (.int (v_1 + 1)) := (st_eq y_1)
        have hP : va_P (dC, dI) classes [(oSt, .inr (4, (xs.set 1 (.int (v_1 + 1))))), (oWa, .inr (5, xw)), (oB, .inr (0, xb)), (oRu, .inr (10, xn)), (oG1, .inr (8, xg)), (xb_watchWhat, .inl (cI, 16, .inl (fun _ => 5))), (oAc, .inr (11, xc)), (oR1, .inr (7, xr))] H := hP
        have hD : va_D A [(oSt, .inr (4, (xs.set 1 (.int (v_1 + 1))))), (oWa, .inr (5, xw)), (oB, .inr (0, xb)), (oRu, .inr (10, xn)), (oG1, .inr (8, xg)), (xb_watchWhat, .inl (cI, 16, .inl (fun _ => 5))), (oAc, .inr (11, xc)), (oR1, .inr (7, xr))] := hD
        refine lv_iinc (k := 0) (v := (nI (i + 1))) hx hb d_Bh_tick_100 hl rfl (by first | rfl | decide | exact nI_1 i | exact pv_1 j hj) (by decide) rfl (fun ls hl => ?_)
        have hl : lv_has ls 3 [(2, .int (nI (i + 1))), (0, .ref oB), (1, .int (nI n))] := hl
        refine lv_goto (tgt := 15) hx hb d_Bh_tick_103 (by decide) ?_
        have hP := hP.sub (ws' := [(oB, .inr (0, xb)), (oSt, .inr (4, (xs.set 1 (.int (v_1 + 1))))), (oRu, .inr (10, xn)), (oG1, .inr (8, xg)), (xb_watchWhat, .inl (cI, 16, .inl (fun _ => 5))), (oAc, .inr (11, xc)), (oR1, .inr (7, xr)), (oWa, .inr (5, xw))]) [2, 0, 3, 4, 5, 6, 7, 1] rfl
        have hD := hD.sub (ws' := [(oB, .inr (0, xb)), (oSt, .inr (4, (xs.set 1 (.int (v_1 + 1))))), (oRu, .inr (10, xn)), (oG1, .inr (8, xg)), (xb_watchWhat, .inl (cI, 16, .inl (fun _ => 5))), (oAc, .inr (11, xc)), (oR1, .inr (7, xr)), (oWa, .inr (5, xw))]) [2, 0, 3, 4, 5, 6, 7, 1] (by decide) rfl
        have hl : lv_has ls 3 [(2, .int (nI (i + 1))), (0, .ref oB), (1, .int (nI n))] := lv_sub hl [0, 1, 2] rfl
        exact hk (xs.set 1 (.int (v_1 + 1))) H locs ls ⟨⟨_, g97_1⟩, hP, hD, hS, hl⟩
      · intro xs H locs ls hI
        obtain ⟨⟨v_1, y_1⟩, hP, hD, hS, hl⟩ := hI
        refine lv_iload_n hx hb d_Bh_tick_15 rfl (lv_at hl 0 rfl) ?_
        refine lv_iload_n hx hb d_Bh_tick_16 rfl (lv_at hl 2 rfl) ?_
        refine lv_icmp_ge (tgt := 106) hx hb d_Bh_tick_17 (by decide) (fun _ => ?_) (fun h => absurd (nI_le (Nat.le_refl _) (by omega)) h)
        refine lv_aload_n hx hb d_Bh_tick_106 rfl (lv_at hl 1 rfl) ?_
        refine va_get (D := (dC, dI)) (ci := 0) (v := .ref oRu) (C := R_Bh) (T := F_Bh) (N := 16) hx hb hts (fun w h => List.mem_cons_of_mem _ (in_Bh w h)) hown hK.1 hP 0 rfl rfl 6 (by decide) (hts _ (List.mem_cons_of_mem _ mw_690)) (fun _ h9 => h9) hb_run d_Bh_tick_107 ?_
        refine va_get (D := (dC, dI)) (ci := 10) (v := .int 4) (C := R_Ru) (T := F_Ru) (N := 21) hx hb hts (fun w h => List.mem_cons_of_mem _ (in_Ru w h)) hown hK.1 hP 2 rfl rfl 4 (by decide) (hts _ (List.mem_cons_of_mem _ mw_517)) (fun _ h9 => h9) hru_state d_Bh_tick_110 ?_
        exact W.iret (v := 4) hx hb hr (fun t ht hW => ⟨⟨_, (), rfl, (by unfold fn_Bh_tick; rw [if_neg h1, if_pos h8]), trivial⟩, hS.F ht⟩) hS.2.2 d_Bh_tick_113
    · refine lv_iconst (v := (-1)) hx hb d_Bh_tick_11 (by decide) ?_
      exact W.iret (v := (-1)) hx hb hr (fun t ht hW => ⟨⟨_, (), rfl, (by unfold fn_Bh_tick; rw [if_neg h1, if_neg h8]), trivial⟩, hS.F ht⟩) hS.2.2 d_Bh_tick_12
