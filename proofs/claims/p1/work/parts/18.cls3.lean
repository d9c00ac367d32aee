abbrev b_Tp_put : ByteArray := prog_11_method_3_code
def y_Tp_put : MethodName := ⟨R_Tp, "put", "(I)V"⟩
abbrev w_Tp_put : List Cond := .code y_Tp_put b_Tp_put 3 none :: lw_gd
abbrev b_Bh_feed : ByteArray := prog_1_method_2_code
def y_Bh_feed : MethodName := ⟨R_Bh, "feed", "(IIIII)I"⟩
abbrev w_Bh_feed : List Cond := .code y_Bh_feed b_Bh_feed 6 (some .int) :: lw_gd
abbrev b_Ro_countSecond : ByteArray := prog_7_method_4_code
def y_Ro_countSecond : MethodName := ⟨R_Ro, "countSecond", "()V"⟩
abbrev w_Ro_countSecond : List Cond := .code y_Ro_countSecond b_Ro_countSecond 3 none :: lw_gd
abbrev b_Wa_move : ByteArray := prog_12_method_15_code
def y_Wa_move : MethodName := ⟨R_Wa, "move", "()V"⟩
abbrev w_Wa_move : List Cond := .code y_Wa_move b_Wa_move 3 none :: lw_gd
abbrev b_Wa_closeAll : ByteArray := prog_12_method_13_code
def y_Wa_closeAll : MethodName := ⟨R_Wa, "closeAll", "()V"⟩
abbrev w_Wa_closeAll : List Cond := .code y_Wa_closeAll b_Wa_closeAll 2 none :: lw_gd
abbrev b_Bh_senseAll : ByteArray := prog_1_method_19_code
def y_Bh_senseAll : MethodName := ⟨R_Bh, "senseAll", "()V"⟩
abbrev w_Bh_senseAll : List Cond := .code y_Bh_senseAll b_Bh_senseAll 6 none :: lw_gd
abbrev b_Bh_tick : ByteArray := prog_1_method_18_code
def y_Bh_tick : MethodName := ⟨R_Bh, "tick", "(I)I"⟩
abbrev w_Bh_tick : List Cond := .code y_Bh_tick b_Bh_tick 3 (some .int) :: lw_gd
theorem mw_2 : (.initialized "BreweryHouse$Tape" : Cond) ∈ lw_gd := tb_mem (i := 2) (by decide +kernel) (by decide +kernel)
theorem mw_40 : (.fieldLink "BreweryHouse" 123 "BreweryHouse$Tape" "length" "I" : Cond) ∈ lw_gd := tb_mem (i := 40) (by decide +kernel) (by decide +kernel)
theorem mw_332 : (.fieldLink "BreweryHouse" 177 "BreweryHouse$Rows" "conditions" "I" : Cond) ∈ lw_gd := tb_mem (i := 332) (by decide +kernel) (by decide +kernel)
theorem mw_459 : (.fieldLink "BreweryHouse" 292 "BreweryHouse$Program" "names" "I" : Cond) ∈ lw_gd := tb_mem (i := 459) (by decide +kernel) (by decide +kernel)
theorem mw_684 : (.fieldLink "BreweryHouse" 10 "BreweryHouse" "tape" "LBreweryHouse$Tape;" : Cond) ∈ lw_gd := tb_mem (i := 684) (by decide +kernel) (by decide +kernel)
theorem mw_737 : (.methodLink "BreweryHouse" 115 y_Tp_hasRoom : Cond) ∈ lw_gd := tb_mem (i := 737) (by decide +kernel) (by decide +kernel)
theorem mw_738 : (.instanceMethod y_Tp_hasRoom : Cond) ∈ lw_gd := tb_mem (i := 738) (by decide +kernel) (by decide +kernel)
theorem mw_739 : (.selects "BreweryHouse$Tape" y_Tp_hasRoom y_Tp_hasRoom : Cond) ∈ lw_gd := tb_mem (i := 739) (by decide +kernel) (by decide +kernel)
theorem mw_740 : (.code y_Tp_hasRoom b_Tp_hasRoom 1 (some .boolean) : Cond) ∈ lw_gd := tb_mem (i := 740) (by decide +kernel) (by decide +kernel)
theorem mw_741 : (.methodLink "BreweryHouse" 119 y_Tp_put : Cond) ∈ lw_gd := tb_mem (i := 741) (by decide +kernel) (by decide +kernel)
theorem mw_742 : (.instanceMethod y_Tp_put : Cond) ∈ lw_gd := tb_mem (i := 742) (by decide +kernel) (by decide +kernel)
theorem mw_743 : (.selects "BreweryHouse$Tape" y_Tp_put y_Tp_put : Cond) ∈ lw_gd := tb_mem (i := 743) (by decide +kernel) (by decide +kernel)
theorem mw_744 : (.code y_Tp_put b_Tp_put 3 none : Cond) ∈ lw_gd := tb_mem (i := 744) (by decide +kernel) (by decide +kernel)
theorem mw_1322 : (.methodLink "BreweryHouse" 280 y_Bh_senseAll : Cond) ∈ lw_gd := tb_mem (i := 1322) (by decide +kernel) (by decide +kernel)
theorem mw_1324 : (.instanceMethod y_Bh_senseAll : Cond) ∈ lw_gd := tb_mem (i := 1324) (by decide +kernel) (by decide +kernel)
theorem mw_1325 : (.code y_Bh_senseAll b_Bh_senseAll 6 none : Cond) ∈ lw_gd := tb_mem (i := 1325) (by decide +kernel) (by decide +kernel)
theorem mw_1335 : (.methodLink "BreweryHouse" 283 y_Ro_countSecond : Cond) ∈ lw_gd := tb_mem (i := 1335) (by decide +kernel) (by decide +kernel)
theorem mw_1336 : (.instanceMethod y_Ro_countSecond : Cond) ∈ lw_gd := tb_mem (i := 1336) (by decide +kernel) (by decide +kernel)
theorem mw_1337 : (.selects "BreweryHouse$Rows" y_Ro_countSecond y_Ro_countSecond : Cond) ∈ lw_gd := tb_mem (i := 1337) (by decide +kernel) (by decide +kernel)
theorem mw_1338 : (.code y_Ro_countSecond b_Ro_countSecond 3 none : Cond) ∈ lw_gd := tb_mem (i := 1338) (by decide +kernel) (by decide +kernel)
theorem mw_1426 : (.methodLink "BreweryHouse" 289 y_Wa_move : Cond) ∈ lw_gd := tb_mem (i := 1426) (by decide +kernel) (by decide +kernel)
theorem mw_1427 : (.instanceMethod y_Wa_move : Cond) ∈ lw_gd := tb_mem (i := 1427) (by decide +kernel) (by decide +kernel)
theorem mw_1428 : (.selects "BreweryHouse$Ways" y_Wa_move y_Wa_move : Cond) ∈ lw_gd := tb_mem (i := 1428) (by decide +kernel) (by decide +kernel)
theorem mw_1429 : (.code y_Wa_move b_Wa_move 3 none : Cond) ∈ lw_gd := tb_mem (i := 1429) (by decide +kernel) (by decide +kernel)
theorem sl_62 : (.selects "BreweryHouse" y_Bh_senseAll y_Bh_senseAll : Cond) ∈ lw_gd := List.mem_filter.mpr ⟨List.mem_append_left _ (List.mem_of_getElem? (i := 62) (by decide +kernel)), by decide +kernel⟩
theorem d_Tp_put_0 : decode b_Tp_put 0 = .ok (.aload_n 0, 1) := by decide +kernel
theorem d_Tp_put_1 : decode b_Tp_put 1 = .ok (.getfield 15, 3) := by decide +kernel
theorem d_Tp_put_4 : decode b_Tp_put 4 = .ok (.iconst 2, 1) := by decide +kernel
theorem d_Tp_put_5 : decode b_Tp_put 5 = .ok (.ishr, 1) := by decide +kernel
theorem d_Tp_put_6 : decode b_Tp_put 6 = .ok (.istore_n 2, 1) := by decide +kernel
theorem d_Tp_put_7 : decode b_Tp_put 7 = .ok (.iload_n 2, 1) := by decide +kernel
theorem d_Tp_put_8 : decode b_Tp_put 8 = .ok (.aload_n 0, 1) := by decide +kernel
theorem d_Tp_put_9 : decode b_Tp_put 9 = .ok (.getfield 9, 3) := by decide +kernel
theorem d_Tp_put_12 : decode b_Tp_put 12 = .ok (.arraylength, 1) := by decide +kernel
theorem d_Tp_put_13 : decode b_Tp_put 13 = .ok (.if_icmp .ge 20, 3) := by decide +kernel
theorem d_Tp_put_16 : decode b_Tp_put 16 = .ok (.aload_n 0, 1) := by decide +kernel
theorem d_Tp_put_17 : decode b_Tp_put 17 = .ok (.getfield 9, 3) := by decide +kernel
theorem d_Tp_put_20 : decode b_Tp_put 20 = .ok (.iload_n 2, 1) := by decide +kernel
theorem d_Tp_put_21 : decode b_Tp_put 21 = .ok (.iload_n 1, 1) := by decide +kernel
theorem d_Tp_put_22 : decode b_Tp_put 22 = .ok (.iastore, 1) := by decide +kernel
theorem d_Tp_put_23 : decode b_Tp_put 23 = .ok (.aload_n 0, 1) := by decide +kernel
theorem d_Tp_put_24 : decode b_Tp_put 24 = .ok (.dup, 1) := by decide +kernel
theorem d_Tp_put_25 : decode b_Tp_put 25 = .ok (.getfield 15, 3) := by decide +kernel
theorem d_Tp_put_28 : decode b_Tp_put 28 = .ok (.iconst 4, 1) := by decide +kernel
theorem d_Tp_put_29 : decode b_Tp_put 29 = .ok (.iadd, 1) := by decide +kernel
theorem d_Tp_put_30 : decode b_Tp_put 30 = .ok (.putfield 15, 3) := by decide +kernel
theorem d_Tp_put_33 : decode b_Tp_put 33 = .ok (.return_, 1) := by decide +kernel
set_option maxHeartbeats 4000000 in
set_option maxRecDepth 100000 in
theorem c_Tp_put_0 (l : Launch) (dC : Nat → ClassId) (dI : Nat → Nat → Nat) (cI cB cZ cJ : ClassId) (nu : Int32) (oTp : Nat) (xt_cells : Nat) (z_xt_cells : Nat → Int32) (xt : List Value) (htp_cells : xt[0]? = some (.ref xt_cells)) (htp_length : xt[1]? = some (.int 0)) (sz : Nat) : Met l y_Tp_put w_Tp_put ({ frames := 0, cells := 0, slots := 0, locals := 0 }) (va_Pc [.ref oTp, .int nu] (PW dC dI cI cB cZ cJ [(oTp, .inr (1, xt)), (xt_cells, .inl (cI, 1005, .inl z_xt_cells))] sz)) (va_Qv (fun _ : Unit => True) (fun (_ : Unit) (t : State) => ∃ (n_xt : List Value) (n_xt_cells : Nat → Int32), n_xt[0]? = some (.ref xt_cells) ∧ n_xt[1]? = some (.int 4) ∧ va_P (dC, dI) classes [(oTp, .inr (1, n_xt)), (xt_cells, .inl (cI, 1005, .inl n_xt_cells))] t.heap ∧ va_D (va_A [(oTp, .inr (1, xt)), (xt_cells, .inl (cI, 1005, .inl z_xt_cells))] sz) [(oTp, .inr (1, n_xt)), (xt_cells, .inl (cI, 1005, .inl n_xt_cells))]) (va_A [(oTp, .inr (1, xt)), (xt_cells, .inl (cI, 1005, .inl z_xt_cells))] sz)) 0 0 (va_A [(oTp, .inr (1, xt)), (xt_cells, .inl (cI, 1005, .inl z_xt_cells))] sz) := by
  refine Met.ofW (cc := b_Tp_put) (maxL := 3) (ret := none) (by decide) rfl ?_
  intro p e s m args below meth c s₁ B hml hv
  obtain ⟨rfl, hsz, hP, hK, hD⟩ := hv
  have hx := B.exec
  have hb := B.bytes
  have hr := B.returns
  have hts := atoms_spec (ws := w_Tp_put) B.pre
  have hown : s.vm.findClass R_Tp = some m.cls := findClass_of_methodNamed B.named
  have hlocks := B.notSynchronized
  subst hsz
  have hD := hD.self (sz := s.heap.size)
  generalize hAe : va_A [(oTp, .inr (1, xt)), (xt_cells, .inl (cI, 1005, .inl z_xt_cells))] s.heap.size = A at hD ⊢
  have hA : ∀ q : Nat, s.heap.size ≤ q → A q := fun q h => by rw [← hAe]; exact Or.inr h
  have hS : va_S A s.heap s.heap [] := va_S.rf
  have hP : va_P (dC, dI) classes [(oTp, .inr (1, xt)), (xt_cells, .inl (cI, 1005, .inl z_xt_cells))] s.heap := hP
  have hl := lv_entry ([.ref oTp, .int nu]) (n := 3) (Nat.le_of_ble_eq_true rfl)
  rw [lg_entry_eq]
  generalize (lg_sl ([.ref oTp, .int nu]) ++ List.replicate (3 - (lg_sl ([.ref oTp, .int nu])).length) Slot.unset).toArray = ls at hl ⊢
  have hl : lv_has ls 3 [(0, .ref oTp), (1, .int nu)] := hl
  refine lv_aload_n hx hb d_Tp_put_0 rfl (lv_at hl 0 rfl) ?_
  refine va_get (D := (dC, dI)) (ci := 1) (v := .int 0) (C := R_Tp) (T := F_Tp) (N := 3) hx hb hts (fun w h => List.mem_cons_of_mem _ (in_Tp w h)) hown hK.1 hP 0 rfl rfl 1 (by decide) (hts _ (List.mem_cons_of_mem _ mw_39)) (fun _ h9 => h9) htp_length d_Tp_put_1 ?_
  refine lv_iconst (v := 2) hx hb d_Tp_put_4 (by decide) ?_
  refine lv_ishr hx hb d_Tp_put_5 ?_
  refine lv_topi (fun x0 e0 => ?_)
  obtain rfl : x0 = 0 := e0.trans (by decide)
  refine lv_istore_n hx hb d_Tp_put_6 rfl hl (by decide) rfl (fun ls hl => ?_)
  have hl : lv_has ls 3 [(2, .int 0), (0, .ref oTp), (1, .int nu)] := hl
  refine lv_iload_n hx hb d_Tp_put_7 rfl (lv_at hl 0 rfl) ?_
  refine lv_aload_n hx hb d_Tp_put_8 rfl (lv_at hl 1 rfl) ?_
  refine va_get (D := (dC, dI)) (ci := 1) (v := .ref xt_cells) (C := R_Tp) (T := F_Tp) (N := 3) hx hb hts (fun w h => List.mem_cons_of_mem _ (in_Tp w h)) hown hK.1 hP 0 rfl rfl 0 (by decide) (hts _ (List.mem_cons_of_mem _ mw_38)) (fun _ h9 => h9) htp_cells d_Tp_put_9 ?_
  refine va_alen hx hb hK.1 hP 1 0 rfl rfl (v := 1005) rfl d_Tp_put_12 ?_
  refine lv_icmp_ge (tgt := 33) hx hb d_Tp_put_13 (by decide) (fun h => absurd h (by decide)) (fun _ => ?_)
  refine lv_aload_n hx hb d_Tp_put_16 rfl (lv_at hl 1 rfl) ?_
  refine va_get (D := (dC, dI)) (ci := 1) (v := .ref xt_cells) (C := R_Tp) (T := F_Tp) (N := 3) hx hb hts (fun w h => List.mem_cons_of_mem _ (in_Tp w h)) hown hK.1 hP 0 rfl rfl 0 (by decide) (hts _ (List.mem_cons_of_mem _ mw_38)) (fun _ h9 => h9) htp_cells d_Tp_put_17 ?_
  refine lv_iload_n hx hb d_Tp_put_20 rfl (lv_at hl 0 rfl) ?_
  refine lv_iload_n hx hb d_Tp_put_21 rfl (lv_at hl 2 rfl) ?_
  refine va_iast hx hb hK.1 hP hD hS 1 0 rfl rfl (vp_in_iff.mpr (by decide)) d_Tp_put_22 (fun H locs hP hD hS => ?_)
  have hP : va_P (dC, dI) classes [(oTp, .inr (1, xt)), (xt_cells, .inl (cI, 1005, .inl ((upd z_xt_cells (0 : Int32).toNatClampNeg nu))))] H := hP
  have hD : va_D A [(oTp, .inr (1, xt)), (xt_cells, .inl (cI, 1005, .inl ((upd z_xt_cells (0 : Int32).toNatClampNeg nu))))] := hD
  generalize (upd z_xt_cells (0 : Int32).toNatClampNeg nu) = f22_1 at hP hD
  refine lv_aload_n hx hb d_Tp_put_23 rfl (lv_at hl 1 rfl) ?_
  refine lv_dup hx hb d_Tp_put_24 rfl ?_
  refine va_get (D := (dC, dI)) (ci := 1) (v := .int 0) (C := R_Tp) (T := F_Tp) (N := 3) hx hb hts (fun w h => List.mem_cons_of_mem _ (in_Tp w h)) hown hK.1 hP 0 rfl rfl 1 (by decide) (hts _ (List.mem_cons_of_mem _ mw_39)) (fun _ h9 => h9) htp_length d_Tp_put_25 ?_
  refine lv_iconst (v := 4) hx hb d_Tp_put_28 (by decide) ?_
  refine lv_iadd hx hb d_Tp_put_29 ?_
  refine lv_topi (fun x0 e0 => ?_)
  obtain rfl : x0 = 4 := e0.trans (by decide)
  refine va_put (D := (dC, dI)) (ci := 1) (v := .int 4) (ty := .int) (C := R_Tp) (T := F_Tp) (N := 3) hx hb hts (fun w h => List.mem_cons_of_mem _ (in_Tp w h)) t_Tp t_Tp_ok n_Tp hown hK.1 hP hD hS 0 rfl rfl 1 (by decide) (hts _ (List.mem_cons_of_mem _ mw_39)) (fun _ h9 => h9) rfl (by decide +kernel) rfl rfl (st_lt htp_length) d_Tp_put_30 (fun H locs hP hD hS => ?_)
  have g30_0 : (xt.set 1 (.int 4))[0]? = some (.ref xt_cells) := (st_ne htp_cells (by decide))
  have g30_1 : (xt.set 1 (.int 4))[1]? = some (.int 4) := (st_eq htp_length)
  have hP : va_P (dC, dI) classes [(oTp, .inr (1, (xt.set 1 (.int 4)))), (xt_cells, .inl (cI, 1005, .inl f22_1))] H := hP
  have hD : va_D A [(oTp, .inr (1, (xt.set 1 (.int 4)))), (xt_cells, .inl (cI, 1005, .inl f22_1))] := hD
  exact W.vret hx hb hr (fun t ht hW => ⟨⟨(), rfl, trivial, ⟨(xt.set 1 (.int 4)), f22_1, g30_0, g30_1, by rw [ht]; exact hP, hD⟩⟩, hS.F ht⟩) hS.2.2 d_Tp_put_33
set_option maxHeartbeats 4000000 in
set_option maxRecDepth 100000 in
theorem c_Tp_put_4 (l : Launch) (dC : Nat → ClassId) (dI : Nat → Nat → Nat) (cI cB cZ cJ : ClassId) (nu : Int32) (oTp : Nat) (xt_cells : Nat) (z_xt_cells : Nat → Int32) (xt : List Value) (htp_cells : xt[0]? = some (.ref xt_cells)) (htp_length : xt[1]? = some (.int 4)) (sz : Nat) : Met l y_Tp_put w_Tp_put ({ frames := 0, cells := 0, slots := 0, locals := 0 }) (va_Pc [.ref oTp, .int nu] (PW dC dI cI cB cZ cJ [(oTp, .inr (1, xt)), (xt_cells, .inl (cI, 1005, .inl z_xt_cells))] sz)) (va_Qv (fun _ : Unit => True) (fun (_ : Unit) (t : State) => ∃ (n_xt : List Value) (n_xt_cells : Nat → Int32), n_xt[0]? = some (.ref xt_cells) ∧ n_xt[1]? = some (.int 8) ∧ va_P (dC, dI) classes [(oTp, .inr (1, n_xt)), (xt_cells, .inl (cI, 1005, .inl n_xt_cells))] t.heap ∧ va_D (va_A [(oTp, .inr (1, xt)), (xt_cells, .inl (cI, 1005, .inl z_xt_cells))] sz) [(oTp, .inr (1, n_xt)), (xt_cells, .inl (cI, 1005, .inl n_xt_cells))]) (va_A [(oTp, .inr (1, xt)), (xt_cells, .inl (cI, 1005, .inl z_xt_cells))] sz)) 0 0 (va_A [(oTp, .inr (1, xt)), (xt_cells, .inl (cI, 1005, .inl z_xt_cells))] sz) := by
  refine Met.ofW (cc := b_Tp_put) (maxL := 3) (ret := none) (by decide) rfl ?_
  intro p e s m args below meth c s₁ B hml hv
  obtain ⟨rfl, hsz, hP, hK, hD⟩ := hv
  have hx := B.exec
  have hb := B.bytes
  have hr := B.returns
  have hts := atoms_spec (ws := w_Tp_put) B.pre
  have hown : s.vm.findClass R_Tp = some m.cls := findClass_of_methodNamed B.named
  have hlocks := B.notSynchronized
  subst hsz
  have hD := hD.self (sz := s.heap.size)
  generalize hAe : va_A [(oTp, .inr (1, xt)), (xt_cells, .inl (cI, 1005, .inl z_xt_cells))] s.heap.size = A at hD ⊢
  have hA : ∀ q : Nat, s.heap.size ≤ q → A q := fun q h => by rw [← hAe]; exact Or.inr h
  have hS : va_S A s.heap s.heap [] := va_S.rf
  have hP : va_P (dC, dI) classes [(oTp, .inr (1, xt)), (xt_cells, .inl (cI, 1005, .inl z_xt_cells))] s.heap := hP
  have hl := lv_entry ([.ref oTp, .int nu]) (n := 3) (Nat.le_of_ble_eq_true rfl)
  rw [lg_entry_eq]
  generalize (lg_sl ([.ref oTp, .int nu]) ++ List.replicate (3 - (lg_sl ([.ref oTp, .int nu])).length) Slot.unset).toArray = ls at hl ⊢
  have hl : lv_has ls 3 [(0, .ref oTp), (1, .int nu)] := hl
  refine lv_aload_n hx hb d_Tp_put_0 rfl (lv_at hl 0 rfl) ?_
  refine va_get (D := (dC, dI)) (ci := 1) (v := .int 4) (C := R_Tp) (T := F_Tp) (N := 3) hx hb hts (fun w h => List.mem_cons_of_mem _ (in_Tp w h)) hown hK.1 hP 0 rfl rfl 1 (by decide) (hts _ (List.mem_cons_of_mem _ mw_39)) (fun _ h9 => h9) htp_length d_Tp_put_1 ?_
  refine lv_iconst (v := 2) hx hb d_Tp_put_4 (by decide) ?_
  refine lv_ishr hx hb d_Tp_put_5 ?_
  refine lv_topi (fun x0 e0 => ?_)
  obtain rfl : x0 = 1 := e0.trans (by decide)
  refine lv_istore_n hx hb d_Tp_put_6 rfl hl (by decide) rfl (fun ls hl => ?_)
  have hl : lv_has ls 3 [(2, .int 1), (0, .ref oTp), (1, .int nu)] := hl
  refine lv_iload_n hx hb d_Tp_put_7 rfl (lv_at hl 0 rfl) ?_
  refine lv_aload_n hx hb d_Tp_put_8 rfl (lv_at hl 1 rfl) ?_
  refine va_get (D := (dC, dI)) (ci := 1) (v := .ref xt_cells) (C := R_Tp) (T := F_Tp) (N := 3) hx hb hts (fun w h => List.mem_cons_of_mem _ (in_Tp w h)) hown hK.1 hP 0 rfl rfl 0 (by decide) (hts _ (List.mem_cons_of_mem _ mw_38)) (fun _ h9 => h9) htp_cells d_Tp_put_9 ?_
  refine va_alen hx hb hK.1 hP 1 0 rfl rfl (v := 1005) rfl d_Tp_put_12 ?_
  refine lv_icmp_ge (tgt := 33) hx hb d_Tp_put_13 (by decide) (fun h => absurd h (by decide)) (fun _ => ?_)
  refine lv_aload_n hx hb d_Tp_put_16 rfl (lv_at hl 1 rfl) ?_
  refine va_get (D := (dC, dI)) (ci := 1) (v := .ref xt_cells) (C := R_Tp) (T := F_Tp) (N := 3) hx hb hts (fun w h => List.mem_cons_of_mem _ (in_Tp w h)) hown hK.1 hP 0 rfl rfl 0 (by decide) (hts _ (List.mem_cons_of_mem _ mw_38)) (fun _ h9 => h9) htp_cells d_Tp_put_17 ?_
  refine lv_iload_n hx hb d_Tp_put_20 rfl (lv_at hl 0 rfl) ?_
  refine lv_iload_n hx hb d_Tp_put_21 rfl (lv_at hl 2 rfl) ?_
  refine va_iast hx hb hK.1 hP hD hS 1 0 rfl rfl (vp_in_iff.mpr (by decide)) d_Tp_put_22 (fun H locs hP hD hS => ?_)
  have hP : va_P (dC, dI) classes [(oTp, .inr (1, xt)), (xt_cells, .inl (cI, 1005, .inl ((upd z_xt_cells (1 : Int32).toNatClampNeg nu))))] H := hP
  have hD : va_D A [(oTp, .inr (1, xt)), (xt_cells, .inl (cI, 1005, .inl ((upd z_xt_cells (1 : Int32).toNatClampNeg nu))))] := hD
  generalize (upd z_xt_cells (1 : Int32).toNatClampNeg nu) = f22_1 at hP hD
  refine lv_aload_n hx hb d_Tp_put_23 rfl (lv_at hl 1 rfl) ?_
  refine lv_dup hx hb d_Tp_put_24 rfl ?_
  refine va_get (D := (dC, dI)) (ci := 1) (v := .int 4) (C := R_Tp) (T := F_Tp) (N := 3) hx hb hts (fun w h => List.mem_cons_of_mem _ (in_Tp w h)) hown hK.1 hP 0 rfl rfl 1 (by decide) (hts _ (List.mem_cons_of_mem _ mw_39)) (fun _ h9 => h9) htp_length d_Tp_put_25 ?_
  refine lv_iconst (v := 4) hx hb d_Tp_put_28 (by decide) ?_
  refine lv_iadd hx hb d_Tp_put_29 ?_
  refine lv_topi (fun x0 e0 => ?_)
  obtain rfl : x0 = 8 := e0.trans (by decide)
  refine va_put (D := (dC, dI)) (ci := 1) (v := .int 8) (ty := .int) (C := R_Tp) (T := F_Tp) (N := 3) hx hb hts (fun w h => List.mem_cons_of_mem _ (in_Tp w h)) t_Tp t_Tp_ok n_Tp hown hK.1 hP hD hS 0 rfl rfl 1 (by decide) (hts _ (List.mem_cons_of_mem _ mw_39)) (fun _ h9 => h9) rfl (by decide +kernel) rfl rfl (st_lt htp_length) d_Tp_put_30 (fun H locs hP hD hS => ?_)
  have g30_0 : (xt.set 1 (.int 8))[0]? = some (.ref xt_cells) := (st_ne htp_cells (by decide))
  have g30_1 : (xt.set 1 (.int 8))[1]? = some (.int 8) := (st_eq htp_length)
  have hP : va_P (dC, dI) classes [(oTp, .inr (1, (xt.set 1 (.int 8)))), (xt_cells, .inl (cI, 1005, .inl f22_1))] H := hP
  have hD : va_D A [(oTp, .inr (1, (xt.set 1 (.int 8)))), (xt_cells, .inl (cI, 1005, .inl f22_1))] := hD
  exact W.vret hx hb hr (fun t ht hW => ⟨⟨(), rfl, trivial, ⟨(xt.set 1 (.int 8)), f22_1, g30_0, g30_1, by rw [ht]; exact hP, hD⟩⟩, hS.F ht⟩) hS.2.2 d_Tp_put_33
set_option maxHeartbeats 4000000 in
set_option maxRecDepth 100000 in
theorem c_Tp_put_8 (l : Launch) (dC : Nat → ClassId) (dI : Nat → Nat → Nat) (cI cB cZ cJ : ClassId) (nu : Int32) (oTp : Nat) (xt_cells : Nat) (z_xt_cells : Nat → Int32) (xt : List Value) (htp_cells : xt[0]? = some (.ref xt_cells)) (htp_length : xt[1]? = some (.int 8)) (sz : Nat) : Met l y_Tp_put w_Tp_put ({ frames := 0, cells := 0, slots := 0, locals := 0 }) (va_Pc [.ref oTp, .int nu] (PW dC dI cI cB cZ cJ [(oTp, .inr (1, xt)), (xt_cells, .inl (cI, 1005, .inl z_xt_cells))] sz)) (va_Qv (fun _ : Unit => True) (fun (_ : Unit) (t : State) => ∃ (n_xt : List Value) (n_xt_cells : Nat → Int32), n_xt[0]? = some (.ref xt_cells) ∧ n_xt[1]? = some (.int 12) ∧ va_P (dC, dI) classes [(oTp, .inr (1, n_xt)), (xt_cells, .inl (cI, 1005, .inl n_xt_cells))] t.heap ∧ va_D (va_A [(oTp, .inr (1, xt)), (xt_cells, .inl (cI, 1005, .inl z_xt_cells))] sz) [(oTp, .inr (1, n_xt)), (xt_cells, .inl (cI, 1005, .inl n_xt_cells))]) (va_A [(oTp, .inr (1, xt)), (xt_cells, .inl (cI, 1005, .inl z_xt_cells))] sz)) 0 0 (va_A [(oTp, .inr (1, xt)), (xt_cells, .inl (cI, 1005, .inl z_xt_cells))] sz) := by
  refine Met.ofW (cc := b_Tp_put) (maxL := 3) (ret := none) (by decide) rfl ?_
  intro p e s m args below meth c s₁ B hml hv
  obtain ⟨rfl, hsz, hP, hK, hD⟩ := hv
  have hx := B.exec
  have hb := B.bytes
  have hr := B.returns
  have hts := atoms_spec (ws := w_Tp_put) B.pre
  have hown : s.vm.findClass R_Tp = some m.cls := findClass_of_methodNamed B.named
  have hlocks := B.notSynchronized
  subst hsz
  have hD := hD.self (sz := s.heap.size)
  generalize hAe : va_A [(oTp, .inr (1, xt)), (xt_cells, .inl (cI, 1005, .inl z_xt_cells))] s.heap.size = A at hD ⊢
  have hA : ∀ q : Nat, s.heap.size ≤ q → A q := fun q h => by rw [← hAe]; exact Or.inr h
  have hS : va_S A s.heap s.heap [] := va_S.rf
  have hP : va_P (dC, dI) classes [(oTp, .inr (1, xt)), (xt_cells, .inl (cI, 1005, .inl z_xt_cells))] s.heap := hP
  have hl := lv_entry ([.ref oTp, .int nu]) (n := 3) (Nat.le_of_ble_eq_true rfl)
  rw [lg_entry_eq]
  generalize (lg_sl ([.ref oTp, .int nu]) ++ List.replicate (3 - (lg_sl ([.ref oTp, .int nu])).length) Slot.unset).toArray = ls at hl ⊢
  have hl : lv_has ls 3 [(0, .ref oTp), (1, .int nu)] := hl
  refine lv_aload_n hx hb d_Tp_put_0 rfl (lv_at hl 0 rfl) ?_
  refine va_get (D := (dC, dI)) (ci := 1) (v := .int 8) (C := R_Tp) (T := F_Tp) (N := 3) hx hb hts (fun w h => List.mem_cons_of_mem _ (in_Tp w h)) hown hK.1 hP 0 rfl rfl 1 (by decide) (hts _ (List.mem_cons_of_mem _ mw_39)) (fun _ h9 => h9) htp_length d_Tp_put_1 ?_
  refine lv_iconst (v := 2) hx hb d_Tp_put_4 (by decide) ?_
  refine lv_ishr hx hb d_Tp_put_5 ?_
  refine lv_topi (fun x0 e0 => ?_)
  obtain rfl : x0 = 2 := e0.trans (by decide)
  refine lv_istore_n hx hb d_Tp_put_6 rfl hl (by decide) rfl (fun ls hl => ?_)
  have hl : lv_has ls 3 [(2, .int 2), (0, .ref oTp), (1, .int nu)] := hl
  refine lv_iload_n hx hb d_Tp_put_7 rfl (lv_at hl 0 rfl) ?_
  refine lv_aload_n hx hb d_Tp_put_8 rfl (lv_at hl 1 rfl) ?_
  refine va_get (D := (dC, dI)) (ci := 1) (v := .ref xt_cells) (C := R_Tp) (T := F_Tp) (N := 3) hx hb hts (fun w h => List.mem_cons_of_mem _ (in_Tp w h)) hown hK.1 hP 0 rfl rfl 0 (by decide) (hts _ (List.mem_cons_of_mem _ mw_38)) (fun _ h9 => h9) htp_cells d_Tp_put_9 ?_
  refine va_alen hx hb hK.1 hP 1 0 rfl rfl (v := 1005) rfl d_Tp_put_12 ?_
  refine lv_icmp_ge (tgt := 33) hx hb d_Tp_put_13 (by decide) (fun h => absurd h (by decide)) (fun _ => ?_)
  refine lv_aload_n hx hb d_Tp_put_16 rfl (lv_at hl 1 rfl) ?_
  refine va_get (D := (dC, dI)) (ci := 1) (v := .ref xt_cells) (C := R_Tp) (T := F_Tp) (N := 3) hx hb hts (fun w h => List.mem_cons_of_mem _ (in_Tp w h)) hown hK.1 hP 0 rfl rfl 0 (by decide) (hts _ (List.mem_cons_of_mem _ mw_38)) (fun _ h9 => h9) htp_cells d_Tp_put_17 ?_
  refine lv_iload_n hx hb d_Tp_put_20 rfl (lv_at hl 0 rfl) ?_
  refine lv_iload_n hx hb d_Tp_put_21 rfl (lv_at hl 2 rfl) ?_
  refine va_iast hx hb hK.1 hP hD hS 1 0 rfl rfl (vp_in_iff.mpr (by decide)) d_Tp_put_22 (fun H locs hP hD hS => ?_)
  have hP : va_P (dC, dI) classes [(oTp, .inr (1, xt)), (xt_cells, .inl (cI, 1005, .inl ((upd z_xt_cells (2 : Int32).toNatClampNeg nu))))] H := hP
  have hD : va_D A [(oTp, .inr (1, xt)), (xt_cells, .inl (cI, 1005, .inl ((upd z_xt_cells (2 : Int32).toNatClampNeg nu))))] := hD
  generalize (upd z_xt_cells (2 : Int32).toNatClampNeg nu) = f22_1 at hP hD
  refine lv_aload_n hx hb d_Tp_put_23 rfl (lv_at hl 1 rfl) ?_
  refine lv_dup hx hb d_Tp_put_24 rfl ?_
  refine va_get (D := (dC, dI)) (ci := 1) (v := .int 8) (C := R_Tp) (T := F_Tp) (N := 3) hx hb hts (fun w h => List.mem_cons_of_mem _ (in_Tp w h)) hown hK.1 hP 0 rfl rfl 1 (by decide) (hts _ (List.mem_cons_of_mem _ mw_39)) (fun _ h9 => h9) htp_length d_Tp_put_25 ?_
  refine lv_iconst (v := 4) hx hb d_Tp_put_28 (by decide) ?_
  refine lv_iadd hx hb d_Tp_put_29 ?_
  refine lv_topi (fun x0 e0 => ?_)
  obtain rfl : x0 = 12 := e0.trans (by decide)
  refine va_put (D := (dC, dI)) (ci := 1) (v := .int 12) (ty := .int) (C := R_Tp) (T := F_Tp) (N := 3) hx hb hts (fun w h => List.mem_cons_of_mem _ (in_Tp w h)) t_Tp t_Tp_ok n_Tp hown hK.1 hP hD hS 0 rfl rfl 1 (by decide) (hts _ (List.mem_cons_of_mem _ mw_39)) (fun _ h9 => h9) rfl (by decide +kernel) rfl rfl (st_lt htp_length) d_Tp_put_30 (fun H locs hP hD hS => ?_)
  have g30_0 : (xt.set 1 (.int 12))[0]? = some (.ref xt_cells) := (st_ne htp_cells (by decide))
  have g30_1 : (xt.set 1 (.int 12))[1]? = some (.int 12) := (st_eq htp_length)
  have hP : va_P (dC, dI) classes [(oTp, .inr (1, (xt.set 1 (.int 12)))), (xt_cells, .inl (cI, 1005, .inl f22_1))] H := hP
  have hD : va_D A [(oTp, .inr (1, (xt.set 1 (.int 12)))), (xt_cells, .inl (cI, 1005, .inl f22_1))] := hD
  exact W.vret hx hb hr (fun t ht hW => ⟨⟨(), rfl, trivial, ⟨(xt.set 1 (.int 12)), f22_1, g30_0, g30_1, by rw [ht]; exact hP, hD⟩⟩, hS.F ht⟩) hS.2.2 d_Tp_put_33
set_option maxHeartbeats 4000000 in
set_option maxRecDepth 100000 in
theorem c_Tp_put_12 (l : Launch) (dC : Nat → ClassId) (dI : Nat → Nat → Nat) (cI cB cZ cJ : ClassId) (nu : Int32) (oTp : Nat) (xt_cells : Nat) (z_xt_cells : Nat → Int32) (xt : List Value) (htp_cells : xt[0]? = some (.ref xt_cells)) (htp_length : xt[1]? = some (.int 12)) (sz : Nat) : Met l y_Tp_put w_Tp_put ({ frames := 0, cells := 0, slots := 0, locals := 0 }) (va_Pc [.ref oTp, .int nu] (PW dC dI cI cB cZ cJ [(oTp, .inr (1, xt)), (xt_cells, .inl (cI, 1005, .inl z_xt_cells))] sz)) (va_Qv (fun _ : Unit => True) (fun (_ : Unit) (t : State) => ∃ (n_xt : List Value) (n_xt_cells : Nat → Int32), n_xt[0]? = some (.ref xt_cells) ∧ n_xt[1]? = some (.int 16) ∧ va_P (dC, dI) classes [(oTp, .inr (1, n_xt)), (xt_cells, .inl (cI, 1005, .inl n_xt_cells))] t.heap ∧ va_D (va_A [(oTp, .inr (1, xt)), (xt_cells, .inl (cI, 1005, .inl z_xt_cells))] sz) [(oTp, .inr (1, n_xt)), (xt_cells, .inl (cI, 1005, .inl n_xt_cells))]) (va_A [(oTp, .inr (1, xt)), (xt_cells, .inl (cI, 1005, .inl z_xt_cells))] sz)) 0 0 (va_A [(oTp, .inr (1, xt)), (xt_cells, .inl (cI, 1005, .inl z_xt_cells))] sz) := by
  refine Met.ofW (cc := b_Tp_put) (maxL := 3) (ret := none) (by decide) rfl ?_
  intro p e s m args below meth c s₁ B hml hv
  obtain ⟨rfl, hsz, hP, hK, hD⟩ := hv
  have hx := B.exec
  have hb := B.bytes
  have hr := B.returns
  have hts := atoms_spec (ws := w_Tp_put) B.pre
  have hown : s.vm.findClass R_Tp = some m.cls := findClass_of_methodNamed B.named
  have hlocks := B.notSynchronized
  subst hsz
  have hD := hD.self (sz := s.heap.size)
  generalize hAe : va_A [(oTp, .inr (1, xt)), (xt_cells, .inl (cI, 1005, .inl z_xt_cells))] s.heap.size = A at hD ⊢
  have hA : ∀ q : Nat, s.heap.size ≤ q → A q := fun q h => by rw [← hAe]; exact Or.inr h
  have hS : va_S A s.heap s.heap [] := va_S.rf
  have hP : va_P (dC, dI) classes [(oTp, .inr (1, xt)), (xt_cells, .inl (cI, 1005, .inl z_xt_cells))] s.heap := hP
  have hl := lv_entry ([.ref oTp, .int nu]) (n := 3) (Nat.le_of_ble_eq_true rfl)
  rw [lg_entry_eq]
  generalize (lg_sl ([.ref oTp, .int nu]) ++ List.replicate (3 - (lg_sl ([.ref oTp, .int nu])).length) Slot.unset).toArray = ls at hl ⊢
  have hl : lv_has ls 3 [(0, .ref oTp), (1, .int nu)] := hl
  refine lv_aload_n hx hb d_Tp_put_0 rfl (lv_at hl 0 rfl) ?_
  refine va_get (D := (dC, dI)) (ci := 1) (v := .int 12) (C := R_Tp) (T := F_Tp) (N := 3) hx hb hts (fun w h => List.mem_cons_of_mem _ (in_Tp w h)) hown hK.1 hP 0 rfl rfl 1 (by decide) (hts _ (List.mem_cons_of_mem _ mw_39)) (fun _ h9 => h9) htp_length d_Tp_put_1 ?_
  refine lv_iconst (v := 2) hx hb d_Tp_put_4 (by decide) ?_
  refine lv_ishr hx hb d_Tp_put_5 ?_
  refine lv_topi (fun x0 e0 => ?_)
  obtain rfl : x0 = 3 := e0.trans (by decide)
  refine lv_istore_n hx hb d_Tp_put_6 rfl hl (by decide) rfl (fun ls hl => ?_)
  have hl : lv_has ls 3 [(2, .int 3), (0, .ref oTp), (1, .int nu)] := hl
  refine lv_iload_n hx hb d_Tp_put_7 rfl (lv_at hl 0 rfl) ?_
  refine lv_aload_n hx hb d_Tp_put_8 rfl (lv_at hl 1 rfl) ?_
  refine va_get (D := (dC, dI)) (ci := 1) (v := .ref xt_cells) (C := R_Tp) (T := F_Tp) (N := 3) hx hb hts (fun w h => List.mem_cons_of_mem _ (in_Tp w h)) hown hK.1 hP 0 rfl rfl 0 (by decide) (hts _ (List.mem_cons_of_mem _ mw_38)) (fun _ h9 => h9) htp_cells d_Tp_put_9 ?_
  refine va_alen hx hb hK.1 hP 1 0 rfl rfl (v := 1005) rfl d_Tp_put_12 ?_
  refine lv_icmp_ge (tgt := 33) hx hb d_Tp_put_13 (by decide) (fun h => absurd h (by decide)) (fun _ => ?_)
  refine lv_aload_n hx hb d_Tp_put_16 rfl (lv_at hl 1 rfl) ?_
  refine va_get (D := (dC, dI)) (ci := 1) (v := .ref xt_cells) (C := R_Tp) (T := F_Tp) (N := 3) hx hb hts (fun w h => List.mem_cons_of_mem _ (in_Tp w h)) hown hK.1 hP 0 rfl rfl 0 (by decide) (hts _ (List.mem_cons_of_mem _ mw_38)) (fun _ h9 => h9) htp_cells d_Tp_put_17 ?_
  refine lv_iload_n hx hb d_Tp_put_20 rfl (lv_at hl 0 rfl) ?_
  refine lv_iload_n hx hb d_Tp_put_21 rfl (lv_at hl 2 rfl) ?_
  refine va_iast hx hb hK.1 hP hD hS 1 0 rfl rfl (vp_in_iff.mpr (by decide)) d_Tp_put_22 (fun H locs hP hD hS => ?_)
  have hP : va_P (dC, dI) classes [(oTp, .inr (1, xt)), (xt_cells, .inl (cI, 1005, .inl ((upd z_xt_cells (3 : Int32).toNatClampNeg nu))))] H := hP
  have hD : va_D A [(oTp, .inr (1, xt)), (xt_cells, .inl (cI, 1005, .inl ((upd z_xt_cells (3 : Int32).toNatClampNeg nu))))] := hD
  generalize (upd z_xt_cells (3 : Int32).toNatClampNeg nu) = f22_1 at hP hD
  refine lv_aload_n hx hb d_Tp_put_23 rfl (lv_at hl 1 rfl) ?_
  refine lv_dup hx hb d_Tp_put_24 rfl ?_
  refine va_get (D := (dC, dI)) (ci := 1) (v := .int 12) (C := R_Tp) (T := F_Tp) (N := 3) hx hb hts (fun w h => List.mem_cons_of_mem _ (in_Tp w h)) hown hK.1 hP 0 rfl rfl 1 (by decide) (hts _ (List.mem_cons_of_mem _ mw_39)) (fun _ h9 => h9) htp_length d_Tp_put_25 ?_
  refine lv_iconst (v := 4) hx hb d_Tp_put_28 (by decide) ?_
  refine lv_iadd hx hb d_Tp_put_29 ?_
  refine lv_topi (fun x0 e0 => ?_)
  obtain rfl : x0 = 16 := e0.trans (by decide)
  refine va_put (D := (dC, dI)) (ci := 1) (v := .int 16) (ty := .int) (C := R_Tp) (T := F_Tp) (N := 3) hx hb hts (fun w h => List.mem_cons_of_mem _ (in_Tp w h)) t_Tp t_Tp_ok n_Tp hown hK.1 hP hD hS 0 rfl rfl 1 (by decide) (hts _ (List.mem_cons_of_mem _ mw_39)) (fun _ h9 => h9) rfl (by decide +kernel) rfl rfl (st_lt htp_length) d_Tp_put_30 (fun H locs hP hD hS => ?_)
  have g30_0 : (xt.set 1 (.int 16))[0]? = some (.ref xt_cells) := (st_ne htp_cells (by decide))
  have g30_1 : (xt.set 1 (.int 16))[1]? = some (.int 16) := (st_eq htp_length)
  have hP : va_P (dC, dI) classes [(oTp, .inr (1, (xt.set 1 (.int 16)))), (xt_cells, .inl (cI, 1005, .inl f22_1))] H := hP
  have hD : va_D A [(oTp, .inr (1, (xt.set 1 (.int 16)))), (xt_cells, .inl (cI, 1005, .inl f22_1))] := hD
  exact W.vret hx hb hr (fun t ht hW => ⟨⟨(), rfl, trivial, ⟨(xt.set 1 (.int 16)), f22_1, g30_0, g30_1, by rw [ht]; exact hP, hD⟩⟩, hS.F ht⟩) hS.2.2 d_Tp_put_33
set_option maxHeartbeats 4000000 in
set_option maxRecDepth 100000 in
theorem c_Tp_put_16 (l : Launch) (dC : Nat → ClassId) (dI : Nat → Nat → Nat) (cI cB cZ cJ : ClassId) (nu : Int32) (oTp : Nat) (xt_cells : Nat) (z_xt_cells : Nat → Int32) (xt : List Value) (htp_cells : xt[0]? = some (.ref xt_cells)) (htp_length : xt[1]? = some (.int 16)) (sz : Nat) : Met l y_Tp_put w_Tp_put ({ frames := 0, cells := 0, slots := 0, locals := 0 }) (va_Pc [.ref oTp, .int nu] (PW dC dI cI cB cZ cJ [(oTp, .inr (1, xt)), (xt_cells, .inl (cI, 1005, .inl z_xt_cells))] sz)) (va_Qv (fun _ : Unit => True) (fun (_ : Unit) (t : State) => ∃ (n_xt : List Value) (n_xt_cells : Nat → Int32), n_xt[0]? = some (.ref xt_cells) ∧ n_xt[1]? = some (.int 20) ∧ va_P (dC, dI) classes [(oTp, .inr (1, n_xt)), (xt_cells, .inl (cI, 1005, .inl n_xt_cells))] t.heap ∧ va_D (va_A [(oTp, .inr (1, xt)), (xt_cells, .inl (cI, 1005, .inl z_xt_cells))] sz) [(oTp, .inr (1, n_xt)), (xt_cells, .inl (cI, 1005, .inl n_xt_cells))]) (va_A [(oTp, .inr (1, xt)), (xt_cells, .inl (cI, 1005, .inl z_xt_cells))] sz)) 0 0 (va_A [(oTp, .inr (1, xt)), (xt_cells, .inl (cI, 1005, .inl z_xt_cells))] sz) := by
  refine Met.ofW (cc := b_Tp_put) (maxL := 3) (ret := none) (by decide) rfl ?_
  intro p e s m args below meth c s₁ B hml hv
  obtain ⟨rfl, hsz, hP, hK, hD⟩ := hv
  have hx := B.exec
  have hb := B.bytes
  have hr := B.returns
  have hts := atoms_spec (ws := w_Tp_put) B.pre
  have hown : s.vm.findClass R_Tp = some m.cls := findClass_of_methodNamed B.named
  have hlocks := B.notSynchronized
  subst hsz
  have hD := hD.self (sz := s.heap.size)
  generalize hAe : va_A [(oTp, .inr (1, xt)), (xt_cells, .inl (cI, 1005, .inl z_xt_cells))] s.heap.size = A at hD ⊢
  have hA : ∀ q : Nat, s.heap.size ≤ q → A q := fun q h => by rw [← hAe]; exact Or.inr h
  have hS : va_S A s.heap s.heap [] := va_S.rf
  have hP : va_P (dC, dI) classes [(oTp, .inr (1, xt)), (xt_cells, .inl (cI, 1005, .inl z_xt_cells))] s.heap := hP
  have hl := lv_entry ([.ref oTp, .int nu]) (n := 3) (Nat.le_of_ble_eq_true rfl)
  rw [lg_entry_eq]
  generalize (lg_sl ([.ref oTp, .int nu]) ++ List.replicate (3 - (lg_sl ([.ref oTp, .int nu])).length) Slot.unset).toArray = ls at hl ⊢
  have hl : lv_has ls 3 [(0, .ref oTp), (1, .int nu)] := hl
  refine lv_aload_n hx hb d_Tp_put_0 rfl (lv_at hl 0 rfl) ?_
  refine va_get (D := (dC, dI)) (ci := 1) (v := .int 16) (C := R_Tp) (T := F_Tp) (N := 3) hx hb hts (fun w h => List.mem_cons_of_mem _ (in_Tp w h)) hown hK.1 hP 0 rfl rfl 1 (by decide) (hts _ (List.mem_cons_of_mem _ mw_39)) (fun _ h9 => h9) htp_length d_Tp_put_1 ?_
  refine lv_iconst (v := 2) hx hb d_Tp_put_4 (by decide) ?_
  refine lv_ishr hx hb d_Tp_put_5 ?_
  refine lv_topi (fun x0 e0 => ?_)
  obtain rfl : x0 = 4 := e0.trans (by decide)
  refine lv_istore_n hx hb d_Tp_put_6 rfl hl (by decide) rfl (fun ls hl => ?_)
  have hl : lv_has ls 3 [(2, .int 4), (0, .ref oTp), (1, .int nu)] := hl
  refine lv_iload_n hx hb d_Tp_put_7 rfl (lv_at hl 0 rfl) ?_
  refine lv_aload_n hx hb d_Tp_put_8 rfl (lv_at hl 1 rfl) ?_
  refine va_get (D := (dC, dI)) (ci := 1) (v := .ref xt_cells) (C := R_Tp) (T := F_Tp) (N := 3) hx hb hts (fun w h => List.mem_cons_of_mem _ (in_Tp w h)) hown hK.1 hP 0 rfl rfl 0 (by decide) (hts _ (List.mem_cons_of_mem _ mw_38)) (fun _ h9 => h9) htp_cells d_Tp_put_9 ?_
  refine va_alen hx hb hK.1 hP 1 0 rfl rfl (v := 1005) rfl d_Tp_put_12 ?_
  refine lv_icmp_ge (tgt := 33) hx hb d_Tp_put_13 (by decide) (fun h => absurd h (by decide)) (fun _ => ?_)
  refine lv_aload_n hx hb d_Tp_put_16 rfl (lv_at hl 1 rfl) ?_
  refine va_get (D := (dC, dI)) (ci := 1) (v := .ref xt_cells) (C := R_Tp) (T := F_Tp) (N := 3) hx hb hts (fun w h => List.mem_cons_of_mem _ (in_Tp w h)) hown hK.1 hP 0 rfl rfl 0 (by decide) (hts _ (List.mem_cons_of_mem _ mw_38)) (fun _ h9 => h9) htp_cells d_Tp_put_17 ?_
  refine lv_iload_n hx hb d_Tp_put_20 rfl (lv_at hl 0 rfl) ?_
  refine lv_iload_n hx hb d_Tp_put_21 rfl (lv_at hl 2 rfl) ?_
  refine va_iast hx hb hK.1 hP hD hS 1 0 rfl rfl (vp_in_iff.mpr (by decide)) d_Tp_put_22 (fun H locs hP hD hS => ?_)
  have hP : va_P (dC, dI) classes [(oTp, .inr (1, xt)), (xt_cells, .inl (cI, 1005, .inl ((upd z_xt_cells (4 : Int32).toNatClampNeg nu))))] H := hP
  have hD : va_D A [(oTp, .inr (1, xt)), (xt_cells, .inl (cI, 1005, .inl ((upd z_xt_cells (4 : Int32).toNatClampNeg nu))))] := hD
  generalize (upd z_xt_cells (4 : Int32).toNatClampNeg nu) = f22_1 at hP hD
  refine lv_aload_n hx hb d_Tp_put_23 rfl (lv_at hl 1 rfl) ?_
  refine lv_dup hx hb d_Tp_put_24 rfl ?_
  refine va_get (D := (dC, dI)) (ci := 1) (v := .int 16) (C := R_Tp) (T := F_Tp) (N := 3) hx hb hts (fun w h => List.mem_cons_of_mem _ (in_Tp w h)) hown hK.1 hP 0 rfl rfl 1 (by decide) (hts _ (List.mem_cons_of_mem _ mw_39)) (fun _ h9 => h9) htp_length d_Tp_put_25 ?_
  refine lv_iconst (v := 4) hx hb d_Tp_put_28 (by decide) ?_
  refine lv_iadd hx hb d_Tp_put_29 ?_
  refine lv_topi (fun x0 e0 => ?_)
  obtain rfl : x0 = 20 := e0.trans (by decide)
  refine va_put (D := (dC, dI)) (ci := 1) (v := .int 20) (ty := .int) (C := R_Tp) (T := F_Tp) (N := 3) hx hb hts (fun w h => List.mem_cons_of_mem _ (in_Tp w h)) t_Tp t_Tp_ok n_Tp hown hK.1 hP hD hS 0 rfl rfl 1 (by decide) (hts _ (List.mem_cons_of_mem _ mw_39)) (fun _ h9 => h9) rfl (by decide +kernel) rfl rfl (st_lt htp_length) d_Tp_put_30 (fun H locs hP hD hS => ?_)
  have g30_0 : (xt.set 1 (.int 20))[0]? = some (.ref xt_cells) := (st_ne htp_cells (by decide))
  have g30_1 : (xt.set 1 (.int 20))[1]? = some (.int 20) := (st_eq htp_length)
  have hP : va_P (dC, dI) classes [(oTp, .inr (1, (xt.set 1 (.int 20)))), (xt_cells, .inl (cI, 1005, .inl f22_1))] H := hP
  have hD : va_D A [(oTp, .inr (1, (xt.set 1 (.int 20)))), (xt_cells, .inl (cI, 1005, .inl f22_1))] := hD
  exact W.vret hx hb hr (fun t ht hW => ⟨⟨(), rfl, trivial, ⟨(xt.set 1 (.int 20)), f22_1, g30_0, g30_1, by rw [ht]; exact hP, hD⟩⟩, hS.F ht⟩) hS.2.2 d_Tp_put_33
theorem d_Bh_feed_0 : decode b_Bh_feed 0 = .ok (.aload_n 0, 1) := by decide +kernel
theorem d_Bh_feed_1 : decode b_Bh_feed 1 = .ok (.getfield 10, 3) := by decide +kernel
theorem d_Bh_feed_4 : decode b_Bh_feed 4 = .ok (.invokevirtual 115, 3) := by decide +kernel
theorem d_Bh_feed_7 : decode b_Bh_feed 7 = .ok (.ifCond .ne 6, 3) := by decide +kernel
theorem d_Bh_feed_13 : decode b_Bh_feed 13 = .ok (.aload_n 0, 1) := by decide +kernel
theorem d_Bh_feed_14 : decode b_Bh_feed 14 = .ok (.getfield 10, 3) := by decide +kernel
theorem d_Bh_feed_17 : decode b_Bh_feed 17 = .ok (.iload_n 1, 1) := by decide +kernel
theorem d_Bh_feed_18 : decode b_Bh_feed 18 = .ok (.invokevirtual 119, 3) := by decide +kernel
theorem d_Bh_feed_21 : decode b_Bh_feed 21 = .ok (.aload_n 0, 1) := by decide +kernel
theorem d_Bh_feed_22 : decode b_Bh_feed 22 = .ok (.getfield 10, 3) := by decide +kernel
theorem d_Bh_feed_25 : decode b_Bh_feed 25 = .ok (.iload_n 2, 1) := by decide +kernel
theorem d_Bh_feed_26 : decode b_Bh_feed 26 = .ok (.invokevirtual 119, 3) := by decide +kernel
theorem d_Bh_feed_29 : decode b_Bh_feed 29 = .ok (.aload_n 0, 1) := by decide +kernel
theorem d_Bh_feed_30 : decode b_Bh_feed 30 = .ok (.getfield 10, 3) := by decide +kernel
theorem d_Bh_feed_33 : decode b_Bh_feed 33 = .ok (.iload_n 3, 1) := by decide +kernel
theorem d_Bh_feed_34 : decode b_Bh_feed 34 = .ok (.invokevirtual 119, 3) := by decide +kernel
theorem d_Bh_feed_37 : decode b_Bh_feed 37 = .ok (.aload_n 0, 1) := by decide +kernel
theorem d_Bh_feed_38 : decode b_Bh_feed 38 = .ok (.getfield 10, 3) := by decide +kernel
theorem d_Bh_feed_41 : decode b_Bh_feed 41 = .ok (.iload 4, 2) := by decide +kernel
theorem d_Bh_feed_43 : decode b_Bh_feed 43 = .ok (.invokevirtual 119, 3) := by decide +kernel
theorem d_Bh_feed_46 : decode b_Bh_feed 46 = .ok (.aload_n 0, 1) := by decide +kernel
theorem d_Bh_feed_47 : decode b_Bh_feed 47 = .ok (.getfield 10, 3) := by decide +kernel
theorem d_Bh_feed_50 : decode b_Bh_feed 50 = .ok (.iload 5, 2) := by decide +kernel
theorem d_Bh_feed_52 : decode b_Bh_feed 52 = .ok (.invokevirtual 119, 3) := by decide +kernel
theorem d_Bh_feed_55 : decode b_Bh_feed 55 = .ok (.aload_n 0, 1) := by decide +kernel
theorem d_Bh_feed_56 : decode b_Bh_feed 56 = .ok (.getfield 10, 3) := by decide +kernel
theorem d_Bh_feed_59 : decode b_Bh_feed 59 = .ok (.getfield 123, 3) := by decide +kernel
theorem d_Bh_feed_62 : decode b_Bh_feed 62 = .ok (.ireturn, 1) := by decide +kernel
set_option maxHeartbeats 4000000 in
set_option maxRecDepth 100000 in
theorem c_Bh_feed (l : Launch) (dC : Nat → ClassId) (dI : Nat → Nat → Nat) (cI cB cZ cJ : ClassId) (a1 : Int32) (b1 : Int32) (c1 : Int32) (d1 : Int32) (e1 : Int32) (oB : Nat) (oTp : Nat) (xt_cells : Nat) (xb : List Value) (hb_tape : xb[0]? = some (.ref oTp)) (xt : List Value) (htp_cells : xt[0]? = some (.ref xt_cells)) (htp_length : xt[1]? = some (.int 0)) (sz : Nat) : Met l y_Bh_feed w_Bh_feed ({ frames := 1, cells := 0, slots := 0, locals := 22 }) (va_Pc [.ref oB, .int a1, .int b1, .int c1, .int d1, .int e1] (PW dC dI cI cB cZ cJ [(oB, .inr (0, xb)), (oTp, .inr (1, xt)), (xt_cells, .inl (cI, 1005, .inl (fun _ => 0)))] sz)) (va_Qi (fun (r : Int32) (_ : Unit) => r = 20) (fun _ _ => True) (va_A [(oB, .inr (0, xb)), (oTp, .inr (1, xt)), (xt_cells, .inl (cI, 1005, .inl (fun _ => 0)))] sz)) 0 0 (va_A [(oB, .inr (0, xb)), (oTp, .inr (1, xt)), (xt_cells, .inl (cI, 1005, .inl (fun _ => 0)))] sz) := by
  refine Met.ofW (cc := b_Bh_feed) (maxL := 6) (ret := (some .int)) (by decide) rfl ?_
  intro p e s m args below meth c s₁ B hml hv
  obtain ⟨rfl, hsz, hP, hK, hD⟩ := hv
  have hx := B.exec
  have hb := B.bytes
  have hr := B.returns
  have hts := atoms_spec (ws := w_Bh_feed) B.pre
  have hown : s.vm.findClass R_Bh = some m.cls := findClass_of_methodNamed B.named
  have hlocks := B.notSynchronized
  subst hsz
  have hD := hD.self (sz := s.heap.size)
  generalize hAe : va_A [(oB, .inr (0, xb)), (oTp, .inr (1, xt)), (xt_cells, .inl (cI, 1005, .inl (fun _ => 0)))] s.heap.size = A at hD ⊢
  have hA : ∀ q : Nat, s.heap.size ≤ q → A q := fun q h => by rw [← hAe]; exact Or.inr h
  have hS : va_S A s.heap s.heap [] := va_S.rf
  have hP : va_P (dC, dI) classes [(oB, .inr (0, xb)), (oTp, .inr (1, xt)), (xt_cells, .inl (cI, 1005, .inl (fun _ => 0)))] s.heap := hP
  have hl := lv_entry ([.ref oB, .int a1, .int b1, .int c1, .int d1, .int e1]) (n := 6) (Nat.le_of_ble_eq_true rfl)
  rw [lg_entry_eq]
  generalize (lg_sl ([.ref oB, .int a1, .int b1, .int c1, .int d1, .int e1]) ++ List.replicate (6 - (lg_sl ([.ref oB, .int a1, .int b1, .int c1, .int d1, .int e1])).length) Slot.unset).toArray = ls at hl ⊢
  have hl : lv_has ls 6 [(0, .ref oB), (1, .int a1), (2, .int b1), (3, .int c1), (4, .int d1), (5, .int e1)] := hl
  refine lv_aload_n hx hb d_Bh_feed_0 rfl (lv_at hl 0 rfl) ?_
  refine va_get (D := (dC, dI)) (ci := 0) (v := .ref oTp) (C := R_Bh) (T := F_Bh) (N := 16) hx hb hts (fun w h => List.mem_cons_of_mem _ (in_Bh w h)) hown hK.1 hP 0 rfl rfl 0 (by decide) (hts _ (List.mem_cons_of_mem _ mw_684)) (fun _ h9 => h9) hb_tape d_Bh_feed_1 ?_
  have hPc := hP.sub (ws' := [(oTp, .inr (1, xt)), (xt_cells, .inl (cI, 1005, .inl (fun _ => 0)))]) [1, 2] rfl
  have hDc := hD.sub (ws' := [(oTp, .inr (1, xt)), (xt_cells, .inl (cI, 1005, .inl (fun _ => 0)))]) [1, 2] (by decide) rfl
  have hFc := pu_free hS hA
  refine va_calli (va_runV (C := R_Tp) (As := []) (rest := []) ⟨hx, hb, hml, hown, hts⟩ (c_Tp_hasRoom l dC dI cI cB cZ cJ oTp xt_cells xt htp_cells htp_length s.heap.size) (cwV 0 hts (tb_V mw_737 mw_738 mw_739 mw_2 mw_740) rfl rfl rfl ⟨rfl, by decide +kernel, by decide +kernel, by decide +kernel⟩ ⟨(Nat.le_of_ble_eq_true rfl), (Nat.le_of_ble_eq_true rfl)⟩) ⟨pw_blind, va_recv (q := (R_Tp, F_Tp, 3)) hK.1 hP (ci := 1) (q0 := 1) rfl rfl, pw_pre hPc hK hDc⟩ rfl rfl hl.1 rfl (lv_room (Nat.le_of_ble_eq_true rfl)) d_Bh_feed_4 ⟨(Nat.le_of_ble_eq_true rfl), (Nat.le_of_ble_eq_true rfl)⟩) hS (fun q _ h => hFc q h) hFc (fun r u t H locs ht hvm hw hB hz1 hk1 hS => ?_)
  have hP := pu_kept hP hk1
  obtain rfl : r = 1 := hw
  refine lv_if_ne (tgt := 13) hx hb d_Bh_feed_7 (by decide) (fun _ => ?_) (fun h => absurd h (by decide))
  refine lv_aload_n hx hb d_Bh_feed_13 rfl (lv_at hl 0 rfl) ?_
  refine va_get (D := (dC, dI)) (ci := 0) (v := .ref oTp) (C := R_Bh) (T := F_Bh) (N := 16) hx hb hts (fun w h => List.mem_cons_of_mem _ (in_Bh w h)) hown hK.1 hP 0 rfl rfl 0 (by decide) (hts _ (List.mem_cons_of_mem _ mw_684)) (fun _ h9 => h9) hb_tape d_Bh_feed_14 ?_
  refine lv_iload_n hx hb d_Bh_feed_17 rfl (lv_at hl 1 rfl) ?_
  have hPc := hP.sub (ws' := [(oTp, .inr (1, xt)), (xt_cells, .inl (cI, 1005, .inl (fun _ => 0)))]) [1, 2] rfl
  have hDc := hD.sub (ws' := [(oTp, .inr (1, xt)), (xt_cells, .inl (cI, 1005, .inl (fun _ => 0)))]) [1, 2] (by decide) rfl
  have hFc := va_free (wc := [(oTp, .inr (1, xt)), (xt_cells, .inl (cI, 1005, .inl (fun _ => 0)))]) hD hS hA [1, 2] rfl
  refine va_callv (va_runV (C := R_Tp) (As := [.int a1]) (rest := []) ⟨hx, hb, hml, hown, hts⟩ (c_Tp_put_0 l dC dI cI cB cZ cJ a1 oTp xt_cells (fun _ => 0) xt htp_cells htp_length H.size) (cwV 1 hts (tb_V mw_741 mw_742 mw_743 mw_2 mw_744) rfl rfl rfl ⟨rfl, by decide +kernel, by decide +kernel, by decide +kernel⟩ ⟨(Nat.le_of_ble_eq_true rfl), (Nat.le_of_ble_eq_true rfl)⟩) ⟨pw_blind, va_recv (q := (R_Tp, F_Tp, 3)) hK.1 hP (ci := 1) (q0 := 1) rfl rfl, pw_pre hPc hK hDc⟩ rfl rfl hl.1 rfl (lv_room (Nat.le_of_ble_eq_true rfl)) d_Bh_feed_18 ⟨(Nat.le_of_ble_eq_true rfl), (Nat.le_of_ble_eq_true rfl)⟩) hS (fun q _ h => hFc q h) hFc (fun u t H locs ht hvm hw hB hz1 hk1 hS => ?_)
  obtain ⟨s18_1_oTp, f18_1_xt_cells, k18_1_oTp_0, k18_1_oTp_1, hP1, hD1⟩ := hB
  rw [ht] at hP1
  obtain ⟨hP, hD⟩ := va_join (wr := [(oB, .inr (0, xb))]) (w1 := [(oTp, .inr (1, s18_1_oTp)), (xt_cells, .inl (cI, 1005, .inl f18_1_xt_cells))]) hP hD [1, 2] [0] rfl rfl (by decide) (by decide) hk1 hFc hP1 hD1
  have hP : va_P (dC, dI) classes [(oB, .inr (0, xb)), (oTp, .inr (1, s18_1_oTp)), (xt_cells, .inl (cI, 1005, .inl f18_1_xt_cells))] H := hP
  have hD : va_D A [(oB, .inr (0, xb)), (oTp, .inr (1, s18_1_oTp)), (xt_cells, .inl (cI, 1005, .inl f18_1_xt_cells))] := hD
  refine lv_aload_n hx hb d_Bh_feed_21 rfl (lv_at hl 0 rfl) ?_
  refine va_get (D := (dC, dI)) (ci := 0) (v := .ref oTp) (C := R_Bh) (T := F_Bh) (N := 16) hx hb hts (fun w h => List.mem_cons_of_mem _ (in_Bh w h)) hown hK.1 hP 0 rfl rfl 0 (by decide) (hts _ (List.mem_cons_of_mem _ mw_684)) (fun _ h9 => h9) hb_tape d_Bh_feed_22 ?_
  refine lv_iload_n hx hb d_Bh_feed_25 rfl (lv_at hl 2 rfl) ?_
  have hPc := hP.sub (ws' := [(oTp, .inr (1, s18_1_oTp)), (xt_cells, .inl (cI, 1005, .inl f18_1_xt_cells))]) [1, 2] rfl
  have hDc := hD.sub (ws' := [(oTp, .inr (1, s18_1_oTp)), (xt_cells, .inl (cI, 1005, .inl f18_1_xt_cells))]) [1, 2] (by decide) rfl
  have hFc := va_free (wc := [(oTp, .inr (1, s18_1_oTp)), (xt_cells, .inl (cI, 1005, .inl f18_1_xt_cells))]) hD hS hA [1, 2] rfl
  refine va_callv (va_runV (C := R_Tp) (As := [.int b1]) (rest := []) ⟨hx, hb, hml, hown, hts⟩ (c_Tp_put_4 l dC dI cI cB cZ cJ b1 oTp xt_cells f18_1_xt_cells s18_1_oTp k18_1_oTp_0 k18_1_oTp_1 H.size) (cwV 1 hts (tb_V mw_741 mw_742 mw_743 mw_2 mw_744) rfl rfl rfl ⟨rfl, by decide +kernel, by decide +kernel, by decide +kernel⟩ ⟨(Nat.le_of_ble_eq_true rfl), (Nat.le_of_ble_eq_true rfl)⟩) ⟨pw_blind, va_recv (q := (R_Tp, F_Tp, 3)) hK.1 hP (ci := 1) (q0 := 1) rfl rfl, pw_pre hPc hK hDc⟩ rfl rfl hl.1 rfl (lv_room (Nat.le_of_ble_eq_true rfl)) d_Bh_feed_26 ⟨(Nat.le_of_ble_eq_true rfl), (Nat.le_of_ble_eq_true rfl)⟩) hS (fun q _ h => hFc q h) hFc (fun u t H locs ht hvm hw hB hz1 hk1 hS => ?_)
  obtain ⟨s26_2_oTp, f26_2_xt_cells, k26_2_oTp_0, k26_2_oTp_1, hP1, hD1⟩ := hB
  rw [ht] at hP1
  obtain ⟨hP, hD⟩ := va_join (wr := [(oB, .inr (0, xb))]) (w1 := [(oTp, .inr (1, s26_2_oTp)), (xt_cells, .inl (cI, 1005, .inl f26_2_xt_cells))]) hP hD [1, 2] [0] rfl rfl (by decide) (by decide) hk1 hFc hP1 hD1
  have hP : va_P (dC, dI) classes [(oB, .inr (0, xb)), (oTp, .inr (1, s26_2_oTp)), (xt_cells, .inl (cI, 1005, .inl f26_2_xt_cells))] H := hP
  have hD : va_D A [(oB, .inr (0, xb)), (oTp, .inr (1, s26_2_oTp)), (xt_cells, .inl (cI, 1005, .inl f26_2_xt_cells))] := hD
  refine lv_aload_n hx hb d_Bh_feed_29 rfl (lv_at hl 0 rfl) ?_
  refine va_get (D := (dC, dI)) (ci := 0) (v := .ref oTp) (C := R_Bh) (T := F_Bh) (N := 16) hx hb hts (fun w h => List.mem_cons_of_mem _ (in_Bh w h)) hown hK.1 hP 0 rfl rfl 0 (by decide) (hts _ (List.mem_cons_of_mem _ mw_684)) (fun _ h9 => h9) hb_tape d_Bh_feed_30 ?_
  refine lv_iload_n hx hb d_Bh_feed_33 rfl (lv_at hl 3 rfl) ?_
  have hPc := hP.sub (ws' := [(oTp, .inr (1, s26_2_oTp)), (xt_cells, .inl (cI, 1005, .inl f26_2_xt_cells))]) [1, 2] rfl
  have hDc := hD.sub (ws' := [(oTp, .inr (1, s26_2_oTp)), (xt_cells, .inl (cI, 1005, .inl f26_2_xt_cells))]) [1, 2] (by decide) rfl
  have hFc := va_free (wc := [(oTp, .inr (1, s26_2_oTp)), (xt_cells, .inl (cI, 1005, .inl f26_2_xt_cells))]) hD hS hA [1, 2] rfl
  refine va_callv (va_runV (C := R_Tp) (As := [.int c1]) (rest := []) ⟨hx, hb, hml, hown, hts⟩ (c_Tp_put_8 l dC dI cI cB cZ cJ c1 oTp xt_cells f26_2_xt_cells s26_2_oTp k26_2_oTp_0 k26_2_oTp_1 H.size) (cwV 1 hts (tb_V mw_741 mw_742 mw_743 mw_2 mw_744) rfl rfl rfl ⟨rfl, by decide +kernel, by decide +kernel, by decide +kernel⟩ ⟨(Nat.le_of_ble_eq_true rfl), (Nat.le_of_ble_eq_true rfl)⟩) ⟨pw_blind, va_recv (q := (R_Tp, F_Tp, 3)) hK.1 hP (ci := 1) (q0 := 1) rfl rfl, pw_pre hPc hK hDc⟩ rfl rfl hl.1 rfl (lv_room (Nat.le_of_ble_eq_true rfl)) d_Bh_feed_34 ⟨(Nat.le_of_ble_eq_true rfl), (Nat.le_of_ble_eq_true rfl)⟩) hS (fun q _ h => hFc q h) hFc (fun u t H locs ht hvm hw hB hz1 hk1 hS => ?_)
  obtain ⟨s34_3_oTp, f34_3_xt_cells, k34_3_oTp_0, k34_3_oTp_1, hP1, hD1⟩ := hB
  rw [ht] at hP1
  obtain ⟨hP, hD⟩ := va_join (wr := [(oB, .inr (0, xb))]) (w1 := [(oTp, .inr (1, s34_3_oTp)), (xt_cells, .inl (cI, 1005, .inl f34_3_xt_cells))]) hP hD [1, 2] [0] rfl rfl (by decide) (by decide) hk1 hFc hP1 hD1
  have hP : va_P (dC, dI) classes [(oB, .inr (0, xb)), (oTp, .inr (1, s34_3_oTp)), (xt_cells, .inl (cI, 1005, .inl f34_3_xt_cells))] H := hP
  have hD : va_D A [(oB, .inr (0, xb)), (oTp, .inr (1, s34_3_oTp)), (xt_cells, .inl (cI, 1005, .inl f34_3_xt_cells))] := hD
  refine lv_aload_n hx hb d_Bh_feed_37 rfl (lv_at hl 0 rfl) ?_
  refine va_get (D := (dC, dI)) (ci := 0) (v := .ref oTp) (C := R_Bh) (T := F_Bh) (N := 16) hx hb hts (fun w h => List.mem_cons_of_mem _ (in_Bh w h)) hown hK.1 hP 0 rfl rfl 0 (by decide) (hts _ (List.mem_cons_of_mem _ mw_684)) (fun _ h9 => h9) hb_tape d_Bh_feed_38 ?_
  refine lv_iload hx hb d_Bh_feed_41 (lv_at hl 4 rfl) ?_
  have hPc := hP.sub (ws' := [(oTp, .inr (1, s34_3_oTp)), (xt_cells, .inl (cI, 1005, .inl f34_3_xt_cells))]) [1, 2] rfl
  have hDc := hD.sub (ws' := [(oTp, .inr (1, s34_3_oTp)), (xt_cells, .inl (cI, 1005, .inl f34_3_xt_cells))]) [1, 2] (by decide) rfl
  have hFc := va_free (wc := [(oTp, .inr (1, s34_3_oTp)), (xt_cells, .inl (cI, 1005, .inl f34_3_xt_cells))]) hD hS hA [1, 2] rfl
  refine va_callv (va_runV (C := R_Tp) (As := [.int d1]) (rest := []) ⟨hx, hb, hml, hown, hts⟩ (c_Tp_put_12 l dC dI cI cB cZ cJ d1 oTp xt_cells f34_3_xt_cells s34_3_oTp k34_3_oTp_0 k34_3_oTp_1 H.size) (cwV 1 hts (tb_V mw_741 mw_742 mw_743 mw_2 mw_744) rfl rfl rfl ⟨rfl, by decide +kernel, by decide +kernel, by decide +kernel⟩ ⟨(Nat.le_of_ble_eq_true rfl), (Nat.le_of_ble_eq_true rfl)⟩) ⟨pw_blind, va_recv (q := (R_Tp, F_Tp, 3)) hK.1 hP (ci := 1) (q0 := 1) rfl rfl, pw_pre hPc hK hDc⟩ rfl rfl hl.1 rfl (lv_room (Nat.le_of_ble_eq_true rfl)) d_Bh_feed_43 ⟨(Nat.le_of_ble_eq_true rfl), (Nat.le_of_ble_eq_true rfl)⟩) hS (fun q _ h => hFc q h) hFc (fun u t H locs ht hvm hw hB hz1 hk1 hS => ?_)
  obtain ⟨s43_4_oTp, f43_4_xt_cells, k43_4_oTp_0, k43_4_oTp_1, hP1, hD1⟩ := hB
  rw [ht] at hP1
  obtain ⟨hP, hD⟩ := va_join (wr := [(oB, .inr (0, xb))]) (w1 := [(oTp, .inr (1, s43_4_oTp)), (xt_cells, .inl (cI, 1005, .inl f43_4_xt_cells))]) hP hD [1, 2] [0] rfl rfl (by decide) (by decide) hk1 hFc hP1 hD1
  have hP : va_P (dC, dI) classes [(oB, .inr (0, xb)), (oTp, .inr (1, s43_4_oTp)), (xt_cells, .inl (cI, 1005, .inl f43_4_xt_cells))] H := hP
  have hD : va_D A [(oB, .inr (0, xb)), (oTp, .inr (1, s43_4_oTp)), (xt_cells, .inl (cI, 1005, .inl f43_4_xt_cells))] := hD
  refine lv_aload_n hx hb d_Bh_feed_46 rfl (lv_at hl 0 rfl) ?_
  refine va_get (D := (dC, dI)) (ci := 0) (v := .ref oTp) (C := R_Bh) (T := F_Bh) (N := 16) hx hb hts (fun w h => List.mem_cons_of_mem _ (in_Bh w h)) hown hK.1 hP 0 rfl rfl 0 (by decide) (hts _ (List.mem_cons_of_mem _ mw_684)) (fun _ h9 => h9) hb_tape d_Bh_feed_47 ?_
  refine lv_iload hx hb d_Bh_feed_50 (lv_at hl 5 rfl) ?_
  have hPc := hP.sub (ws' := [(oTp, .inr (1, s43_4_oTp)), (xt_cells, .inl (cI, 1005, .inl f43_4_xt_cells))]) [1, 2] rfl
  have hDc := hD.sub (ws' := [(oTp, .inr (1, s43_4_oTp)), (xt_cells, .inl (cI, 1005, .inl f43_4_xt_cells))]) [1, 2] (by decide) rfl
  have hFc := va_free (wc := [(oTp, .inr (1, s43_4_oTp)), (xt_cells, .inl (cI, 1005, .inl f43_4_xt_cells))]) hD hS hA [1, 2] rfl
  refine va_callv (va_runV (C := R_Tp) (As := [.int e1]) (rest := []) ⟨hx, hb, hml, hown, hts⟩ (c_Tp_put_16 l dC dI cI cB cZ cJ e1 oTp xt_cells f43_4_xt_cells s43_4_oTp k43_4_oTp_0 k43_4_oTp_1 H.size) (cwV 1 hts (tb_V mw_741 mw_742 mw_743 mw_2 mw_744) rfl rfl rfl ⟨rfl, by decide +kernel, by decide +kernel, by decide +kernel⟩ ⟨(Nat.le_of_ble_eq_true rfl), (Nat.le_of_ble_eq_true rfl)⟩) ⟨pw_blind, va_recv (q := (R_Tp, F_Tp, 3)) hK.1 hP (ci := 1) (q0 := 1) rfl rfl, pw_pre hPc hK hDc⟩ rfl rfl hl.1 rfl (lv_room (Nat.le_of_ble_eq_true rfl)) d_Bh_feed_52 ⟨(Nat.le_of_ble_eq_true rfl), (Nat.le_of_ble_eq_true rfl)⟩) hS (fun q _ h => hFc q h) hFc (fun u t H locs ht hvm hw hB hz1 hk1 hS => ?_)
  obtain ⟨s52_5_oTp, f52_5_xt_cells, k52_5_oTp_0, k52_5_oTp_1, hP1, hD1⟩ := hB
  rw [ht] at hP1
  obtain ⟨hP, hD⟩ := va_join (wr := [(oB, .inr (0, xb))]) (w1 := [(oTp, .inr (1, s52_5_oTp)), (xt_cells, .inl (cI, 1005, .inl f52_5_xt_cells))]) hP hD [1, 2] [0] rfl rfl (by decide) (by decide) hk1 hFc hP1 hD1
  have hP : va_P (dC, dI) classes [(oB, .inr (0, xb)), (oTp, .inr (1, s52_5_oTp)), (xt_cells, .inl (cI, 1005, .inl f52_5_xt_cells))] H := hP
  have hD : va_D A [(oB, .inr (0, xb)), (oTp, .inr (1, s52_5_oTp)), (xt_cells, .inl (cI, 1005, .inl f52_5_xt_cells))] := hD
  refine lv_aload_n hx hb d_Bh_feed_55 rfl (lv_at hl 0 rfl) ?_
  refine va_get (D := (dC, dI)) (ci := 0) (v := .ref oTp) (C := R_Bh) (T := F_Bh) (N := 16) hx hb hts (fun w h => List.mem_cons_of_mem _ (in_Bh w h)) hown hK.1 hP 0 rfl rfl 0 (by decide) (hts _ (List.mem_cons_of_mem _ mw_684)) (fun _ h9 => h9) hb_tape d_Bh_feed_56 ?_
  refine va_get (D := (dC, dI)) (ci := 1) (v := .int 20) (C := R_Tp) (T := F_Tp) (N := 3) hx hb hts (fun w h => List.mem_cons_of_mem _ (in_Tp w h)) hown hK.1 hP 1 rfl rfl 1 (by decide) (hts _ (List.mem_cons_of_mem _ mw_40)) (fun _ h9 => h9) k52_5_oTp_1 d_Bh_feed_59 ?_
  exact W.iret (v := 20) hx hb hr (fun t ht hW => ⟨⟨_, (), rfl, (rfl), trivial⟩, hS.F ht⟩) hS.2.2 d_Bh_feed_62
theorem d_Ro_countSecond_0 : decode b_Ro_countSecond 0 = .ok (.iconst 0, 1) := by decide +kernel
theorem d_Ro_countSecond_1 : decode b_Ro_countSecond 1 = .ok (.istore_n 1, 1) := by decide +kernel
theorem d_Ro_countSecond_2 : decode b_Ro_countSecond 2 = .ok (.iload_n 1, 1) := by decide +kernel
theorem d_Ro_countSecond_3 : decode b_Ro_countSecond 3 = .ok (.aload_n 0, 1) := by decide +kernel
theorem d_Ro_countSecond_4 : decode b_Ro_countSecond 4 = .ok (.getfield 37, 3) := by decide +kernel
theorem d_Ro_countSecond_7 : decode b_Ro_countSecond 7 = .ok (.if_icmp .ge 96, 3) := by decide +kernel
theorem d_Ro_countSecond_103 : decode b_Ro_countSecond 103 = .ok (.return_, 1) := by decide +kernel
set_option maxHeartbeats 4000000 in
set_option maxRecDepth 100000 in
theorem c_Ro_countSecond (l : Launch) (dC : Nat → ClassId) (dI : Nat → Nat → Nat) (cI cB cZ cJ : ClassId) (oR1 : Nat) (xr : List Value) (hxr_count : xr[0]? = some (.int 0)) (sz : Nat) : Met l y_Ro_countSecond w_Ro_countSecond ({ frames := 0, cells := 0, slots := 0, locals := 0 }) (va_Pc [.ref oR1] (PW dC dI cI cB cZ cJ [(oR1, .inr (7, xr))] sz)) (va_Qv (fun _ : Unit => True) (fun _ _ => True) (va_A [] sz)) 0 0 (va_A [] sz) := by
  refine Met.ofW (cc := b_Ro_countSecond) (maxL := 3) (ret := none) (by decide) rfl ?_
  intro p e s m args below meth c s₁ B hml hv
  obtain ⟨rfl, hsz, hP, hK, hD⟩ := hv
  have hx := B.exec
  have hb := B.bytes
  have hr := B.returns
  have hts := atoms_spec (ws := w_Ro_countSecond) B.pre
  have hown : s.vm.findClass R_Ro = some m.cls := findClass_of_methodNamed B.named
  have hlocks := B.notSynchronized
  subst hsz
  generalize hAe : va_A [] s.heap.size = A at ⊢
  have hA : ∀ q : Nat, s.heap.size ≤ q → A q := fun q h => by rw [← hAe]; exact Or.inr h
  have hS : va_S A s.heap s.heap [] := va_S.rf
  have hP : va_P (dC, dI) classes [(oR1, .inr (7, xr))] s.heap := hP
  have hl := lv_entry ([.ref oR1]) (n := 3) (Nat.le_of_ble_eq_true rfl)
  rw [lg_entry_eq]
  generalize (lg_sl ([.ref oR1]) ++ List.replicate (3 - (lg_sl ([.ref oR1])).length) Slot.unset).toArray = ls at hl ⊢
  have hl : lv_has ls 3 [(0, .ref oR1)] := hl
  refine lv_iconst (v := 0) hx hb d_Ro_countSecond_0 (by decide) ?_
  refine lv_istore_n hx hb d_Ro_countSecond_1 rfl hl (by decide) rfl (fun ls hl => ?_)
  have hl : lv_has ls 3 [(1, .int 0), (0, .ref oR1)] := hl
  refine lv_iload_n hx hb d_Ro_countSecond_2 rfl (lv_at hl 0 rfl) ?_
  refine lv_aload_n hx hb d_Ro_countSecond_3 rfl (lv_at hl 1 rfl) ?_
  refine va_get (D := (dC, dI)) (ci := 7) (v := .int 0) (C := R_Ro) (T := F_Ro) (N := 18) hx hb hts (fun w h => List.mem_cons_of_mem _ (in_Ro w h)) hown hK.1 hP 0 rfl rfl 0 (by decide) (hts _ (List.mem_cons_of_mem _ mw_329)) (fun _ h9 => h9) hxr_count d_Ro_countSecond_4 ?_
  refine lv_icmp_ge (tgt := 103) hx hb d_Ro_countSecond_7 (by decide) (fun _ => ?_) (fun h => absurd (by decide) h)
  exact W.vret hx hb hr (fun t ht hW => ⟨⟨(), rfl, trivial, trivial⟩, hS.F ht⟩) hS.2.2 d_Ro_countSecond_103
theorem d_Wa_move_0 : decode b_Wa_move 0 = .ok (.iconst 0, 1) := by decide +kernel
theorem d_Wa_move_1 : decode b_Wa_move 1 = .ok (.istore_n 1, 1) := by decide +kernel
theorem d_Wa_move_2 : decode b_Wa_move 2 = .ok (.iload_n 1, 1) := by decide +kernel
theorem d_Wa_move_3 : decode b_Wa_move 3 = .ok (.aload_n 0, 1) := by decide +kernel
theorem d_Wa_move_4 : decode b_Wa_move 4 = .ok (.getfield 65, 3) := by decide +kernel
theorem d_Wa_move_7 : decode b_Wa_move 7 = .ok (.if_icmp .ge 35, 3) := by decide +kernel
theorem d_Wa_move_42 : decode b_Wa_move 42 = .ok (.return_, 1) := by decide +kernel
set_option maxHeartbeats 4000000 in
set_option maxRecDepth 100000 in
theorem c_Wa_move (l : Launch) (dC : Nat → ClassId) (dI : Nat → Nat → Nat) (cI cB cZ cJ : ClassId) (oWa : Nat) (xw : List Value) (hwa_count : xw[1]? = some (.int 0)) (sz : Nat) : Met l y_Wa_move w_Wa_move ({ frames := 0, cells := 0, slots := 0, locals := 0 }) (va_Pc [.ref oWa] (PW dC dI cI cB cZ cJ [(oWa, .inr (5, xw))] sz)) (va_Qv (fun _ : Unit => True) (fun _ _ => True) (va_A [] sz)) 0 0 (va_A [] sz) := by
  refine Met.ofW (cc := b_Wa_move) (maxL := 3) (ret := none) (by decide) rfl ?_
  intro p e s m args below meth c s₁ B hml hv
  obtain ⟨rfl, hsz, hP, hK, hD⟩ := hv
  have hx := B.exec
  have hb := B.bytes
  have hr := B.returns
  have hts := atoms_spec (ws := w_Wa_move) B.pre
  have hown : s.vm.findClass R_Wa = some m.cls := findClass_of_methodNamed B.named
  have hlocks := B.notSynchronized
  subst hsz
  generalize hAe : va_A [] s.heap.size = A at ⊢
  have hA : ∀ q : Nat, s.heap.size ≤ q → A q := fun q h => by rw [← hAe]; exact Or.inr h
  have hS : va_S A s.heap s.heap [] := va_S.rf
  have hP : va_P (dC, dI) classes [(oWa, .inr (5, xw))] s.heap := hP
  have hl := lv_entry ([.ref oWa]) (n := 3) (Nat.le_of_ble_eq_true rfl)
  rw [lg_entry_eq]
  generalize (lg_sl ([.ref oWa]) ++ List.replicate (3 - (lg_sl ([.ref oWa])).length) Slot.unset).toArray = ls at hl ⊢
  have hl : lv_has ls 3 [(0, .ref oWa)] := hl
  refine lv_iconst (v := 0) hx hb d_Wa_move_0 (by decide) ?_
  refine lv_istore_n hx hb d_Wa_move_1 rfl hl (by decide) rfl (fun ls hl => ?_)
  have hl : lv_has ls 3 [(1, .int 0), (0, .ref oWa)] := hl
  refine lv_iload_n hx hb d_Wa_move_2 rfl (lv_at hl 0 rfl) ?_
  refine lv_aload_n hx hb d_Wa_move_3 rfl (lv_at hl 1 rfl) ?_
  refine va_get (D := (dC, dI)) (ci := 5) (v := .int 0) (C := R_Wa) (T := F_Wa) (N := 18) hx hb hts (fun w h => List.mem_cons_of_mem _ (in_Wa w h)) hown hK.1 hP 0 rfl rfl 1 (by decide) (hts _ (List.mem_cons_of_mem _ mw_218)) (fun _ h9 => h9) hwa_count d_Wa_move_4 ?_
  refine lv_icmp_ge (tgt := 42) hx hb d_Wa_move_7 (by decide) (fun _ => ?_) (fun h => absurd (by decide) h)
  exact W.vret hx hb hr (fun t ht hW => ⟨⟨(), rfl, trivial, trivial⟩, hS.F ht⟩) hS.2.2 d_Wa_move_42
theorem d_Wa_closeAll_0 : decode b_Wa_closeAll 0 = .ok (.aload_n 0, 1) := by decide +kernel
theorem d_Wa_closeAll_1 : decode b_Wa_closeAll 1 = .ok (.getfield 65, 3) := by decide +kernel
theorem d_Wa_closeAll_4 : decode b_Wa_closeAll 4 = .ok (.iconst 1, 1) := by decide +kernel
theorem d_Wa_closeAll_5 : decode b_Wa_closeAll 5 = .ok (.isub, 1) := by decide +kernel
theorem d_Wa_closeAll_6 : decode b_Wa_closeAll 6 = .ok (.istore_n 1, 1) := by decide +kernel
theorem d_Wa_closeAll_7 : decode b_Wa_closeAll 7 = .ok (.iload_n 1, 1) := by decide +kernel
theorem d_Wa_closeAll_8 : decode b_Wa_closeAll 8 = .ok (.ifCond .lt 15, 3) := by decide +kernel
theorem d_Wa_closeAll_23 : decode b_Wa_closeAll 23 = .ok (.return_, 1) := by decide +kernel
set_option maxHeartbeats 4000000 in
set_option maxRecDepth 100000 in
theorem c_Wa_closeAll (l : Launch) (dC : Nat → ClassId) (dI : Nat → Nat → Nat) (cI cB cZ cJ : ClassId) (oWa : Nat) (xw : List Value) (hwa_count : xw[1]? = some (.int 0)) (sz : Nat) : Met l y_Wa_closeAll w_Wa_closeAll ({ frames := 0, cells := 0, slots := 0, locals := 0 }) (va_Pc [.ref oWa] (PW dC dI cI cB cZ cJ [(oWa, .inr (5, xw))] sz)) (va_Qv (fun _ : Unit => True) (fun _ _ => True) (va_A [] sz)) 0 0 (va_A [] sz) := by
  refine Met.ofW (cc := b_Wa_closeAll) (maxL := 2) (ret := none) (by decide) rfl ?_
  intro p e s m args below meth c s₁ B hml hv
  obtain ⟨rfl, hsz, hP, hK, hD⟩ := hv
  have hx := B.exec
  have hb := B.bytes
  have hr := B.returns
  have hts := atoms_spec (ws := w_Wa_closeAll) B.pre
  have hown : s.vm.findClass R_Wa = some m.cls := findClass_of_methodNamed B.named
  have hlocks := B.notSynchronized
  subst hsz
  generalize hAe : va_A [] s.heap.size = A at ⊢
  have hA : ∀ q : Nat, s.heap.size ≤ q → A q := fun q h => by rw [← hAe]; exact Or.inr h
  have hS : va_S A s.heap s.heap [] := va_S.rf
  have hP : va_P (dC, dI) classes [(oWa, .inr (5, xw))] s.heap := hP
  have hl := lv_entry ([.ref oWa]) (n := 2) (Nat.le_of_ble_eq_true rfl)
  rw [lg_entry_eq]
  generalize (lg_sl ([.ref oWa]) ++ List.replicate (2 - (lg_sl ([.ref oWa])).length) Slot.unset).toArray = ls at hl ⊢
  have hl : lv_has ls 2 [(0, .ref oWa)] := hl
  refine lv_aload_n hx hb d_Wa_closeAll_0 rfl (lv_at hl 0 rfl) ?_
  refine va_get (D := (dC, dI)) (ci := 5) (v := .int 0) (C := R_Wa) (T := F_Wa) (N := 18) hx hb hts (fun w h => List.mem_cons_of_mem _ (in_Wa w h)) hown hK.1 hP 0 rfl rfl 1 (by decide) (hts _ (List.mem_cons_of_mem _ mw_218)) (fun _ h9 => h9) hwa_count d_Wa_closeAll_1 ?_
  refine lv_iconst (v := 1) hx hb d_Wa_closeAll_4 (by decide) ?_
  refine lv_isub hx hb d_Wa_closeAll_5 ?_
  refine lv_topi (fun x0 e0 => ?_)
  obtain rfl : x0 = (-1) := e0.trans (by decide)
  refine lv_istore_n hx hb d_Wa_closeAll_6 rfl hl (by decide) rfl (fun ls hl => ?_)
  have hl : lv_has ls 2 [(1, .int (-1)), (0, .ref oWa)] := hl
  refine lv_iload_n hx hb d_Wa_closeAll_7 rfl (lv_at hl 0 rfl) ?_
  refine lv_if_lt (tgt := 23) hx hb d_Wa_closeAll_8 (by decide) (fun _ => ?_) (fun h => absurd (by decide) h)
  exact W.vret hx hb hr (fun t ht hW => ⟨⟨(), rfl, trivial, trivial⟩, hS.F ht⟩) hS.2.2 d_Wa_closeAll_23
theorem d_Bh_senseAll_0 : decode b_Bh_senseAll 0 = .ok (.aload_n 0, 1) := by decide +kernel
theorem d_Bh_senseAll_1 : decode b_Bh_senseAll 1 = .ok (.getfield 62, 3) := by decide +kernel
theorem d_Bh_senseAll_4 : decode b_Bh_senseAll 4 = .ok (.getfield 183, 3) := by decide +kernel
theorem d_Bh_senseAll_7 : decode b_Bh_senseAll 7 = .ok (.astore_n 1, 1) := by decide +kernel
theorem d_Bh_senseAll_8 : decode b_Bh_senseAll 8 = .ok (.iconst 0, 1) := by decide +kernel
theorem d_Bh_senseAll_9 : decode b_Bh_senseAll 9 = .ok (.istore_n 2, 1) := by decide +kernel
theorem d_Bh_senseAll_10 : decode b_Bh_senseAll 10 = .ok (.iload_n 2, 1) := by decide +kernel
theorem d_Bh_senseAll_11 : decode b_Bh_senseAll 11 = .ok (.aload_n 1, 1) := by decide +kernel
theorem d_Bh_senseAll_12 : decode b_Bh_senseAll 12 = .ok (.getfield 292, 3) := by decide +kernel
theorem d_Bh_senseAll_15 : decode b_Bh_senseAll 15 = .ok (.if_icmp .ge 57, 3) := by decide +kernel
theorem d_Bh_senseAll_72 : decode b_Bh_senseAll 72 = .ok (.iconst 0, 1) := by decide +kernel
theorem d_Bh_senseAll_73 : decode b_Bh_senseAll 73 = .ok (.istore_n 2, 1) := by decide +kernel
theorem d_Bh_senseAll_74 : decode b_Bh_senseAll 74 = .ok (.iconst 0, 1) := by decide +kernel
theorem d_Bh_senseAll_75 : decode b_Bh_senseAll 75 = .ok (.istore_n 3, 1) := by decide +kernel
theorem d_Bh_senseAll_76 : decode b_Bh_senseAll 76 = .ok (.iload_n 3, 1) := by decide +kernel
theorem d_Bh_senseAll_77 : decode b_Bh_senseAll 77 = .ok (.bipush 16, 2) := by decide +kernel
theorem d_Bh_senseAll_79 : decode b_Bh_senseAll 79 = .ok (.if_icmp .ge 66, 3) := by decide +kernel
theorem d_Bh_senseAll_82 : decode b_Bh_senseAll 82 = .ok (.aload_n 0, 1) := by decide +kernel
theorem d_Bh_senseAll_83 : decode b_Bh_senseAll 83 = .ok (.getfield 98, 3) := by decide +kernel
theorem d_Bh_senseAll_86 : decode b_Bh_senseAll 86 = .ok (.iload_n 3, 1) := by decide +kernel
theorem d_Bh_senseAll_87 : decode b_Bh_senseAll 87 = .ok (.iaload, 1) := by decide +kernel
theorem d_Bh_senseAll_88 : decode b_Bh_senseAll 88 = .ok (.iconst 5, 1) := by decide +kernel
theorem d_Bh_senseAll_89 : decode b_Bh_senseAll 89 = .ok (.if_icmp .ge 50, 3) := by decide +kernel
theorem d_Bh_senseAll_139 : decode b_Bh_senseAll 139 = .ok (.iinc 3 1, 3) := by decide +kernel
theorem d_Bh_senseAll_142 : decode b_Bh_senseAll 142 = .ok (.goto (-66), 3) := by decide +kernel
theorem d_Bh_senseAll_145 : decode b_Bh_senseAll 145 = .ok (.aload_n 0, 1) := by decide +kernel
theorem d_Bh_senseAll_146 : decode b_Bh_senseAll 146 = .ok (.getfield 53, 3) := by decide +kernel
theorem d_Bh_senseAll_149 : decode b_Bh_senseAll 149 = .ok (.getfield 174, 3) := by decide +kernel
theorem d_Bh_senseAll_152 : decode b_Bh_senseAll 152 = .ok (.iload_n 2, 1) := by decide +kernel
theorem d_Bh_senseAll_153 : decode b_Bh_senseAll 153 = .ok (.putfield 177, 3) := by decide +kernel
theorem d_Bh_senseAll_156 : decode b_Bh_senseAll 156 = .ok (.return_, 1) := by decide +kernel
set_option maxHeartbeats 4000000 in
set_option maxRecDepth 100000 in
theorem c_Bh_senseAll (l : Launch) (dC : Nat → ClassId) (dI : Nat → Nat → Nat) (cI cB cZ cJ : ClassId) (oB : Nat) (oRu : Nat) (oG1 : Nat) (xb_watchWhat : Nat) (oAc : Nat) (oR1 : Nat) (xb : List Value) (hb_acts : xb[5]? = some (.ref oAc)) (hb_run : xb[6]? = some (.ref oRu)) (hb_watchWhat : xb[13]? = some (.ref xb_watchWhat)) (xn : List Value) (hru_program : xn[3]? = some (.ref oG1)) (xg : List Value) (hxg_names : xg[10]? = some (.int 0)) (xc : List Value) (hac_rows : xc[3]? = some (.ref oR1)) (xr : List Value) (hxr_conditions : xr[1]? = some (.int 0)) (sz : Nat) : Met l y_Bh_senseAll w_Bh_senseAll ({ frames := 0, cells := 0, slots := 0, locals := 0 }) (va_Pc [.ref oB] (PW dC dI cI cB cZ cJ [(oB, .inr (0, xb)), (oRu, .inr (10, xn)), (oG1, .inr (8, xg)), (xb_watchWhat, .inl (cI, 16, .inl (fun _ => 5))), (oAc, .inr (11, xc)), (oR1, .inr (7, xr))] sz)) (va_Qv (fun _ : Unit => True) (fun (_ : Unit) (t : State) => xb[5]? = some (.ref oAc) ∧ xb[6]? = some (.ref oRu) ∧ xb[13]? = some (.ref xb_watchWhat) ∧ xn[3]? = some (.ref oG1) ∧ xg[10]? = some (.int 0) ∧ xc[3]? = some (.ref oR1) ∧ xr[1]? = some (.int 0) ∧ va_P (dC, dI) classes [(oB, .inr (0, xb)), (oRu, .inr (10, xn)), (oG1, .inr (8, xg)), (xb_watchWhat, .inl (cI, 16, .inl (fun _ => 5))), (oAc, .inr (11, xc)), (oR1, .inr (7, xr))] t.heap ∧ va_D (va_A [(oB, .inr (0, xb)), (oRu, .inr (10, xn)), (oG1, .inr (8, xg)), (xb_watchWhat, .inl (cI, 16, .inl (fun _ => 5))), (oAc, .inr (11, xc)), (oR1, .inr (7, xr))] sz) [(oB, .inr (0, xb)), (oRu, .inr (10, xn)), (oG1, .inr (8, xg)), (xb_watchWhat, .inl (cI, 16, .inl (fun _ => 5))), (oAc, .inr (11, xc)), (oR1, .inr (7, xr))]) (va_A [(oB, .inr (0, xb)), (oRu, .inr (10, xn)), (oG1, .inr (8, xg)), (xb_watchWhat, .inl (cI, 16, .inl (fun _ => 5))), (oAc, .inr (11, xc)), (oR1, .inr (7, xr))] sz)) 0 0 (va_A [(oB, .inr (0, xb)), (oRu, .inr (10, xn)), (oG1, .inr (8, xg)), (xb_watchWhat, .inl (cI, 16, .inl (fun _ => 5))), (oAc, .inr (11, xc)), (oR1, .inr (7, xr))] sz) := by
  refine Met.ofW (cc := b_Bh_senseAll) (maxL := 6) (ret := none) (by decide) rfl ?_
  intro p e s m args below meth c s₁ B hml hv
  obtain ⟨rfl, hsz, hP, hK, hD⟩ := hv
  have hx := B.exec
  have hb := B.bytes
  have hr := B.returns
  have hts := atoms_spec (ws := w_Bh_senseAll) B.pre
  have hown : s.vm.findClass R_Bh = some m.cls := findClass_of_methodNamed B.named
  have hlocks := B.notSynchronized
  subst hsz
  have hD := hD.self (sz := s.heap.size)
  generalize hAe : va_A [(oB, .inr (0, xb)), (oRu, .inr (10, xn)), (oG1, .inr (8, xg)), (xb_watchWhat, .inl (cI, 16, .inl (fun _ => 5))), (oAc, .inr (11, xc)), (oR1, .inr (7, xr))] s.heap.size = A at hD ⊢
  have hA : ∀ q : Nat, s.heap.size ≤ q → A q := fun q h => by rw [← hAe]; exact Or.inr h
  have hS : va_S A s.heap s.heap [] := va_S.rf
  have hP : va_P (dC, dI) classes [(oB, .inr (0, xb)), (oRu, .inr (10, xn)), (oG1, .inr (8, xg)), (xb_watchWhat, .inl (cI, 16, .inl (fun _ => 5))), (oAc, .inr (11, xc)), (oR1, .inr (7, xr))] s.heap := hP
  have hl := lv_entry ([.ref oB]) (n := 6) (Nat.le_of_ble_eq_true rfl)
  rw [lg_entry_eq]
  generalize (lg_sl ([.ref oB]) ++ List.replicate (6 - (lg_sl ([.ref oB])).length) Slot.unset).toArray = ls at hl ⊢
  have hl : lv_has ls 6 [(0, .ref oB)] := hl
  refine lv_aload_n hx hb d_Bh_senseAll_0 rfl (lv_at hl 0 rfl) ?_
  refine va_get (D := (dC, dI)) (ci := 0) (v := .ref oRu) (C := R_Bh) (T := F_Bh) (N := 16) hx hb hts (fun w h => List.mem_cons_of_mem _ (in_Bh w h)) hown hK.1 hP 0 rfl rfl 6 (by decide) (hts _ (List.mem_cons_of_mem _ mw_690)) (fun _ h9 => h9) hb_run d_Bh_senseAll_1 ?_
  refine va_get (D := (dC, dI)) (ci := 10) (v := .ref oG1) (C := R_Ru) (T := F_Ru) (N := 21) hx hb hts (fun w h => List.mem_cons_of_mem _ (in_Ru w h)) hown hK.1 hP 1 rfl rfl 3 (by decide) (hts _ (List.mem_cons_of_mem _ mw_515)) (fun _ h9 => h9) hru_program d_Bh_senseAll_4 ?_
  refine lv_astore_n hx hb d_Bh_senseAll_7 rfl hl (by decide) rfl (fun ls hl => ?_)
  have hl : lv_has ls 6 [(1, .ref oG1), (0, .ref oB)] := hl
  refine lv_iconst (v := 0) hx hb d_Bh_senseAll_8 (by decide) ?_
  refine lv_istore_n hx hb d_Bh_senseAll_9 rfl hl (by decide) rfl (fun ls hl => ?_)
  have hl : lv_has ls 6 [(2, .int 0), (1, .ref oG1), (0, .ref oB)] := hl
  refine lv_iload_n hx hb d_Bh_senseAll_10 rfl (lv_at hl 0 rfl) ?_
  refine lv_aload_n hx hb d_Bh_senseAll_11 rfl (lv_at hl 1 rfl) ?_
  refine va_get (D := (dC, dI)) (ci := 8) (v := .int 0) (C := R_Pr) (T := F_Pr) (N := 18) hx hb hts (fun w h => List.mem_cons_of_mem _ (in_Pr w h)) hown hK.1 hP 2 rfl rfl 10 (by decide) (hts _ (List.mem_cons_of_mem _ mw_459)) (fun _ h9 => h9) hxg_names d_Bh_senseAll_12 ?_
  refine lv_icmp_ge (tgt := 72) hx hb d_Bh_senseAll_15 (by decide) (fun _ => ?_) (fun h => absurd (by decide) h)
  refine lv_iconst (v := 0) hx hb d_Bh_senseAll_72 (by decide) ?_
  refine lv_istore_n hx hb d_Bh_senseAll_73 rfl hl (by decide) rfl (fun ls hl => ?_)
  have hl : lv_has ls 6 [(2, .int 0), (1, .ref oG1), (0, .ref oB)] := hl
  refine lv_iconst (v := 0) hx hb d_Bh_senseAll_74 (by decide) ?_
  refine lv_istore_n hx hb d_Bh_senseAll_75 rfl hl (by decide) rfl (fun ls hl => ?_)
  have hl : lv_has ls 6 [(3, .int 0), (2, .int 0), (1, .ref oG1), (0, .ref oB)] := hl
  refine lv_iload_n hx hb d_Bh_senseAll_76 rfl (lv_at hl 0 rfl) ?_
  refine lv_bipush (v := 16) hx hb d_Bh_senseAll_77 (by decide) ?_
  refine lv_icmp_ge (tgt := 145) hx hb d_Bh_senseAll_79 (by decide) (fun h => absurd h (by decide)) (fun _ => ?_)
  refine lv_aload_n hx hb d_Bh_senseAll_82 rfl (lv_at hl 3 rfl) ?_
  refine va_get (D := (dC, dI)) (ci := 0) (v := .ref xb_watchWhat) (C := R_Bh) (T := F_Bh) (N := 16) hx hb hts (fun w h => List.mem_cons_of_mem _ (in_Bh w h)) hown hK.1 hP 0 rfl rfl 13 (by decide) (hts _ (List.mem_cons_of_mem _ mw_697)) (fun _ h9 => h9) hb_watchWhat d_Bh_senseAll_83 ?_
  refine lv_iload_n hx hb d_Bh_senseAll_86 rfl (lv_at hl 0 rfl) ?_
  refine va_iald hx hb hK.1 hP 3 0 rfl rfl (vp_in_iff.mpr (by decide)) d_Bh_senseAll_87 ?_
  refine lv_iconst (v := 5) hx hb d_Bh_senseAll_88 (by decide) ?_
  refine lv_icmp_ge (tgt := 139) hx hb d_Bh_senseAll_89 (by decide) (fun _ => ?_) (fun h => absurd (by decide) h)
  refine lv_iinc (k := 0) (v := 1) hx hb d_Bh_senseAll_139 hl rfl (by first | rfl | decide | exact nI_1 i) (by decide) rfl (fun ls hl => ?_)
  have hl : lv_has ls 6 [(3, .int 1), (2, .int 0), (1, .ref oG1), (0, .ref oB)] := hl
  refine lv_goto (tgt := 76) hx hb d_Bh_senseAll_142 (by decide) ?_
  refine lv_iload_n hx hb d_Bh_senseAll_76 rfl (lv_at hl 0 rfl) ?_
  refine lv_bipush (v := 16) hx hb d_Bh_senseAll_77 (by decide) ?_
  refine lv_icmp_ge (tgt := 145) hx hb d_Bh_senseAll_79 (by decide) (fun h => absurd h (by decide)) (fun _ => ?_)
  refine lv_aload_n hx hb d_Bh_senseAll_82 rfl (lv_at hl 3 rfl) ?_
  refine va_get (D := (dC, dI)) (ci := 0) (v := .ref xb_watchWhat) (C := R_Bh) (T := F_Bh) (N := 16) hx hb hts (fun w h => List.mem_cons_of_mem _ (in_Bh w h)) hown hK.1 hP 0 rfl rfl 13 (by decide) (hts _ (List.mem_cons_of_mem _ mw_697)) (fun _ h9 => h9) hb_watchWhat d_Bh_senseAll_83 ?_
  refine lv_iload_n hx hb d_Bh_senseAll_86 rfl (lv_at hl 0 rfl) ?_
  refine va_iald hx hb hK.1 hP 3 0 rfl rfl (vp_in_iff.mpr (by decide)) d_Bh_senseAll_87 ?_
  refine lv_iconst (v := 5) hx hb d_Bh_senseAll_88 (by decide) ?_
  refine lv_icmp_ge (tgt := 139) hx hb d_Bh_senseAll_89 (by decide) (fun _ => ?_) (fun h => absurd (by decide) h)
  refine lv_iinc (k := 0) (v := 2) hx hb d_Bh_senseAll_139 hl rfl (by first | rfl | decide | exact nI_1 i) (by decide) rfl (fun ls hl => ?_)
  have hl : lv_has ls 6 [(3, .int 2), (2, .int 0), (1, .ref oG1), (0, .ref oB)] := hl
  refine lv_goto (tgt := 76) hx hb d_Bh_senseAll_142 (by decide) ?_
  refine lv_iload_n hx hb d_Bh_senseAll_76 rfl (lv_at hl 0 rfl) ?_
  refine lv_bipush (v := 16) hx hb d_Bh_senseAll_77 (by decide) ?_
  refine lv_icmp_ge (tgt := 145) hx hb d_Bh_senseAll_79 (by decide) (fun h => absurd h (by decide)) (fun _ => ?_)
  refine lv_aload_n hx hb d_Bh_senseAll_82 rfl (lv_at hl 3 rfl) ?_
  refine va_get (D := (dC, dI)) (ci := 0) (v := .ref xb_watchWhat) (C := R_Bh) (T := F_Bh) (N := 16) hx hb hts (fun w h => List.mem_cons_of_mem _ (in_Bh w h)) hown hK.1 hP 0 rfl rfl 13 (by decide) (hts _ (List.mem_cons_of_mem _ mw_697)) (fun _ h9 => h9) hb_watchWhat d_Bh_senseAll_83 ?_
  refine lv_iload_n hx hb d_Bh_senseAll_86 rfl (lv_at hl 0 rfl) ?_
  refine va_iald hx hb hK.1 hP 3 0 rfl rfl (vp_in_iff.mpr (by decide)) d_Bh_senseAll_87 ?_
  refine lv_iconst (v := 5) hx hb d_Bh_senseAll_88 (by decide) ?_
  refine lv_icmp_ge (tgt := 139) hx hb d_Bh_senseAll_89 (by decide) (fun _ => ?_) (fun h => absurd (by decide) h)
  refine lv_iinc (k := 0) (v := 3) hx hb d_Bh_senseAll_139 hl rfl (by first | rfl | decide | exact nI_1 i) (by decide) rfl (fun ls hl => ?_)
  have hl : lv_has ls 6 [(3, .int 3), (2, .int 0), (1, .ref oG1), (0, .ref oB)] := hl
  refine lv_goto (tgt := 76) hx hb d_Bh_senseAll_142 (by decide) ?_
  refine lv_iload_n hx hb d_Bh_senseAll_76 rfl (lv_at hl 0 rfl) ?_
  refine lv_bipush (v := 16) hx hb d_Bh_senseAll_77 (by decide) ?_
  refine lv_icmp_ge (tgt := 145) hx hb d_Bh_senseAll_79 (by decide) (fun h => absurd h (by decide)) (fun _ => ?_)
  refine lv_aload_n hx hb d_Bh_senseAll_82 rfl (lv_at hl 3 rfl) ?_
  refine va_get (D := (dC, dI)) (ci := 0) (v := .ref xb_watchWhat) (C := R_Bh) (T := F_Bh) (N := 16) hx hb hts (fun w h => List.mem_cons_of_mem _ (in_Bh w h)) hown hK.1 hP 0 rfl rfl 13 (by decide) (hts _ (List.mem_cons_of_mem _ mw_697)) (fun _ h9 => h9) hb_watchWhat d_Bh_senseAll_83 ?_
  refine lv_iload_n hx hb d_Bh_senseAll_86 rfl (lv_at hl 0 rfl) ?_
  refine va_iald hx hb hK.1 hP 3 0 rfl rfl (vp_in_iff.mpr (by decide)) d_Bh_senseAll_87 ?_
  refine lv_iconst (v := 5) hx hb d_Bh_senseAll_88 (by decide) ?_
  refine lv_icmp_ge (tgt := 139) hx hb d_Bh_senseAll_89 (by decide) (fun _ => ?_) (fun h => absurd (by decide) h)
  refine lv_iinc (k := 0) (v := 4) hx hb d_Bh_senseAll_139 hl rfl (by first | rfl | decide | exact nI_1 i) (by decide) rfl (fun ls hl => ?_)
  have hl : lv_has ls 6 [(3, .int 4), (2, .int 0), (1, .ref oG1), (0, .ref oB)] := hl
  refine lv_goto (tgt := 76) hx hb d_Bh_senseAll_142 (by decide) ?_
  refine lv_iload_n hx hb d_Bh_senseAll_76 rfl (lv_at hl 0 rfl) ?_
  refine lv_bipush (v := 16) hx hb d_Bh_senseAll_77 (by decide) ?_
  refine lv_icmp_ge (tgt := 145) hx hb d_Bh_senseAll_79 (by decide) (fun h => absurd h (by decide)) (fun _ => ?_)
  refine lv_aload_n hx hb d_Bh_senseAll_82 rfl (lv_at hl 3 rfl) ?_
  refine va_get (D := (dC, dI)) (ci := 0) (v := .ref xb_watchWhat) (C := R_Bh) (T := F_Bh) (N := 16) hx hb hts (fun w h => List.mem_cons_of_mem _ (in_Bh w h)) hown hK.1 hP 0 rfl rfl 13 (by decide) (hts _ (List.mem_cons_of_mem _ mw_697)) (fun _ h9 => h9) hb_watchWhat d_Bh_senseAll_83 ?_
  refine lv_iload_n hx hb d_Bh_senseAll_86 rfl (lv_at hl 0 rfl) ?_
  refine va_iald hx hb hK.1 hP 3 0 rfl rfl (vp_in_iff.mpr (by decide)) d_Bh_senseAll_87 ?_
  refine lv_iconst (v := 5) hx hb d_Bh_senseAll_88 (by decide) ?_
  refine lv_icmp_ge (tgt := 139) hx hb d_Bh_senseAll_89 (by decide) (fun _ => ?_) (fun h => absurd (by decide) h)
  refine lv_iinc (k := 0) (v := 5) hx hb d_Bh_senseAll_139 hl rfl (by first | rfl | decide | exact nI_1 i) (by decide) rfl (fun ls hl => ?_)
  have hl : lv_has ls 6 [(3, .int 5), (2, .int 0), (1, .ref oG1), (0, .ref oB)] := hl
  refine lv_goto (tgt := 76) hx hb d_Bh_senseAll_142 (by decide) ?_
  refine lv_iload_n hx hb d_Bh_senseAll_76 rfl (lv_at hl 0 rfl) ?_
  refine lv_bipush (v := 16) hx hb d_Bh_senseAll_77 (by decide) ?_
  refine lv_icmp_ge (tgt := 145) hx hb d_Bh_senseAll_79 (by decide) (fun h => absurd h (by decide)) (fun _ => ?_)
  refine lv_aload_n hx hb d_Bh_senseAll_82 rfl (lv_at hl 3 rfl) ?_
  refine va_get (D := (dC, dI)) (ci := 0) (v := .ref xb_watchWhat) (C := R_Bh) (T := F_Bh) (N := 16) hx hb hts (fun w h => List.mem_cons_of_mem _ (in_Bh w h)) hown hK.1 hP 0 rfl rfl 13 (by decide) (hts _ (List.mem_cons_of_mem _ mw_697)) (fun _ h9 => h9) hb_watchWhat d_Bh_senseAll_83 ?_
  refine lv_iload_n hx hb d_Bh_senseAll_86 rfl (lv_at hl 0 rfl) ?_
  refine va_iald hx hb hK.1 hP 3 0 rfl rfl (vp_in_iff.mpr (by decide)) d_Bh_senseAll_87 ?_
  refine lv_iconst (v := 5) hx hb d_Bh_senseAll_88 (by decide) ?_
  refine lv_icmp_ge (tgt := 139) hx hb d_Bh_senseAll_89 (by decide) (fun _ => ?_) (fun h => absurd (by decide) h)
  refine lv_iinc (k := 0) (v := 6) hx hb d_Bh_senseAll_139 hl rfl (by first | rfl | decide | exact nI_1 i) (by decide) rfl (fun ls hl => ?_)
  have hl : lv_has ls 6 [(3, .int 6), (2, .int 0), (1, .ref oG1), (0, .ref oB)] := hl
  refine lv_goto (tgt := 76) hx hb d_Bh_senseAll_142 (by decide) ?_
  refine lv_iload_n hx hb d_Bh_senseAll_76 rfl (lv_at hl 0 rfl) ?_
  refine lv_bipush (v := 16) hx hb d_Bh_senseAll_77 (by decide) ?_
  refine lv_icmp_ge (tgt := 145) hx hb d_Bh_senseAll_79 (by decide) (fun h => absurd h (by decide)) (fun _ => ?_)
  refine lv_aload_n hx hb d_Bh_senseAll_82 rfl (lv_at hl 3 rfl) ?_
  refine va_get (D := (dC, dI)) (ci := 0) (v := .ref xb_watchWhat) (C := R_Bh) (T := F_Bh) (N := 16) hx hb hts (fun w h => List.mem_cons_of_mem _ (in_Bh w h)) hown hK.1 hP 0 rfl rfl 13 (by decide) (hts _ (List.mem_cons_of_mem _ mw_697)) (fun _ h9 => h9) hb_watchWhat d_Bh_senseAll_83 ?_
  refine lv_iload_n hx hb d_Bh_senseAll_86 rfl (lv_at hl 0 rfl) ?_
  refine va_iald hx hb hK.1 hP 3 0 rfl rfl (vp_in_iff.mpr (by decide)) d_Bh_senseAll_87 ?_
  refine lv_iconst (v := 5) hx hb d_Bh_senseAll_88 (by decide) ?_
  refine lv_icmp_ge (tgt := 139) hx hb d_Bh_senseAll_89 (by decide) (fun _ => ?_) (fun h => absurd (by decide) h)
  refine lv_iinc (k := 0) (v := 7) hx hb d_Bh_senseAll_139 hl rfl (by first | rfl | decide | exact nI_1 i) (by decide) rfl (fun ls hl => ?_)
  have hl : lv_has ls 6 [(3, .int 7), (2, .int 0), (1, .ref oG1), (0, .ref oB)] := hl
  refine lv_goto (tgt := 76) hx hb d_Bh_senseAll_142 (by decide) ?_
  refine lv_iload_n hx hb d_Bh_senseAll_76 rfl (lv_at hl 0 rfl) ?_
  refine lv_bipush (v := 16) hx hb d_Bh_senseAll_77 (by decide) ?_
  refine lv_icmp_ge (tgt := 145) hx hb d_Bh_senseAll_79 (by decide) (fun h => absurd h (by decide)) (fun _ => ?_)
  refine lv_aload_n hx hb d_Bh_senseAll_82 rfl (lv_at hl 3 rfl) ?_
  refine va_get (D := (dC, dI)) (ci := 0) (v := .ref xb_watchWhat) (C := R_Bh) (T := F_Bh) (N := 16) hx hb hts (fun w h => List.mem_cons_of_mem _ (in_Bh w h)) hown hK.1 hP 0 rfl rfl 13 (by decide) (hts _ (List.mem_cons_of_mem _ mw_697)) (fun _ h9 => h9) hb_watchWhat d_Bh_senseAll_83 ?_
  refine lv_iload_n hx hb d_Bh_senseAll_86 rfl (lv_at hl 0 rfl) ?_
  refine va_iald hx hb hK.1 hP 3 0 rfl rfl (vp_in_iff.mpr (by decide)) d_Bh_senseAll_87 ?_
  refine lv_iconst (v := 5) hx hb d_Bh_senseAll_88 (by decide) ?_
  refine lv_icmp_ge (tgt := 139) hx hb d_Bh_senseAll_89 (by decide) (fun _ => ?_) (fun h => absurd (by decide) h)
  refine lv_iinc (k := 0) (v := 8) hx hb d_Bh_senseAll_139 hl rfl (by first | rfl | decide | exact nI_1 i) (by decide) rfl (fun ls hl => ?_)
  have hl : lv_has ls 6 [(3, .int 8), (2, .int 0), (1, .ref oG1), (0, .ref oB)] := hl
  refine lv_goto (tgt := 76) hx hb d_Bh_senseAll_142 (by decide) ?_
  refine lv_iload_n hx hb d_Bh_senseAll_76 rfl (lv_at hl 0 rfl) ?_
  refine lv_bipush (v := 16) hx hb d_Bh_senseAll_77 (by decide) ?_
  refine lv_icmp_ge (tgt := 145) hx hb d_Bh_senseAll_79 (by decide) (fun h => absurd h (by decide)) (fun _ => ?_)
  refine lv_aload_n hx hb d_Bh_senseAll_82 rfl (lv_at hl 3 rfl) ?_
  refine va_get (D := (dC, dI)) (ci := 0) (v := .ref xb_watchWhat) (C := R_Bh) (T := F_Bh) (N := 16) hx hb hts (fun w h => List.mem_cons_of_mem _ (in_Bh w h)) hown hK.1 hP 0 rfl rfl 13 (by decide) (hts _ (List.mem_cons_of_mem _ mw_697)) (fun _ h9 => h9) hb_watchWhat d_Bh_senseAll_83 ?_
  refine lv_iload_n hx hb d_Bh_senseAll_86 rfl (lv_at hl 0 rfl) ?_
  refine va_iald hx hb hK.1 hP 3 0 rfl rfl (vp_in_iff.mpr (by decide)) d_Bh_senseAll_87 ?_
  refine lv_iconst (v := 5) hx hb d_Bh_senseAll_88 (by decide) ?_
  refine lv_icmp_ge (tgt := 139) hx hb d_Bh_senseAll_89 (by decide) (fun _ => ?_) (fun h => absurd (by decide) h)
  refine lv_iinc (k := 0) (v := 9) hx hb d_Bh_senseAll_139 hl rfl (by first | rfl | decide | exact nI_1 i) (by decide) rfl (fun ls hl => ?_)
  have hl : lv_has ls 6 [(3, .int 9), (2, .int 0), (1, .ref oG1), (0, .ref oB)] := hl
  refine lv_goto (tgt := 76) hx hb d_Bh_senseAll_142 (by decide) ?_
  refine lv_iload_n hx hb d_Bh_senseAll_76 rfl (lv_at hl 0 rfl) ?_
  refine lv_bipush (v := 16) hx hb d_Bh_senseAll_77 (by decide) ?_
  refine lv_icmp_ge (tgt := 145) hx hb d_Bh_senseAll_79 (by decide) (fun h => absurd h (by decide)) (fun _ => ?_)
  refine lv_aload_n hx hb d_Bh_senseAll_82 rfl (lv_at hl 3 rfl) ?_
  refine va_get (D := (dC, dI)) (ci := 0) (v := .ref xb_watchWhat) (C := R_Bh) (T := F_Bh) (N := 16) hx hb hts (fun w h => List.mem_cons_of_mem _ (in_Bh w h)) hown hK.1 hP 0 rfl rfl 13 (by decide) (hts _ (List.mem_cons_of_mem _ mw_697)) (fun _ h9 => h9) hb_watchWhat d_Bh_senseAll_83 ?_
  refine lv_iload_n hx hb d_Bh_senseAll_86 rfl (lv_at hl 0 rfl) ?_
  refine va_iald hx hb hK.1 hP 3 0 rfl rfl (vp_in_iff.mpr (by decide)) d_Bh_senseAll_87 ?_
  refine lv_iconst (v := 5) hx hb d_Bh_senseAll_88 (by decide) ?_
  refine lv_icmp_ge (tgt := 139) hx hb d_Bh_senseAll_89 (by decide) (fun _ => ?_) (fun h => absurd (by decide) h)
  refine lv_iinc (k := 0) (v := 10) hx hb d_Bh_senseAll_139 hl rfl (by first | rfl | decide | exact nI_1 i) (by decide) rfl (fun ls hl => ?_)
  have hl : lv_has ls 6 [(3, .int 10), (2, .int 0), (1, .ref oG1), (0, .ref oB)] := hl
  refine lv_goto (tgt := 76) hx hb d_Bh_senseAll_142 (by decide) ?_
  refine lv_iload_n hx hb d_Bh_senseAll_76 rfl (lv_at hl 0 rfl) ?_
  refine lv_bipush (v := 16) hx hb d_Bh_senseAll_77 (by decide) ?_
  refine lv_icmp_ge (tgt := 145) hx hb d_Bh_senseAll_79 (by decide) (fun h => absurd h (by decide)) (fun _ => ?_)
  refine lv_aload_n hx hb d_Bh_senseAll_82 rfl (lv_at hl 3 rfl) ?_
  refine va_get (D := (dC, dI)) (ci := 0) (v := .ref xb_watchWhat) (C := R_Bh) (T := F_Bh) (N := 16) hx hb hts (fun w h => List.mem_cons_of_mem _ (in_Bh w h)) hown hK.1 hP 0 rfl rfl 13 (by decide) (hts _ (List.mem_cons_of_mem _ mw_697)) (fun _ h9 => h9) hb_watchWhat d_Bh_senseAll_83 ?_
  refine lv_iload_n hx hb d_Bh_senseAll_86 rfl (lv_at hl 0 rfl) ?_
  refine va_iald hx hb hK.1 hP 3 0 rfl rfl (vp_in_iff.mpr (by decide)) d_Bh_senseAll_87 ?_
  refine lv_iconst (v := 5) hx hb d_Bh_senseAll_88 (by decide) ?_
  refine lv_icmp_ge (tgt := 139) hx hb d_Bh_senseAll_89 (by decide) (fun _ => ?_) (fun h => absurd (by decide) h)
  refine lv_iinc (k := 0) (v := 11) hx hb d_Bh_senseAll_139 hl rfl (by first | rfl | decide | exact nI_1 i) (by decide) rfl (fun ls hl => ?_)
  have hl : lv_has ls 6 [(3, .int 11), (2, .int 0), (1, .ref oG1), (0, .ref oB)] := hl
  refine lv_goto (tgt := 76) hx hb d_Bh_senseAll_142 (by decide) ?_
  refine lv_iload_n hx hb d_Bh_senseAll_76 rfl (lv_at hl 0 rfl) ?_
  refine lv_bipush (v := 16) hx hb d_Bh_senseAll_77 (by decide) ?_
  refine lv_icmp_ge (tgt := 145) hx hb d_Bh_senseAll_79 (by decide) (fun h => absurd h (by decide)) (fun _ => ?_)
  refine lv_aload_n hx hb d_Bh_senseAll_82 rfl (lv_at hl 3 rfl) ?_
  refine va_get (D := (dC, dI)) (ci := 0) (v := .ref xb_watchWhat) (C := R_Bh) (T := F_Bh) (N := 16) hx hb hts (fun w h => List.mem_cons_of_mem _ (in_Bh w h)) hown hK.1 hP 0 rfl rfl 13 (by decide) (hts _ (List.mem_cons_of_mem _ mw_697)) (fun _ h9 => h9) hb_watchWhat d_Bh_senseAll_83 ?_
  refine lv_iload_n hx hb d_Bh_senseAll_86 rfl (lv_at hl 0 rfl) ?_
  refine va_iald hx hb hK.1 hP 3 0 rfl rfl (vp_in_iff.mpr (by decide)) d_Bh_senseAll_87 ?_
  refine lv_iconst (v := 5) hx hb d_Bh_senseAll_88 (by decide) ?_
  refine lv_icmp_ge (tgt := 139) hx hb d_Bh_senseAll_89 (by decide) (fun _ => ?_) (fun h => absurd (by decide) h)
  refine lv_iinc (k := 0) (v := 12) hx hb d_Bh_senseAll_139 hl rfl (by first | rfl | decide | exact nI_1 i) (by decide) rfl (fun ls hl => ?_)
  have hl : lv_has ls 6 [(3, .int 12), (2, .int 0), (1, .ref oG1), (0, .ref oB)] := hl
  refine lv_goto (tgt := 76) hx hb d_Bh_senseAll_142 (by decide) ?_
  refine lv_iload_n hx hb d_Bh_senseAll_76 rfl (lv_at hl 0 rfl) ?_
  refine lv_bipush (v := 16) hx hb d_Bh_senseAll_77 (by decide) ?_
  refine lv_icmp_ge (tgt := 145) hx hb d_Bh_senseAll_79 (by decide) (fun h => absurd h (by decide)) (fun _ => ?_)
  refine lv_aload_n hx hb d_Bh_senseAll_82 rfl (lv_at hl 3 rfl) ?_
  refine va_get (D := (dC, dI)) (ci := 0) (v := .ref xb_watchWhat) (C := R_Bh) (T := F_Bh) (N := 16) hx hb hts (fun w h => List.mem_cons_of_mem _ (in_Bh w h)) hown hK.1 hP 0 rfl rfl 13 (by decide) (hts _ (List.mem_cons_of_mem _ mw_697)) (fun _ h9 => h9) hb_watchWhat d_Bh_senseAll_83 ?_
  refine lv_iload_n hx hb d_Bh_senseAll_86 rfl (lv_at hl 0 rfl) ?_
  refine va_iald hx hb hK.1 hP 3 0 rfl rfl (vp_in_iff.mpr (by decide)) d_Bh_senseAll_87 ?_
  refine lv_iconst (v := 5) hx hb d_Bh_senseAll_88 (by decide) ?_
  refine lv_icmp_ge (tgt := 139) hx hb d_Bh_senseAll_89 (by decide) (fun _ => ?_) (fun h => absurd (by decide) h)
  refine lv_iinc (k := 0) (v := 13) hx hb d_Bh_senseAll_139 hl rfl (by first | rfl | decide | exact nI_1 i) (by decide) rfl (fun ls hl => ?_)
  have hl : lv_has ls 6 [(3, .int 13), (2, .int 0), (1, .ref oG1), (0, .ref oB)] := hl
  refine lv_goto (tgt := 76) hx hb d_Bh_senseAll_142 (by decide) ?_
  refine lv_iload_n hx hb d_Bh_senseAll_76 rfl (lv_at hl 0 rfl) ?_
  refine lv_bipush (v := 16) hx hb d_Bh_senseAll_77 (by decide) ?_
  refine lv_icmp_ge (tgt := 145) hx hb d_Bh_senseAll_79 (by decide) (fun h => absurd h (by decide)) (fun _ => ?_)
  refine lv_aload_n hx hb d_Bh_senseAll_82 rfl (lv_at hl 3 rfl) ?_
  refine va_get (D := (dC, dI)) (ci := 0) (v := .ref xb_watchWhat) (C := R_Bh) (T := F_Bh) (N := 16) hx hb hts (fun w h => List.mem_cons_of_mem _ (in_Bh w h)) hown hK.1 hP 0 rfl rfl 13 (by decide) (hts _ (List.mem_cons_of_mem _ mw_697)) (fun _ h9 => h9) hb_watchWhat d_Bh_senseAll_83 ?_
  refine lv_iload_n hx hb d_Bh_senseAll_86 rfl (lv_at hl 0 rfl) ?_
  refine va_iald hx hb hK.1 hP 3 0 rfl rfl (vp_in_iff.mpr (by decide)) d_Bh_senseAll_87 ?_
  refine lv_iconst (v := 5) hx hb d_Bh_senseAll_88 (by decide) ?_
  refine lv_icmp_ge (tgt := 139) hx hb d_Bh_senseAll_89 (by decide) (fun _ => ?_) (fun h => absurd (by decide) h)
  refine lv_iinc (k := 0) (v := 14) hx hb d_Bh_senseAll_139 hl rfl (by first | rfl | decide | exact nI_1 i) (by decide) rfl (fun ls hl => ?_)
  have hl : lv_has ls 6 [(3, .int 14), (2, .int 0), (1, .ref oG1), (0, .ref oB)] := hl
  refine lv_goto (tgt := 76) hx hb d_Bh_senseAll_142 (by decide) ?_
  refine lv_iload_n hx hb d_Bh_senseAll_76 rfl (lv_at hl 0 rfl) ?_
  refine lv_bipush (v := 16) hx hb d_Bh_senseAll_77 (by decide) ?_
  refine lv_icmp_ge (tgt := 145) hx hb d_Bh_senseAll_79 (by decide) (fun h => absurd h (by decide)) (fun _ => ?_)
  refine lv_aload_n hx hb d_Bh_senseAll_82 rfl (lv_at hl 3 rfl) ?_
  refine va_get (D := (dC, dI)) (ci := 0) (v := .ref xb_watchWhat) (C := R_Bh) (T := F_Bh) (N := 16) hx hb hts (fun w h => List.mem_cons_of_mem _ (in_Bh w h)) hown hK.1 hP 0 rfl rfl 13 (by decide) (hts _ (List.mem_cons_of_mem _ mw_697)) (fun _ h9 => h9) hb_watchWhat d_Bh_senseAll_83 ?_
  refine lv_iload_n hx hb d_Bh_senseAll_86 rfl (lv_at hl 0 rfl) ?_
  refine va_iald hx hb hK.1 hP 3 0 rfl rfl (vp_in_iff.mpr (by decide)) d_Bh_senseAll_87 ?_
  refine lv_iconst (v := 5) hx hb d_Bh_senseAll_88 (by decide) ?_
  refine lv_icmp_ge (tgt := 139) hx hb d_Bh_senseAll_89 (by decide) (fun _ => ?_) (fun h => absurd (by decide) h)
  refine lv_iinc (k := 0) (v := 15) hx hb d_Bh_senseAll_139 hl rfl (by first | rfl | decide | exact nI_1 i) (by decide) rfl (fun ls hl => ?_)
  have hl : lv_has ls 6 [(3, .int 15), (2, .int 0), (1, .ref oG1), (0, .ref oB)] := hl
  refine lv_goto (tgt := 76) hx hb d_Bh_senseAll_142 (by decide) ?_
  refine lv_iload_n hx hb d_Bh_senseAll_76 rfl (lv_at hl 0 rfl) ?_
  refine lv_bipush (v := 16) hx hb d_Bh_senseAll_77 (by decide) ?_
  refine lv_icmp_ge (tgt := 145) hx hb d_Bh_senseAll_79 (by decide) (fun h => absurd h (by decide)) (fun _ => ?_)
  refine lv_aload_n hx hb d_Bh_senseAll_82 rfl (lv_at hl 3 rfl) ?_
  refine va_get (D := (dC, dI)) (ci := 0) (v := .ref xb_watchWhat) (C := R_Bh) (T := F_Bh) (N := 16) hx hb hts (fun w h => List.mem_cons_of_mem _ (in_Bh w h)) hown hK.1 hP 0 rfl rfl 13 (by decide) (hts _ (List.mem_cons_of_mem _ mw_697)) (fun _ h9 => h9) hb_watchWhat d_Bh_senseAll_83 ?_
  refine lv_iload_n hx hb d_Bh_senseAll_86 rfl (lv_at hl 0 rfl) ?_
  refine va_iald hx hb hK.1 hP 3 0 rfl rfl (vp_in_iff.mpr (by decide)) d_Bh_senseAll_87 ?_
  refine lv_iconst (v := 5) hx hb d_Bh_senseAll_88 (by decide) ?_
  refine lv_icmp_ge (tgt := 139) hx hb d_Bh_senseAll_89 (by decide) (fun _ => ?_) (fun h => absurd (by decide) h)
  refine lv_iinc (k := 0) (v := 16) hx hb d_Bh_senseAll_139 hl rfl (by first | rfl | decide | exact nI_1 i) (by decide) rfl (fun ls hl => ?_)
  have hl : lv_has ls 6 [(3, .int 16), (2, .int 0), (1, .ref oG1), (0, .ref oB)] := hl
  refine lv_goto (tgt := 76) hx hb d_Bh_senseAll_142 (by decide) ?_
  refine lv_iload_n hx hb d_Bh_senseAll_76 rfl (lv_at hl 0 rfl) ?_
  refine lv_bipush (v := 16) hx hb d_Bh_senseAll_77 (by decide) ?_
  refine lv_icmp_ge (tgt := 145) hx hb d_Bh_senseAll_79 (by decide) (fun _ => ?_) (fun h => absurd (by decide) h)
  refine lv_aload_n hx hb d_Bh_senseAll_145 rfl (lv_at hl 3 rfl) ?_
  refine va_get (D := (dC, dI)) (ci := 0) (v := .ref oAc) (C := R_Bh) (T := F_Bh) (N := 16) hx hb hts (fun w h => List.mem_cons_of_mem _ (in_Bh w h)) hown hK.1 hP 0 rfl rfl 5 (by decide) (hts _ (List.mem_cons_of_mem _ mw_689)) (fun _ h9 => h9) hb_acts d_Bh_senseAll_146 ?_
  refine va_get (D := (dC, dI)) (ci := 11) (v := .ref oR1) (C := R_Ac) (T := F_Ac) (N := 8) hx hb hts (fun w h => List.mem_cons_of_mem _ (in_Ac w h)) hown hK.1 hP 4 rfl rfl 3 (by decide) (hts _ (List.mem_cons_of_mem _ mw_394)) (fun _ h9 => h9) hac_rows d_Bh_senseAll_149 ?_
  refine lv_iload_n hx hb d_Bh_senseAll_152 rfl (lv_at hl 1 rfl) ?_
  refine va_put (D := (dC, dI)) (ci := 7) (v := .int 0) (ty := .int) (C := R_Ro) (T := F_Ro) (N := 18) hx hb hts (fun w h => List.mem_cons_of_mem _ (in_Ro w h)) t_Ro t_Ro_ok n_Ro hown hK.1 hP hD hS 5 rfl rfl 1 (by decide) (hts _ (List.mem_cons_of_mem _ mw_332)) (fun _ h9 => h9) rfl (by decide +kernel) rfl rfl (st_lt hxr_conditions) d_Bh_senseAll_153 (fun H locs hP hD hS => ?_)
  have hP : va_P (dC, dI) classes [(oB, .inr (0, xb)), (oRu, .inr (10, xn)), (oG1, .inr (8, xg)), (xb_watchWhat, .inl (cI, 16, .inl (fun _ => 5))), (oAc, .inr (11, xc)), (oR1, .inr (7, (xr.set 1 (.int 0))))] H := hP
  have hD : va_D A [(oB, .inr (0, xb)), (oRu, .inr (10, xn)), (oG1, .inr (8, xg)), (xb_watchWhat, .inl (cI, 16, .inl (fun _ => 5))), (oAc, .inr (11, xc)), (oR1, .inr (7, (xr.set 1 (.int 0))))] := hD
  rw [st_same hxr_conditions] at hP hD
  exact W.vret hx hb hr (fun t ht hW => ⟨⟨(), rfl, trivial, ⟨hb_acts, hb_run, hb_watchWhat, hru_program, hxg_names, hac_rows, hxr_conditions, by rw [ht]; exact hP, hD⟩⟩, hS.F ht⟩) hS.2.2 d_Bh_senseAll_156
theorem d_Bh_tick_0 : decode b_Bh_tick 0 = .ok (.iload_n 1, 1) := by decide +kernel
theorem d_Bh_tick_1 : decode b_Bh_tick 1 = .ok (.ifCond .lt 10, 3) := by decide +kernel
theorem d_Bh_tick_4 : decode b_Bh_tick 4 = .ok (.iload_n 1, 1) := by decide +kernel
theorem d_Bh_tick_5 : decode b_Bh_tick 5 = .ok (.sipush 600, 3) := by decide +kernel
theorem d_Bh_tick_8 : decode b_Bh_tick 8 = .ok (.if_icmp .le 5, 3) := by decide +kernel
theorem d_Bh_tick_11 : decode b_Bh_tick 11 = .ok (.iconst (-1), 1) := by decide +kernel
theorem d_Bh_tick_12 : decode b_Bh_tick 12 = .ok (.ireturn, 1) := by decide +kernel
theorem d_Bh_tick_13 : decode b_Bh_tick 13 = .ok (.iconst 0, 1) := by decide +kernel
theorem d_Bh_tick_14 : decode b_Bh_tick 14 = .ok (.istore_n 2, 1) := by decide +kernel
theorem d_Bh_tick_15 : decode b_Bh_tick 15 = .ok (.iload_n 2, 1) := by decide +kernel
theorem d_Bh_tick_16 : decode b_Bh_tick 16 = .ok (.iload_n 1, 1) := by decide +kernel
theorem d_Bh_tick_17 : decode b_Bh_tick 17 = .ok (.if_icmp .ge 89, 3) := by decide +kernel
theorem d_Bh_tick_20 : decode b_Bh_tick 20 = .ok (.aload_n 0, 1) := by decide +kernel
theorem d_Bh_tick_21 : decode b_Bh_tick 21 = .ok (.invokevirtual 280, 3) := by decide +kernel
theorem d_Bh_tick_24 : decode b_Bh_tick 24 = .ok (.aload_n 0, 1) := by decide +kernel
theorem d_Bh_tick_25 : decode b_Bh_tick 25 = .ok (.getfield 53, 3) := by decide +kernel
theorem d_Bh_tick_28 : decode b_Bh_tick 28 = .ok (.getfield 174, 3) := by decide +kernel
theorem d_Bh_tick_31 : decode b_Bh_tick 31 = .ok (.invokevirtual 283, 3) := by decide +kernel
theorem d_Bh_tick_34 : decode b_Bh_tick 34 = .ok (.aload_n 0, 1) := by decide +kernel
theorem d_Bh_tick_35 : decode b_Bh_tick 35 = .ok (.getfield 62, 3) := by decide +kernel
theorem d_Bh_tick_38 : decode b_Bh_tick 38 = .ok (.getfield 161, 3) := by decide +kernel
theorem d_Bh_tick_41 : decode b_Bh_tick 41 = .ok (.ifCond .ne 39, 3) := by decide +kernel
theorem d_Bh_tick_80 : decode b_Bh_tick 80 = .ok (.aload_n 0, 1) := by decide +kernel
theorem d_Bh_tick_81 : decode b_Bh_tick 81 = .ok (.getfield 35, 3) := by decide +kernel
theorem d_Bh_tick_84 : decode b_Bh_tick 84 = .ok (.invokevirtual 289, 3) := by decide +kernel
theorem d_Bh_tick_87 : decode b_Bh_tick 87 = .ok (.aload_n 0, 1) := by decide +kernel
theorem d_Bh_tick_88 : decode b_Bh_tick 88 = .ok (.getfield 26, 3) := by decide +kernel
theorem d_Bh_tick_91 : decode b_Bh_tick 91 = .ok (.dup, 1) := by decide +kernel
theorem d_Bh_tick_92 : decode b_Bh_tick 92 = .ok (.getfield 261, 3) := by decide +kernel
theorem d_Bh_tick_95 : decode b_Bh_tick 95 = .ok (.iconst 1, 1) := by decide +kernel
theorem d_Bh_tick_96 : decode b_Bh_tick 96 = .ok (.iadd, 1) := by decide +kernel
theorem d_Bh_tick_97 : decode b_Bh_tick 97 = .ok (.putfield 261, 3) := by decide +kernel
theorem d_Bh_tick_100 : decode b_Bh_tick 100 = .ok (.iinc 2 1, 3) := by decide +kernel
theorem d_Bh_tick_103 : decode b_Bh_tick 103 = .ok (.goto (-88), 3) := by decide +kernel
theorem d_Bh_tick_106 : decode b_Bh_tick 106 = .ok (.aload_n 0, 1) := by decide +kernel
theorem d_Bh_tick_107 : decode b_Bh_tick 107 = .ok (.getfield 62, 3) := by decide +kernel
theorem d_Bh_tick_110 : decode b_Bh_tick 110 = .ok (.getfield 161, 3) := by decide +kernel
theorem d_Bh_tick_113 : decode b_Bh_tick 113 = .ok (.ireturn, 1) := by decide +kernel
def fn_Bh_tick (se : Int32) : Int32 := (if se < 0 then (-1) else (if se ≤ 600 then 4 else (-1)))
set_option maxHeartbeats 4000000 in
set_option maxRecDepth 100000 in
theorem c_Bh_tick (l : Launch) (dC : Nat → ClassId) (dI : Nat → Nat → Nat) (cI cB cZ cJ : ClassId) (se : Int32) (oB : Nat) (oSt : Nat) (oRu : Nat) (oG1 : Nat) (xb_watchWhat : Nat) (oAc : Nat) (oR1 : Nat) (oWa : Nat) (xb : List Value) (hb_stock : xb[2]? = some (.ref oSt)) (hb_ways : xb[3]? = some (.ref oWa)) (hb_acts : xb[5]? = some (.ref oAc)) (hb_run : xb[6]? = some (.ref oRu)) (hb_watchWhat : xb[13]? = some (.ref xb_watchWhat)) (xs_ : List Value) (hst_now : xs_[1]? = some (.int 0)) (xn : List Value) (hru_program : xn[3]? = some (.ref oG1)) (hru_state : xn[4]? = some (.int 4)) (xg : List Value) (hxg_names : xg[10]? = some (.int 0)) (xc : List Value) (hac_rows : xc[3]? = some (.ref oR1)) (xr : List Value) (hxr_count : xr[0]? = some (.int 0)) (hxr_conditions : xr[1]? = some (.int 0)) (xw : List Value) (hwa_count : xw[1]? = some (.int 0)) (sz : Nat) : Met l y_Bh_tick w_Bh_tick ({ frames := 1, cells := 0, slots := 0, locals := 25 }) (va_Pc [.ref oB, .int se] (PW dC dI cI cB cZ cJ [(oB, .inr (0, xb)), (oSt, .inr (4, xs_)), (oRu, .inr (10, xn)), (oG1, .inr (8, xg)), (xb_watchWhat, .inl (cI, 16, .inl (fun _ => 5))), (oAc, .inr (11, xc)), (oR1, .inr (7, xr)), (oWa, .inr (5, xw))] sz)) (va_Qi (fun (r : Int32) (_ : Unit) => r = fn_Bh_tick se) (fun _ _ => True) (va_A [(oB, .inr (0, xb)), (oSt, .inr (4, xs_)), (oRu, .inr (10, xn)), (oG1, .inr (8, xg)), (xb_watchWhat, .inl (cI, 16, .inl (fun _ => 5))), (oAc, .inr (11, xc)), (oR1, .inr (7, xr)), (oWa, .inr (5, xw))] sz)) 0 0 (va_A [(oB, .inr (0, xb)), (oSt, .inr (4, xs_)), (oRu, .inr (10, xn)), (oG1, .inr (8, xg)), (xb_watchWhat, .inl (cI, 16, .inl (fun _ => 5))), (oAc, .inr (11, xc)), (oR1, .inr (7, xr)), (oWa, .inr (5, xw))] sz) := by
  refine Met.ofW (cc := b_Bh_tick) (maxL := 3) (ret := (some .int)) (by decide) rfl ?_
  intro p e s m args below meth c s₁ B hml hv
  obtain ⟨rfl, hsz, hP, hK, hD⟩ := hv
  have hx := B.exec
  have hb := B.bytes
  have hr := B.returns
  have hts := atoms_spec (ws := w_Bh_tick) B.pre
  have hown : s.vm.findClass R_Bh = some m.cls := findClass_of_methodNamed B.named
  have hlocks := B.notSynchronized
  subst hsz
  have hD := hD.self (sz := s.heap.size)
  generalize hAe : va_A [(oB, .inr (0, xb)), (oSt, .inr (4, xs_)), (oRu, .inr (10, xn)), (oG1, .inr (8, xg)), (xb_watchWhat, .inl (cI, 16, .inl (fun _ => 5))), (oAc, .inr (11, xc)), (oR1, .inr (7, xr)), (oWa, .inr (5, xw))] s.heap.size = A at hD ⊢
  have hA : ∀ q : Nat, s.heap.size ≤ q → A q := fun q h => by rw [← hAe]; exact Or.inr h
  have hS : va_S A s.heap s.heap [] := va_S.rf
  have hP : va_P (dC, dI) classes [(oB, .inr (0, xb)), (oSt, .inr (4, xs_)), (oRu, .inr (10, xn)), (oG1, .inr (8, xg)), (xb_watchWhat, .inl (cI, 16, .inl (fun _ => 5))), (oAc, .inr (11, xc)), (oR1, .inr (7, xr)), (oWa, .inr (5, xw))] s.heap := hP
  have hl := lv_entry ([.ref oB, .int se]) (n := 3) (Nat.le_of_ble_eq_true rfl)
  rw [lg_entry_eq]
  generalize (lg_sl ([.ref oB, .int se]) ++ List.replicate (3 - (lg_sl ([.ref oB, .int se])).length) Slot.unset).toArray = ls at hl ⊢
  have hl : lv_has ls 3 [(0, .ref oB), (1, .int se)] := hl
  refine lv_iload_n hx hb d_Bh_tick_0 rfl (lv_at hl 1 rfl) ?_
  refine lv_if_lt (tgt := 11) hx hb d_Bh_tick_1 (by decide) (fun h1 => ?_) (fun h1 => ?_)
  · refine lv_iconst (v := (-1)) hx hb d_Bh_tick_11 (by decide) ?_
    exact W.iret (v := (-1)) hx hb hr (fun t ht hW => ⟨⟨_, (), rfl, (by unfold fn_Bh_tick; rw [if_pos h1]), trivial⟩, hS.F ht⟩) hS.2.2 d_Bh_tick_12
  · refine lv_iload_n hx hb d_Bh_tick_4 rfl (lv_at hl 1 rfl) ?_
    refine lv_sipush (v := 600) hx hb d_Bh_tick_5 (by decide) ?_
    refine lv_icmp_le (tgt := 13) hx hb d_Bh_tick_8 (by decide) (fun h8 => ?_) (fun h8 => ?_)
    · refine lv_iconst (v := 0) hx hb d_Bh_tick_13 (by decide) ?_
      refine lv_istore_n hx hb d_Bh_tick_14 rfl hl (by decide) rfl (fun ls hl => ?_)
      have hl : lv_has ls 3 [(2, .int 0), (0, .ref oB), (1, .int se)] := hl
      obtain ⟨n, hn, hse⟩ := nI_of2 (M := 600) (n := 600) (by decide) h1 (Int32.not_lt.mp (Int32.not_lt.mpr h8))
      have hl : lv_has ls 3 [(2, .int 0), (0, .ref oB), (1, .int (nI n))] := hse ▸ hl
      have hl : lv_has ls 3 [(2, .int (nI 0)), (0, .ref oB), (1, .int (nI n))] := lv_sub hl [0, 1, 2] rfl
      refine lp_ind (σ := List Value) (fun i xs H locs ls => (∃ v : Int32, xs[1]? = some (.int v)) ∧ va_P (dC, dI) classes [(oB, .inr (0, xb)), (oSt, .inr (4, xs)), (oRu, .inr (10, xn)), (oG1, .inr (8, xg)), (xb_watchWhat, .inl (cI, 16, .inl (fun _ => 5))), (oAc, .inr (11, xc)), (oR1, .inr (7, xr)), (oWa, .inr (5, xw))] H ∧ va_D A [(oB, .inr (0, xb)), (oSt, .inr (4, xs)), (oRu, .inr (10, xn)), (oG1, .inr (8, xg)), (xb_watchWhat, .inl (cI, 16, .inl (fun _ => 5))), (oAc, .inr (11, xc)), (oR1, .inr (7, xr)), (oWa, .inr (5, xw))] ∧ va_S A s.heap H locs ∧ lv_has ls 3 [(2, .int (nI i)), (0, .ref oB), (1, .int (nI n))]) 15 n ?_ ?_ 0 xs_ _ _ _ (Nat.zero_le _) ⟨⟨_, hst_now⟩, hP, hD, hS, hl⟩
      · intro i xs H locs ls hi hI hk
        obtain ⟨⟨v_1, y_1⟩, hP, hD, hS, hl⟩ := hI
        refine lv_iload_n hx hb d_Bh_tick_15 rfl (lv_at hl 0 rfl) ?_
        refine lv_iload_n hx hb d_Bh_tick_16 rfl (lv_at hl 2 rfl) ?_
        refine lv_icmp_ge (tgt := 106) hx hb d_Bh_tick_17 (by decide) (fun h => absurd h (nI_ge hi (by omega))) (fun _ => ?_)
        refine lv_aload_n hx hb d_Bh_tick_20 rfl (lv_at hl 1 rfl) ?_
        have hPc := hP.sub (ws' := [(oB, .inr (0, xb)), (oRu, .inr (10, xn)), (oG1, .inr (8, xg)), (xb_watchWhat, .inl (cI, 16, .inl (fun _ => 5))), (oAc, .inr (11, xc)), (oR1, .inr (7, xr))]) [0, 2, 3, 4, 5, 6] rfl
        have hDc := hD.sub (ws' := [(oB, .inr (0, xb)), (oRu, .inr (10, xn)), (oG1, .inr (8, xg)), (xb_watchWhat, .inl (cI, 16, .inl (fun _ => 5))), (oAc, .inr (11, xc)), (oR1, .inr (7, xr))]) [0, 2, 3, 4, 5, 6] (by decide) rfl
        have hFc := va_free (wc := [(oB, .inr (0, xb)), (oRu, .inr (10, xn)), (oG1, .inr (8, xg)), (xb_watchWhat, .inl (cI, 16, .inl (fun _ => 5))), (oAc, .inr (11, xc)), (oR1, .inr (7, xr))]) hD hS hA [0, 2, 3, 4, 5, 6] rfl
        refine va_callv (va_runV (C := R_Bh) (As := []) (rest := []) ⟨hx, hb, hml, hown, hts⟩ (c_Bh_senseAll l dC dI cI cB cZ cJ oB oRu oG1 xb_watchWhat oAc oR1 xb hb_acts hb_run hb_watchWhat xn hru_program xg hxg_names xc hac_rows xr hxr_conditions H.size) (cwV 0 hts (tb_V mw_1322 mw_1324 sl_62 mw_1 mw_1325) rfl rfl rfl ⟨rfl, by decide +kernel, by decide +kernel, by decide +kernel⟩ ⟨(Nat.le_of_ble_eq_true rfl), (Nat.le_of_ble_eq_true rfl)⟩) ⟨pw_blind, va_recv (q := (R_Bh, F_Bh, 16)) hK.1 hP (ci := 0) (q0 := 0) rfl rfl, pw_pre hPc hK hDc⟩ rfl rfl hl.1 rfl (lv_room (Nat.le_of_ble_eq_true rfl)) d_Bh_tick_21 ⟨(Nat.le_of_ble_eq_true rfl), (Nat.le_of_ble_eq_true rfl)⟩) hS (fun q _ h => hFc q h) hFc (fun u t H locs ht hvm hw hB hz1 hk1 hS => ?_)
        obtain ⟨k21_3_oB_5, k21_3_oB_6, k21_3_oB_13, k21_3_oRu_3, k21_3_oG1_10, k21_3_oAc_3, k21_3_oR1_1, hP1, hD1⟩ := hB
        rw [ht] at hP1
        obtain ⟨hP, hD⟩ := va_join (wr := [(oSt, .inr (4, xs)), (oWa, .inr (5, xw))]) (w1 := [(oB, .inr (0, xb)), (oRu, .inr (10, xn)), (oG1, .inr (8, xg)), (xb_watchWhat, .inl (cI, 16, .inl (fun _ => 5))), (oAc, .inr (11, xc)), (oR1, .inr (7, xr))]) hP hD [0, 2, 3, 4, 5, 6] [1, 7] rfl rfl (by decide) (by decide) hk1 hFc hP1 hD1
        have hP : va_P (dC, dI) classes [(oSt, .inr (4, xs)), (oWa, .inr (5, xw)), (oB, .inr (0, xb)), (oRu, .inr (10, xn)), (oG1, .inr (8, xg)), (xb_watchWhat, .inl (cI, 16, .inl (fun _ => 5))), (oAc, .inr (11, xc)), (oR1, .inr (7, xr))] H := hP
        have hD : va_D A [(oSt, .inr (4, xs)), (oWa, .inr (5, xw)), (oB, .inr (0, xb)), (oRu, .inr (10, xn)), (oG1, .inr (8, xg)), (xb_watchWhat, .inl (cI, 16, .inl (fun _ => 5))), (oAc, .inr (11, xc)), (oR1, .inr (7, xr))] := hD
        refine lv_aload_n hx hb d_Bh_tick_24 rfl (lv_at hl 1 rfl) ?_
        refine va_get (D := (dC, dI)) (ci := 0) (v := .ref oAc) (C := R_Bh) (T := F_Bh) (N := 16) hx hb hts (fun w h => List.mem_cons_of_mem _ (in_Bh w h)) hown hK.1 hP 2 rfl rfl 5 (by decide) (hts _ (List.mem_cons_of_mem _ mw_689)) (fun _ h9 => h9) hb_acts d_Bh_tick_25 ?_
        refine va_get (D := (dC, dI)) (ci := 11) (v := .ref oR1) (C := R_Ac) (T := F_Ac) (N := 8) hx hb hts (fun w h => List.mem_cons_of_mem _ (in_Ac w h)) hown hK.1 hP 6 rfl rfl 3 (by decide) (hts _ (List.mem_cons_of_mem _ mw_394)) (fun _ h9 => h9) hac_rows d_Bh_tick_28 ?_
        have hPc := hP.sub (ws' := [(oR1, .inr (7, xr))]) [7] rfl
        have hDc := hD.sub (ws' := [(oR1, .inr (7, xr))]) [7] (by decide) rfl
        have hFc := pu_free hS hA
        refine va_callv (va_runV (C := R_Ro) (As := []) (rest := []) ⟨hx, hb, hml, hown, hts⟩ (c_Ro_countSecond l dC dI cI cB cZ cJ oR1 xr hxr_count H.size) (cwV 0 hts (tb_V mw_1335 mw_1336 mw_1337 mw_10 mw_1338) rfl rfl rfl ⟨rfl, by decide +kernel, by decide +kernel, by decide +kernel⟩ ⟨(Nat.le_of_ble_eq_true rfl), (Nat.le_of_ble_eq_true rfl)⟩) ⟨pw_blind, va_recv (q := (R_Ro, F_Ro, 18)) hK.1 hP (ci := 7) (q0 := 7) rfl rfl, pw_pre hPc hK hDc⟩ rfl rfl hl.1 rfl (lv_room (Nat.le_of_ble_eq_true rfl)) d_Bh_tick_31 ⟨(Nat.le_of_ble_eq_true rfl), (Nat.le_of_ble_eq_true rfl)⟩) hS (fun q _ h => hFc q h) hFc (fun u t H locs ht hvm hw hB hz1 hk1 hS => ?_)
        have hP := pu_kept hP hk1
        refine lv_aload_n hx hb d_Bh_tick_34 rfl (lv_at hl 1 rfl) ?_
        refine va_get (D := (dC, dI)) (ci := 0) (v := .ref oRu) (C := R_Bh) (T := F_Bh) (N := 16) hx hb hts (fun w h => List.mem_cons_of_mem _ (in_Bh w h)) hown hK.1 hP 2 rfl rfl 6 (by decide) (hts _ (List.mem_cons_of_mem _ mw_690)) (fun _ h9 => h9) hb_run d_Bh_tick_35 ?_
        refine va_get (D := (dC, dI)) (ci := 10) (v := .int 4) (C := R_Ru) (T := F_Ru) (N := 21) hx hb hts (fun w h => List.mem_cons_of_mem _ (in_Ru w h)) hown hK.1 hP 3 rfl rfl 4 (by decide) (hts _ (List.mem_cons_of_mem _ mw_517)) (fun _ h9 => h9) hru_state d_Bh_tick_38 ?_
        refine lv_if_ne (tgt := 80) hx hb d_Bh_tick_41 (by decide) (fun _ => ?_) (fun h => absurd h (by decide))
        refine lv_aload_n hx hb d_Bh_tick_80 rfl (lv_at hl 1 rfl) ?_
        refine va_get (D := (dC, dI)) (ci := 0) (v := .ref oWa) (C := R_Bh) (T := F_Bh) (N := 16) hx hb hts (fun w h => List.mem_cons_of_mem _ (in_Bh w h)) hown hK.1 hP 2 rfl rfl 3 (by decide) (hts _ (List.mem_cons_of_mem _ mw_687)) (fun _ h9 => h9) hb_ways d_Bh_tick_81 ?_
        have hPc := hP.sub (ws' := [(oWa, .inr (5, xw))]) [1] rfl
        have hDc := hD.sub (ws' := [(oWa, .inr (5, xw))]) [1] (by decide) rfl
        have hFc := pu_free hS hA
        refine va_callv (va_runV (C := R_Wa) (As := []) (rest := []) ⟨hx, hb, hml, hown, hts⟩ (c_Wa_move l dC dI cI cB cZ cJ oWa xw hwa_count H.size) (cwV 0 hts (tb_V mw_1426 mw_1427 mw_1428 mw_7 mw_1429) rfl rfl rfl ⟨rfl, by decide +kernel, by decide +kernel, by decide +kernel⟩ ⟨(Nat.le_of_ble_eq_true rfl), (Nat.le_of_ble_eq_true rfl)⟩) ⟨pw_blind, va_recv (q := (R_Wa, F_Wa, 18)) hK.1 hP (ci := 5) (q0 := 1) rfl rfl, pw_pre hPc hK hDc⟩ rfl rfl hl.1 rfl (lv_room (Nat.le_of_ble_eq_true rfl)) d_Bh_tick_84 ⟨(Nat.le_of_ble_eq_true rfl), (Nat.le_of_ble_eq_true rfl)⟩) hS (fun q _ h => hFc q h) hFc (fun u t H locs ht hvm hw hB hz1 hk1 hS => ?_)
        have hP := pu_kept hP hk1
        refine lv_aload_n hx hb d_Bh_tick_87 rfl (lv_at hl 1 rfl) ?_
        refine va_get (D := (dC, dI)) (ci := 0) (v := .ref oSt) (C := R_Bh) (T := F_Bh) (N := 16) hx hb hts (fun w h => List.mem_cons_of_mem _ (in_Bh w h)) hown hK.1 hP 2 rfl rfl 2 (by decide) (hts _ (List.mem_cons_of_mem _ mw_686)) (fun _ h9 => h9) hb_stock d_Bh_tick_88 ?_
        refine lv_dup hx hb d_Bh_tick_91 rfl ?_
        refine va_get (D := (dC, dI)) (ci := 4) (v := .int v_1) (C := R_St) (T := F_St) (N := 12) hx hb hts (fun w h => List.mem_cons_of_mem _ (in_St w h)) hown hK.1 hP 0 rfl rfl 1 (by decide) (hts _ (List.mem_cons_of_mem _ mw_156)) (fun _ h9 => h9) y_1 d_Bh_tick_92 ?_
        refine lv_iconst (v := 1) hx hb d_Bh_tick_95 (by decide) ?_
        refine lv_iadd hx hb d_Bh_tick_96 ?_
        refine va_put (D := (dC, dI)) (ci := 4) (v := .int (v_1 + 1)) (ty := .int) (C := R_St) (T := F_St) (N := 12) hx hb hts (fun w h => List.mem_cons_of_mem _ (in_St w h)) t_St t_St_ok n_St hown hK.1 hP hD hS 0 rfl rfl 1 (by decide) (hts _ (List.mem_cons_of_mem _ mw_156)) (fun _ h9 => h9) rfl (by decide +kernel) rfl rfl (st_lt y_1) d_Bh_tick_97 (fun H locs hP hD hS => ?_)
        have g97_1 : (xs.set 1 (.int (v_1 + 1)))[1]? = some (.int (v_1 + 1)) := (st_eq y_1)
        have hP : va_P (dC, dI) classes [(oSt, .inr (4, (xs.set 1 (.int (v_1 + 1))))), (oWa, .inr (5, xw)), (oB, .inr (0, xb)), (oRu, .inr (10, xn)), (oG1, .inr (8, xg)), (xb_watchWhat, .inl (cI, 16, .inl (fun _ => 5))), (oAc, .inr (11, xc)), (oR1, .inr (7, xr))] H := hP
        have hD : va_D A [(oSt, .inr (4, (xs.set 1 (.int (v_1 + 1))))), (oWa, .inr (5, xw)), (oB, .inr (0, xb)), (oRu, .inr (10, xn)), (oG1, .inr (8, xg)), (xb_watchWhat, .inl (cI, 16, .inl (fun _ => 5))), (oAc, .inr (11, xc)), (oR1, .inr (7, xr))] := hD
        refine lv_iinc (k := 0) (v := (nI (i + 1))) hx hb d_Bh_tick_100 hl rfl (by first | rfl | decide | exact nI_1 i) (by decide) rfl (fun ls hl => ?_)
        have hl : lv_has ls 3 [(2, .int (nI (i + 1))), (0, .ref oB), (1, .int (nI n))] := hl
        refine lv_goto (tgt := 15) hx hb d_Bh_tick_103 (by decide) ?_
        have hP := hP.sub (ws' := [(oB, .inr (0, xb)), (oSt, .inr (4, (xs.set 1 (.int (v_1 + 1))))), (oRu, .inr (10, xn)), (oG1, .inr (8, xg)), (xb_watchWhat, .inl (cI, 16, .inl (fun _ => 5))), (oAc, .inr (11, xc)), (oR1, .inr (7, xr)), (oWa, .inr (5, xw))]) [2, 0, 3, 4, 5, 6, 7, 1] rfl
        have hD := hD.sub (ws' := [(oB, .inr (0, xb)), (oSt, .inr (4, (xs.set 1 (.int (v_1 + 1))))), (oRu, .inr (10, xn)), (oG1, .inr (8, xg)), (xb_watchWhat, .inl (cI, 16, .inl (fun _ => 5))), (oAc, .inr (11, xc)), (oR1, .inr (7, xr)), (oWa, .inr (5, xw))]) [2, 0, 3, 4, 5, 6, 7, 1] (by decide) rfl
        have hl : lv_has ls 3 [(2, .int (nI (i + 1))), (0, .ref oB), (1, .int (nI n))] := lv_sub hl [0, 1, 2] rfl
        exact hk (xs.set 1 (.int (v_1 + 1))) H locs ls ⟨⟨_, g97_1⟩, hP, hD, hS, hl⟩
      · intro xs H locs ls hI
        obtain ⟨⟨v_1, y_1⟩, hP, hD, hS, hl⟩ := hI
        refine lv_iload_n hx hb d_Bh_tick_15 rfl (lv_at hl 0 rfl) ?_
        refine lv_iload_n hx hb d_Bh_tick_16 rfl (lv_at hl 2 rfl) ?_
        refine lv_icmp_ge (tgt := 106) hx hb d_Bh_tick_17 (by decide) (fun _ => ?_) (fun h => absurd (nI_le (Nat.le_refl _) (by omega)) h)
        refine lv_aload_n hx hb d_Bh_tick_106 rfl (lv_at hl 1 rfl) ?_
        refine va_get (D := (dC, dI)) (ci := 0) (v := .ref oRu) (C := R_Bh) (T := F_Bh) (N := 16) hx hb hts (fun w h => List.mem_cons_of_mem _ (in_Bh w h)) hown hK.1 hP 0 rfl rfl 6 (by decide) (hts _ (List.mem_cons_of_mem _ mw_690)) (fun _ h9 => h9) hb_run d_Bh_tick_107 ?_
        refine va_get (D := (dC, dI)) (ci := 10) (v := .int 4) (C := R_Ru) (T := F_Ru) (N := 21) hx hb hts (fun w h => List.mem_cons_of_mem _ (in_Ru w h)) hown hK.1 hP 2 rfl rfl 4 (by decide) (hts _ (List.mem_cons_of_mem _ mw_517)) (fun _ h9 => h9) hru_state d_Bh_tick_110 ?_
        exact W.iret (v := 4) hx hb hr (fun t ht hW => ⟨⟨_, (), rfl, (by unfold fn_Bh_tick; rw [if_neg h1, if_pos h8]), trivial⟩, hS.F ht⟩) hS.2.2 d_Bh_tick_113
    · refine lv_iconst (v := (-1)) hx hb d_Bh_tick_11 (by decide) ?_
      exact W.iret (v := (-1)) hx hb hr (fun t ht hW => ⟨⟨_, (), rfl, (by unfold fn_Bh_tick; rw [if_neg h1, if_neg h8]), trivial⟩, hS.F ht⟩) hS.2.2 d_Bh_tick_12
