abbrev b_Mo_join : ByteArray := prog_14_method_29_code
def y_Mo_join : MethodName := ⟨R_Mo, "join", "()V"⟩
abbrev w_Mo_join : List Cond := .code y_Mo_join b_Mo_join 6 none :: lw_gd
abbrev b_Mo_look : ByteArray := prog_14_method_34_code
def y_Mo_look : MethodName := ⟨R_Mo, "look", "()V"⟩
abbrev w_Mo_look : List Cond := .code y_Mo_look b_Mo_look 3 none :: lw_gd
abbrev b_Mo_flood : ByteArray := prog_14_method_30_code
def y_Mo_flood : MethodName := ⟨R_Mo, "flood", "(I)J"⟩
abbrev w_Mo_flood : List Cond := .code y_Mo_flood b_Mo_flood 8 (some .long) :: lw_gd
abbrev b_Mo_isCalm : ByteArray := prog_14_method_32_code
def y_Mo_isCalm : MethodName := ⟨R_Mo, "isCalm", "(I)Z"⟩
abbrev w_Mo_isCalm : List Cond := .code y_Mo_isCalm b_Mo_isCalm 5 (some .boolean) :: lw_gd
abbrev b_Mo_isSafe : ByteArray := prog_14_method_33_code
def y_Mo_isSafe : MethodName := ⟨R_Mo, "isSafe", "()Z"⟩
abbrev w_Mo_isSafe : List Cond := .code y_Mo_isSafe b_Mo_isSafe 5 (some .boolean) :: lw_gd
abbrev b_Mo_danger : ByteArray := prog_14_method_36_code
def y_Mo_danger : MethodName := ⟨R_Mo, "danger", "(I)I"⟩
abbrev w_Mo_danger : List Cond := .code y_Mo_danger b_Mo_danger 2 (some .int) :: lw_gd
abbrev b_Mo_closeAll : ByteArray := prog_14_method_44_code
def y_Mo_closeAll : MethodName := ⟨R_Mo, "closeAll", "()V"⟩
abbrev w_Mo_closeAll : List Cond := .code y_Mo_closeAll b_Mo_closeAll 1 none :: lw_gd
abbrev b_Mo_senseAll : ByteArray := prog_14_method_64_code
def y_Mo_senseAll : MethodName := ⟨R_Mo, "senseAll", "()V"⟩
abbrev w_Mo_senseAll : List Cond := .code y_Mo_senseAll b_Mo_senseAll 5 none :: lw_gd
abbrev b_Mr_tick : ByteArray := prog_15_method_21_code
def y_Mr_tick : MethodName := ⟨R_Mr, "tick", "(I)Z"⟩
abbrev w_Mr_tick : List Cond := .code y_Mr_tick b_Mr_tick 4 (some .boolean) :: lw_gd
theorem mw_1830 : (.fieldLink "BreweryHouseModel" 129 "BreweryHouseModel" "floods" "[J" : Cond) ∈ lw_gd := tb_mem (i := 1830) (by decide +kernel) (by decide +kernel)
theorem mw_2361 : (.methodLink "BreweryHouseModel" 366 y_Mo_look : Cond) ∈ lw_gd := tb_mem (i := 2361) (by decide +kernel) (by decide +kernel)
theorem mw_2363 : (.instanceMethod y_Mo_look : Cond) ∈ lw_gd := tb_mem (i := 2363) (by decide +kernel) (by decide +kernel)
theorem mw_2364 : (.code y_Mo_look b_Mo_look 3 none : Cond) ∈ lw_gd := tb_mem (i := 2364) (by decide +kernel) (by decide +kernel)
theorem mw_2373 : (.methodLink "BreweryHouseModel" 369 y_Mo_isSafe : Cond) ∈ lw_gd := tb_mem (i := 2373) (by decide +kernel) (by decide +kernel)
theorem mw_2375 : (.instanceMethod y_Mo_isSafe : Cond) ∈ lw_gd := tb_mem (i := 2375) (by decide +kernel) (by decide +kernel)
theorem mw_2376 : (.code y_Mo_isSafe b_Mo_isSafe 5 (some .boolean) : Cond) ∈ lw_gd := tb_mem (i := 2376) (by decide +kernel) (by decide +kernel)
theorem mw_2377 : (.methodLink "BreweryHouseModel" 359 y_Mo_isCalm : Cond) ∈ lw_gd := tb_mem (i := 2377) (by decide +kernel) (by decide +kernel)
theorem mw_2379 : (.instanceMethod y_Mo_isCalm : Cond) ∈ lw_gd := tb_mem (i := 2379) (by decide +kernel) (by decide +kernel)
theorem mw_2380 : (.code y_Mo_isCalm b_Mo_isCalm 5 (some .boolean) : Cond) ∈ lw_gd := tb_mem (i := 2380) (by decide +kernel) (by decide +kernel)
theorem mw_2381 : (.methodLink "BreweryHouseModel" 336 y_Mo_join : Cond) ∈ lw_gd := tb_mem (i := 2381) (by decide +kernel) (by decide +kernel)
theorem mw_2383 : (.instanceMethod y_Mo_join : Cond) ∈ lw_gd := tb_mem (i := 2383) (by decide +kernel) (by decide +kernel)
theorem mw_2384 : (.code y_Mo_join b_Mo_join 6 none : Cond) ∈ lw_gd := tb_mem (i := 2384) (by decide +kernel) (by decide +kernel)
theorem mw_2388 : (.methodLink "BreweryHouseModel" 339 y_Mo_flood : Cond) ∈ lw_gd := tb_mem (i := 2388) (by decide +kernel) (by decide +kernel)
theorem mw_2390 : (.instanceMethod y_Mo_flood : Cond) ∈ lw_gd := tb_mem (i := 2390) (by decide +kernel) (by decide +kernel)
theorem mw_2391 : (.code y_Mo_flood b_Mo_flood 8 (some .long) : Cond) ∈ lw_gd := tb_mem (i := 2391) (by decide +kernel) (by decide +kernel)
theorem mw_2609 : (.constant "BreweryHouseModel$Rows" 142 100000 : Cond) ∈ lw_gd := tb_mem (i := 2609) (by decide +kernel) (by decide +kernel)
theorem sl_143 : (.selects "BreweryHouseModel" y_Mo_look y_Mo_look : Cond) ∈ lw_gd := List.mem_filter.mpr ⟨List.mem_append_left _ (List.mem_of_getElem? (i := 143) (by decide +kernel)), by decide +kernel⟩
theorem sl_146 : (.selects "BreweryHouseModel" y_Mo_isSafe y_Mo_isSafe : Cond) ∈ lw_gd := List.mem_filter.mpr ⟨List.mem_append_left _ (List.mem_of_getElem? (i := 146) (by decide +kernel)), by decide +kernel⟩
theorem sl_147 : (.selects "BreweryHouseModel" y_Mo_isCalm y_Mo_isCalm : Cond) ∈ lw_gd := List.mem_filter.mpr ⟨List.mem_append_left _ (List.mem_of_getElem? (i := 147) (by decide +kernel)), by decide +kernel⟩
theorem sl_148 : (.selects "BreweryHouseModel" y_Mo_join y_Mo_join : Cond) ∈ lw_gd := List.mem_filter.mpr ⟨List.mem_append_left _ (List.mem_of_getElem? (i := 148) (by decide +kernel)), by decide +kernel⟩
theorem sl_149 : (.selects "BreweryHouseModel" y_Mo_flood y_Mo_flood : Cond) ∈ lw_gd := List.mem_filter.mpr ⟨List.mem_append_left _ (List.mem_of_getElem? (i := 149) (by decide +kernel)), by decide +kernel⟩
theorem d_Mo_join_0 : decode b_Mo_join 0 = .ok (.iconst 0, 1) := by decide +kernel
theorem d_Mo_join_1 : decode b_Mo_join 1 = .ok (.istore_n 1, 1) := by decide +kernel
theorem d_Mo_join_2 : decode b_Mo_join 2 = .ok (.iload_n 1, 1) := by decide +kernel
theorem d_Mo_join_3 : decode b_Mo_join 3 = .ok (.aload_n 0, 1) := by decide +kernel
theorem d_Mo_join_4 : decode b_Mo_join 4 = .ok (.getfield 278, 3) := by decide +kernel
theorem d_Mo_join_7 : decode b_Mo_join 7 = .ok (.aload_n 0, 1) := by decide +kernel
theorem d_Mo_join_8 : decode b_Mo_join 8 = .ok (.getfield 281, 3) := by decide +kernel
theorem d_Mo_join_11 : decode b_Mo_join 11 = .ok (.iadd, 1) := by decide +kernel
theorem d_Mo_join_12 : decode b_Mo_join 12 = .ok (.if_icmp .ge 16, 3) := by decide +kernel
theorem d_Mo_join_28 : decode b_Mo_join 28 = .ok (.iconst 0, 1) := by decide +kernel
theorem d_Mo_join_29 : decode b_Mo_join 29 = .ok (.istore_n 1, 1) := by decide +kernel
theorem d_Mo_join_30 : decode b_Mo_join 30 = .ok (.iload_n 1, 1) := by decide +kernel
theorem d_Mo_join_31 : decode b_Mo_join 31 = .ok (.iconst 2, 1) := by decide +kernel
theorem d_Mo_join_32 : decode b_Mo_join 32 = .ok (.aload_n 0, 1) := by decide +kernel
theorem d_Mo_join_33 : decode b_Mo_join 33 = .ok (.getfield 281, 3) := by decide +kernel
theorem d_Mo_join_36 : decode b_Mo_join 36 = .ok (.imul, 1) := by decide +kernel
theorem d_Mo_join_37 : decode b_Mo_join 37 = .ok (.if_icmp .ge 199, 3) := by decide +kernel
theorem d_Mo_join_236 : decode b_Mo_join 236 = .ok (.return_, 1) := by decide +kernel
set_option maxHeartbeats 4000000 in
set_option maxRecDepth 100000 in
theorem c_Mo_join (l : Launch) (dC : Nat → ClassId) (dI : Nat → Nat → Nat) (cI cB cZ cJ : ClassId) (oM : Nat) (fm : List Value) (hm_things : fm[4]? = some (.int 0)) (hm_pipes : fm[11]? = some (.int 0)) (sz : Nat) : Met l y_Mo_join w_Mo_join ({ frames := 0, cells := 0, slots := 0, locals := 0 }) (va_Pc [.ref oM] (PW dC dI cI cB cZ cJ [(oM, .inr (12, fm))] sz)) (va_Qv (fun _ : Unit => True) (fun _ _ => True) (va_A [] sz)) 0 0 (va_A [] sz) := by
  refine Met.ofW (cc := b_Mo_join) (maxL := 6) (ret := none) (by decide) rfl ?_
  intro p e s m args below meth c s₁ B hml hv
  obtain ⟨rfl, hsz, hP, hK, hD⟩ := hv
  have hx := B.exec
  have hb := B.bytes
  have hr := B.returns
  have hts := atoms_spec (ws := w_Mo_join) B.pre
  have hown : s.vm.findClass R_Mo = some m.cls := findClass_of_methodNamed B.named
  have hlocks := B.notSynchronized
  subst hsz
  generalize hAe : va_A [] s.heap.size = A at ⊢
  have hA : ∀ q : Nat, s.heap.size ≤ q → A q := fun q h => by rw [← hAe]; exact Or.inr h
  have hS : va_S A s.heap s.heap [] := va_S.rf
  have hP : va_P (dC, dI) classes [(oM, .inr (12, fm))] s.heap := hP
  have hl := lv_entry ([.ref oM]) (n := 6) (Nat.le_of_ble_eq_true rfl)
  rw [lg_entry_eq]
  generalize (lg_sl ([.ref oM]) ++ List.replicate (6 - (lg_sl ([.ref oM])).length) Slot.unset).toArray = ls at hl ⊢
  have hl : lv_has ls 6 [(0, .ref oM)] := hl
  refine lv_iconst (v := 0) hx hb d_Mo_join_0 (by decide) ?_
  refine lv_istore_n hx hb d_Mo_join_1 rfl hl (by decide) rfl (fun ls hl => ?_)
  have hl : lv_has ls 6 [(1, .int 0), (0, .ref oM)] := hl
  refine lv_iload_n hx hb d_Mo_join_2 rfl (lv_at hl 0 rfl) ?_
  refine lv_aload_n hx hb d_Mo_join_3 rfl (lv_at hl 1 rfl) ?_
  refine va_get (D := (dC, dI)) (ci := 12) (v := .int 0) (C := R_Mo) (T := F_Mo) (N := 87) hx hb hts (fun w h => List.mem_cons_of_mem _ (in_Mo w h)) hown hK.1 hP 0 rfl rfl 4 (by decide) (hts _ (List.mem_cons_of_mem _ mw_1790)) (fun _ h9 => h9) hm_things d_Mo_join_4 ?_
  refine lv_aload_n hx hb d_Mo_join_7 rfl (lv_at hl 1 rfl) ?_
  refine va_get (D := (dC, dI)) (ci := 12) (v := .int 0) (C := R_Mo) (T := F_Mo) (N := 87) hx hb hts (fun w h => List.mem_cons_of_mem _ (in_Mo w h)) hown hK.1 hP 0 rfl rfl 11 (by decide) (hts _ (List.mem_cons_of_mem _ mw_1797)) (fun _ h9 => h9) hm_pipes d_Mo_join_8 ?_
  refine lv_iadd hx hb d_Mo_join_11 ?_
  refine lv_topi (fun x0 e0 => ?_)
  obtain rfl : x0 = 0 := e0.trans (by decide)
  refine lv_icmp_ge (tgt := 28) hx hb d_Mo_join_12 (by decide) (fun _ => ?_) (fun h => absurd (by decide) h)
  refine lv_iconst (v := 0) hx hb d_Mo_join_28 (by decide) ?_
  refine lv_istore_n hx hb d_Mo_join_29 rfl hl (by decide) rfl (fun ls hl => ?_)
  have hl : lv_has ls 6 [(1, .int 0), (0, .ref oM)] := hl
  refine lv_iload_n hx hb d_Mo_join_30 rfl (lv_at hl 0 rfl) ?_
  refine lv_iconst (v := 2) hx hb d_Mo_join_31 (by decide) ?_
  refine lv_aload_n hx hb d_Mo_join_32 rfl (lv_at hl 1 rfl) ?_
  refine va_get (D := (dC, dI)) (ci := 12) (v := .int 0) (C := R_Mo) (T := F_Mo) (N := 87) hx hb hts (fun w h => List.mem_cons_of_mem _ (in_Mo w h)) hown hK.1 hP 0 rfl rfl 11 (by decide) (hts _ (List.mem_cons_of_mem _ mw_1797)) (fun _ h9 => h9) hm_pipes d_Mo_join_33 ?_
  refine lv_imul hx hb d_Mo_join_36 ?_
  refine lv_topi (fun x0 e0 => ?_)
  obtain rfl : x0 = 0 := e0.trans (by decide)
  refine lv_icmp_ge (tgt := 236) hx hb d_Mo_join_37 (by decide) (fun _ => ?_) (fun h => absurd (by decide) h)
  exact W.vret hx hb hr (fun t ht hW => ⟨⟨(), rfl, trivial, trivial⟩, hS.F ht⟩) hS.2.2 d_Mo_join_236
theorem d_Mo_look_0 : decode b_Mo_look 0 = .ok (.iconst 0, 1) := by decide +kernel
theorem d_Mo_look_1 : decode b_Mo_look 1 = .ok (.istore_n 1, 1) := by decide +kernel
theorem d_Mo_look_2 : decode b_Mo_look 2 = .ok (.iload_n 1, 1) := by decide +kernel
theorem d_Mo_look_3 : decode b_Mo_look 3 = .ok (.aload_n 0, 1) := by decide +kernel
theorem d_Mo_look_4 : decode b_Mo_look 4 = .ok (.getfield 278, 3) := by decide +kernel
theorem d_Mo_look_7 : decode b_Mo_look 7 = .ok (.aload_n 0, 1) := by decide +kernel
theorem d_Mo_look_8 : decode b_Mo_look 8 = .ok (.getfield 281, 3) := by decide +kernel
theorem d_Mo_look_11 : decode b_Mo_look 11 = .ok (.iadd, 1) := by decide +kernel
theorem d_Mo_look_12 : decode b_Mo_look 12 = .ok (.if_icmp .ge 20, 3) := by decide +kernel
theorem d_Mo_look_32 : decode b_Mo_look 32 = .ok (.iconst 0, 1) := by decide +kernel
theorem d_Mo_look_33 : decode b_Mo_look 33 = .ok (.istore_n 1, 1) := by decide +kernel
theorem d_Mo_look_34 : decode b_Mo_look 34 = .ok (.iload_n 1, 1) := by decide +kernel
theorem d_Mo_look_35 : decode b_Mo_look 35 = .ok (.aload_n 0, 1) := by decide +kernel
theorem d_Mo_look_36 : decode b_Mo_look 36 = .ok (.getfield 284, 3) := by decide +kernel
theorem d_Mo_look_39 : decode b_Mo_look 39 = .ok (.if_icmp .ge 71, 3) := by decide +kernel
theorem d_Mo_look_110 : decode b_Mo_look 110 = .ok (.return_, 1) := by decide +kernel
set_option maxHeartbeats 4000000 in
set_option maxRecDepth 100000 in
theorem c_Mo_look (l : Launch) (dC : Nat → ClassId) (dI : Nat → Nat → Nat) (cI cB cZ cJ : ClassId) (oM : Nat) (fm : List Value) (hm_things : fm[4]? = some (.int 0)) (hm_pipes : fm[11]? = some (.int 0)) (hm_ways : fm[26]? = some (.int 0)) (sz : Nat) : Met l y_Mo_look w_Mo_look ({ frames := 0, cells := 0, slots := 0, locals := 0 }) (va_Pc [.ref oM] (PW dC dI cI cB cZ cJ [(oM, .inr (12, fm))] sz)) (va_Qv (fun _ : Unit => True) (fun _ _ => True) (va_A [] sz)) 0 0 (va_A [] sz) := by
  refine Met.ofW (cc := b_Mo_look) (maxL := 3) (ret := none) (by decide) rfl ?_
  intro p e s m args below meth c s₁ B hml hv
  obtain ⟨rfl, hsz, hP, hK, hD⟩ := hv
  have hx := B.exec
  have hb := B.bytes
  have hr := B.returns
  have hts := atoms_spec (ws := w_Mo_look) B.pre
  have hown : s.vm.findClass R_Mo = some m.cls := findClass_of_methodNamed B.named
  have hlocks := B.notSynchronized
  subst hsz
  generalize hAe : va_A [] s.heap.size = A at ⊢
  have hA : ∀ q : Nat, s.heap.size ≤ q → A q := fun q h => by rw [← hAe]; exact Or.inr h
  have hS : va_S A s.heap s.heap [] := va_S.rf
  have hP : va_P (dC, dI) classes [(oM, .inr (12, fm))] s.heap := hP
  have hl := lv_entry ([.ref oM]) (n := 3) (Nat.le_of_ble_eq_true rfl)
  rw [lg_entry_eq]
  generalize (lg_sl ([.ref oM]) ++ List.replicate (3 - (lg_sl ([.ref oM])).length) Slot.unset).toArray = ls at hl ⊢
  have hl : lv_has ls 3 [(0, .ref oM)] := hl
  refine lv_iconst (v := 0) hx hb d_Mo_look_0 (by decide) ?_
  refine lv_istore_n hx hb d_Mo_look_1 rfl hl (by decide) rfl (fun ls hl => ?_)
  have hl : lv_has ls 3 [(1, .int 0), (0, .ref oM)] := hl
  refine lv_iload_n hx hb d_Mo_look_2 rfl (lv_at hl 0 rfl) ?_
  refine lv_aload_n hx hb d_Mo_look_3 rfl (lv_at hl 1 rfl) ?_
  refine va_get (D := (dC, dI)) (ci := 12) (v := .int 0) (C := R_Mo) (T := F_Mo) (N := 87) hx hb hts (fun w h => List.mem_cons_of_mem _ (in_Mo w h)) hown hK.1 hP 0 rfl rfl 4 (by decide) (hts _ (List.mem_cons_of_mem _ mw_1790)) (fun _ h9 => h9) hm_things d_Mo_look_4 ?_
  refine lv_aload_n hx hb d_Mo_look_7 rfl (lv_at hl 1 rfl) ?_
  refine va_get (D := (dC, dI)) (ci := 12) (v := .int 0) (C := R_Mo) (T := F_Mo) (N := 87) hx hb hts (fun w h => List.mem_cons_of_mem _ (in_Mo w h)) hown hK.1 hP 0 rfl rfl 11 (by decide) (hts _ (List.mem_cons_of_mem _ mw_1797)) (fun _ h9 => h9) hm_pipes d_Mo_look_8 ?_
  refine lv_iadd hx hb d_Mo_look_11 ?_
  refine lv_topi (fun x0 e0 => ?_)
  obtain rfl : x0 = 0 := e0.trans (by decide)
  refine lv_icmp_ge (tgt := 32) hx hb d_Mo_look_12 (by decide) (fun _ => ?_) (fun h => absurd (by decide) h)
  refine lv_iconst (v := 0) hx hb d_Mo_look_32 (by decide) ?_
  refine lv_istore_n hx hb d_Mo_look_33 rfl hl (by decide) rfl (fun ls hl => ?_)
  have hl : lv_has ls 3 [(1, .int 0), (0, .ref oM)] := hl
  refine lv_iload_n hx hb d_Mo_look_34 rfl (lv_at hl 0 rfl) ?_
  refine lv_aload_n hx hb d_Mo_look_35 rfl (lv_at hl 1 rfl) ?_
  refine va_get (D := (dC, dI)) (ci := 12) (v := .int 0) (C := R_Mo) (T := F_Mo) (N := 87) hx hb hts (fun w h => List.mem_cons_of_mem _ (in_Mo w h)) hown hK.1 hP 0 rfl rfl 26 (by decide) (hts _ (List.mem_cons_of_mem _ mw_1812)) (fun _ h9 => h9) hm_ways d_Mo_look_36 ?_
  refine lv_icmp_ge (tgt := 110) hx hb d_Mo_look_39 (by decide) (fun _ => ?_) (fun h => absurd (by decide) h)
  exact W.vret hx hb hr (fun t ht hW => ⟨⟨(), rfl, trivial, trivial⟩, hS.F ht⟩) hS.2.2 d_Mo_look_110
theorem d_Mo_flood_0 : decode b_Mo_flood 0 = .ok (.lconst 0, 1) := by decide +kernel
theorem d_Mo_flood_1 : decode b_Mo_flood 1 = .ok (.lstore_n 2, 1) := by decide +kernel
theorem d_Mo_flood_2 : decode b_Mo_flood 2 = .ok (.iconst 0, 1) := by decide +kernel
theorem d_Mo_flood_3 : decode b_Mo_flood 3 = .ok (.istore 4, 2) := by decide +kernel
theorem d_Mo_flood_5 : decode b_Mo_flood 5 = .ok (.iload 4, 2) := by decide +kernel
theorem d_Mo_flood_7 : decode b_Mo_flood 7 = .ok (.aload_n 0, 1) := by decide +kernel
theorem d_Mo_flood_8 : decode b_Mo_flood 8 = .ok (.getfield 278, 3) := by decide +kernel
theorem d_Mo_flood_11 : decode b_Mo_flood 11 = .ok (.aload_n 0, 1) := by decide +kernel
theorem d_Mo_flood_12 : decode b_Mo_flood 12 = .ok (.getfield 281, 3) := by decide +kernel
theorem d_Mo_flood_15 : decode b_Mo_flood 15 = .ok (.iadd, 1) := by decide +kernel
theorem d_Mo_flood_16 : decode b_Mo_flood 16 = .ok (.if_icmp .ge 31, 3) := by decide +kernel
theorem d_Mo_flood_47 : decode b_Mo_flood 47 = .ok (.lload_n 2, 1) := by decide +kernel
theorem d_Mo_flood_48 : decode b_Mo_flood 48 = .ok (.lconst 0, 1) := by decide +kernel
theorem d_Mo_flood_49 : decode b_Mo_flood 49 = .ok (.lcmp, 1) := by decide +kernel
theorem d_Mo_flood_50 : decode b_Mo_flood 50 = .ok (.ifCond .eq 7, 3) := by decide +kernel
theorem d_Mo_flood_57 : decode b_Mo_flood 57 = .ok (.iconst 0, 1) := by decide +kernel
theorem d_Mo_flood_58 : decode b_Mo_flood 58 = .ok (.istore 4, 2) := by decide +kernel
theorem d_Mo_flood_60 : decode b_Mo_flood 60 = .ok (.iload 4, 2) := by decide +kernel
theorem d_Mo_flood_62 : decode b_Mo_flood 62 = .ok (.ifCond .eq 71, 3) := by decide +kernel
theorem d_Mo_flood_133 : decode b_Mo_flood 133 = .ok (.lload_n 2, 1) := by decide +kernel
theorem d_Mo_flood_134 : decode b_Mo_flood 134 = .ok (.lreturn, 1) := by decide +kernel
set_option maxHeartbeats 4000000 in
set_option maxRecDepth 100000 in
theorem c_Mo_flood (l : Launch) (dC : Nat → ClassId) (dI : Nat → Nat → Nat) (cI cB cZ cJ : ClassId) (li : Int32) (oM : Nat) (fm : List Value) (hm_things : fm[4]? = some (.int 0)) (hm_pipes : fm[11]? = some (.int 0)) (sz : Nat) : Met l y_Mo_flood w_Mo_flood ({ frames := 0, cells := 0, slots := 0, locals := 0 }) (va_Pc [.ref oM, .int li] (PW dC dI cI cB cZ cJ [(oM, .inr (12, fm))] sz)) (va_Ql (fun (r : Int64) (_ : Unit) => r = 0) (fun _ _ => True) (va_A [] sz)) 0 0 (va_A [] sz) := by
  refine Met.ofW (cc := b_Mo_flood) (maxL := 8) (ret := (some .long)) (by decide) rfl ?_
  intro p e s m args below meth c s₁ B hml hv
  obtain ⟨rfl, hsz, hP, hK, hD⟩ := hv
  have hx := B.exec
  have hb := B.bytes
  have hr := B.returns
  have hts := atoms_spec (ws := w_Mo_flood) B.pre
  have hown : s.vm.findClass R_Mo = some m.cls := findClass_of_methodNamed B.named
  have hlocks := B.notSynchronized
  subst hsz
  generalize hAe : va_A [] s.heap.size = A at ⊢
  have hA : ∀ q : Nat, s.heap.size ≤ q → A q := fun q h => by rw [← hAe]; exact Or.inr h
  have hS : va_S A s.heap s.heap [] := va_S.rf
  have hP : va_P (dC, dI) classes [(oM, .inr (12, fm))] s.heap := hP
  have hl := lv_entry ([.ref oM, .int li]) (n := 8) (Nat.le_of_ble_eq_true rfl)
  rw [lg_entry_eq]
  generalize (lg_sl ([.ref oM, .int li]) ++ List.replicate (8 - (lg_sl ([.ref oM, .int li])).length) Slot.unset).toArray = ls at hl ⊢
  have hl : lv_has ls 8 [(0, .ref oM), (1, .int li)] := hl
  refine lv_lconst (v := 0) hx hb d_Mo_flood_0 (by decide) ?_
  refine lv_lstore_n hx hb d_Mo_flood_1 rfl hl (by decide) rfl (fun ls hl => ?_)
  have hl : lv_has ls 8 [(2, .long 0), (0, .ref oM), (1, .int li)] := hl
  refine lv_iconst (v := 0) hx hb d_Mo_flood_2 (by decide) ?_
  refine lv_istore hx hb d_Mo_flood_3 hl (by decide) rfl (fun ls hl => ?_)
  have hl : lv_has ls 8 [(4, .int 0), (2, .long 0), (0, .ref oM), (1, .int li)] := hl
  refine lv_iload hx hb d_Mo_flood_5 (lv_at hl 0 rfl) ?_
  refine lv_aload_n hx hb d_Mo_flood_7 rfl (lv_at hl 2 rfl) ?_
  refine va_get (D := (dC, dI)) (ci := 12) (v := .int 0) (C := R_Mo) (T := F_Mo) (N := 87) hx hb hts (fun w h => List.mem_cons_of_mem _ (in_Mo w h)) hown hK.1 hP 0 rfl rfl 4 (by decide) (hts _ (List.mem_cons_of_mem _ mw_1790)) (fun _ h9 => h9) hm_things d_Mo_flood_8 ?_
  refine lv_aload_n hx hb d_Mo_flood_11 rfl (lv_at hl 2 rfl) ?_
  refine va_get (D := (dC, dI)) (ci := 12) (v := .int 0) (C := R_Mo) (T := F_Mo) (N := 87) hx hb hts (fun w h => List.mem_cons_of_mem _ (in_Mo w h)) hown hK.1 hP 0 rfl rfl 11 (by decide) (hts _ (List.mem_cons_of_mem _ mw_1797)) (fun _ h9 => h9) hm_pipes d_Mo_flood_12 ?_
  refine lv_iadd hx hb d_Mo_flood_15 ?_
  refine lv_topi (fun x0 e0 => ?_)
  obtain rfl : x0 = 0 := e0.trans (by decide)
  refine lv_icmp_ge (tgt := 47) hx hb d_Mo_flood_16 (by decide) (fun _ => ?_) (fun h => absurd (by decide) h)
  refine lv_lload_n hx hb d_Mo_flood_47 rfl (lv_at hl 1 rfl) ?_
  refine lv_lconst (v := 0) hx hb d_Mo_flood_48 (by decide) ?_
  refine W.lcmp hx hb d_Mo_flood_49 ?_
  refine lv_topi (fun x0 e0 => ?_)
  obtain rfl : x0 = 0 := e0.trans (by decide)
  refine lv_if_eq (tgt := 57) hx hb d_Mo_flood_50 (by decide) (fun _ => ?_) (fun h => absurd (by decide) h)
  refine lv_iconst (v := 0) hx hb d_Mo_flood_57 (by decide) ?_
  refine lv_istore hx hb d_Mo_flood_58 hl (by decide) rfl (fun ls hl => ?_)
  have hl : lv_has ls 8 [(4, .int 0), (2, .long 0), (0, .ref oM), (1, .int li)] := hl
  refine lv_iload hx hb d_Mo_flood_60 (lv_at hl 0 rfl) ?_
  refine lv_if_eq (tgt := 133) hx hb d_Mo_flood_62 (by decide) (fun _ => ?_) (fun h => absurd (by decide) h)
  refine lv_lload_n hx hb d_Mo_flood_133 rfl (lv_at hl 1 rfl) ?_
  exact W.lret (v := 0) hx hb hr (fun t ht hW => ⟨⟨_, (), rfl, (rfl), trivial⟩, hS.F ht⟩) hS.2.2 d_Mo_flood_134
theorem d_Mo_isCalm_0 : decode b_Mo_isCalm 0 = .ok (.aload_n 0, 1) := by decide +kernel
theorem d_Mo_isCalm_1 : decode b_Mo_isCalm 1 = .ok (.invokevirtual 336, 3) := by decide +kernel
theorem d_Mo_isCalm_4 : decode b_Mo_isCalm 4 = .ok (.iconst 1, 1) := by decide +kernel
theorem d_Mo_isCalm_5 : decode b_Mo_isCalm 5 = .ok (.istore_n 2, 1) := by decide +kernel
theorem d_Mo_isCalm_6 : decode b_Mo_isCalm 6 = .ok (.iload_n 2, 1) := by decide +kernel
theorem d_Mo_isCalm_7 : decode b_Mo_isCalm 7 = .ok (.bipush 16, 2) := by decide +kernel
theorem d_Mo_isCalm_9 : decode b_Mo_isCalm 9 = .ok (.if_icmp .ge 20, 3) := by decide +kernel
theorem d_Mo_isCalm_12 : decode b_Mo_isCalm 12 = .ok (.aload_n 0, 1) := by decide +kernel
theorem d_Mo_isCalm_13 : decode b_Mo_isCalm 13 = .ok (.getfield 129, 3) := by decide +kernel
theorem d_Mo_isCalm_16 : decode b_Mo_isCalm 16 = .ok (.iload_n 2, 1) := by decide +kernel
theorem d_Mo_isCalm_17 : decode b_Mo_isCalm 17 = .ok (.aload_n 0, 1) := by decide +kernel
theorem d_Mo_isCalm_18 : decode b_Mo_isCalm 18 = .ok (.iload_n 2, 1) := by decide +kernel
theorem d_Mo_isCalm_19 : decode b_Mo_isCalm 19 = .ok (.invokevirtual 339, 3) := by decide +kernel
theorem d_Mo_isCalm_22 : decode b_Mo_isCalm 22 = .ok (.lastore, 1) := by decide +kernel
theorem d_Mo_isCalm_23 : decode b_Mo_isCalm 23 = .ok (.iinc 2 1, 3) := by decide +kernel
theorem d_Mo_isCalm_26 : decode b_Mo_isCalm 26 = .ok (.goto (-20), 3) := by decide +kernel
theorem d_Mo_isCalm_29 : decode b_Mo_isCalm 29 = .ok (.iconst 0, 1) := by decide +kernel
theorem d_Mo_isCalm_30 : decode b_Mo_isCalm 30 = .ok (.istore_n 2, 1) := by decide +kernel
theorem d_Mo_isCalm_31 : decode b_Mo_isCalm 31 = .ok (.iload_n 2, 1) := by decide +kernel
theorem d_Mo_isCalm_32 : decode b_Mo_isCalm 32 = .ok (.aload_n 0, 1) := by decide +kernel
theorem d_Mo_isCalm_33 : decode b_Mo_isCalm 33 = .ok (.getfield 278, 3) := by decide +kernel
theorem d_Mo_isCalm_36 : decode b_Mo_isCalm 36 = .ok (.aload_n 0, 1) := by decide +kernel
theorem d_Mo_isCalm_37 : decode b_Mo_isCalm 37 = .ok (.getfield 281, 3) := by decide +kernel
theorem d_Mo_isCalm_40 : decode b_Mo_isCalm 40 = .ok (.iadd, 1) := by decide +kernel
theorem d_Mo_isCalm_41 : decode b_Mo_isCalm 41 = .ok (.if_icmp .ge 97, 3) := by decide +kernel
theorem d_Mo_isCalm_138 : decode b_Mo_isCalm 138 = .ok (.iconst 1, 1) := by decide +kernel
theorem d_Mo_isCalm_139 : decode b_Mo_isCalm 139 = .ok (.ireturn, 1) := by decide +kernel
set_option maxHeartbeats 4000000 in
set_option maxRecDepth 100000 in
theorem c_Mo_isCalm (l : Launch) (dC : Nat → ClassId) (dI : Nat → Nat → Nat) (cI cB cZ cJ : ClassId) (fa : Int32) (oM : Nat) (am_floods : Nat) (fm : List Value) (hm_things : fm[4]? = some (.int 0)) (hm_pipes : fm[11]? = some (.int 0)) (hm_floods : fm[44]? = some (.ref am_floods)) (sz : Nat) : Met l y_Mo_isCalm w_Mo_isCalm ({ frames := 1, cells := 0, slots := 0, locals := 27 }) (va_Pc [.ref oM, .int fa] (PW dC dI cI cB cZ cJ [(oM, .inr (12, fm)), (am_floods, .inl (cJ, 16, .inr (.inl (fun _ => 0))))] sz)) (va_Qi (fun (r : Int32) (_ : Unit) => r = 1) (fun (_ : Unit) (t : State) => ∃ (n_am_floods : Nat → Int64), fm[4]? = some (.int 0) ∧ fm[11]? = some (.int 0) ∧ fm[44]? = some (.ref am_floods) ∧ va_P (dC, dI) classes [(oM, .inr (12, fm)), (am_floods, .inl (cJ, 16, .inr (.inl n_am_floods)))] t.heap ∧ va_D (va_A [(oM, .inr (12, fm)), (am_floods, .inl (cJ, 16, .inr (.inl (fun _ => 0))))] sz) [(oM, .inr (12, fm)), (am_floods, .inl (cJ, 16, .inr (.inl n_am_floods)))]) (va_A [(oM, .inr (12, fm)), (am_floods, .inl (cJ, 16, .inr (.inl (fun _ => 0))))] sz)) 0 0 (va_A [(oM, .inr (12, fm)), (am_floods, .inl (cJ, 16, .inr (.inl (fun _ => 0))))] sz) := by
  refine Met.ofW (cc := b_Mo_isCalm) (maxL := 5) (ret := (some .boolean)) (by decide) rfl ?_
  intro p e s m args below meth c s₁ B hml hv
  obtain ⟨rfl, hsz, hP, hK, hD⟩ := hv
  have hx := B.exec
  have hb := B.bytes
  have hr := B.returns
  have hts := atoms_spec (ws := w_Mo_isCalm) B.pre
  have hown : s.vm.findClass R_Mo = some m.cls := findClass_of_methodNamed B.named
  have hlocks := B.notSynchronized
  subst hsz
  have hD := hD.self (sz := s.heap.size)
  generalize hAe : va_A [(oM, .inr (12, fm)), (am_floods, .inl (cJ, 16, .inr (.inl (fun _ => 0))))] s.heap.size = A at hD ⊢
  have hA : ∀ q : Nat, s.heap.size ≤ q → A q := fun q h => by rw [← hAe]; exact Or.inr h
  have hS : va_S A s.heap s.heap [] := va_S.rf
  have hP : va_P (dC, dI) classes [(oM, .inr (12, fm)), (am_floods, .inl (cJ, 16, .inr (.inl (fun _ => 0))))] s.heap := hP
  have hl := lv_entry ([.ref oM, .int fa]) (n := 5) (Nat.le_of_ble_eq_true rfl)
  rw [lg_entry_eq]
  generalize (lg_sl ([.ref oM, .int fa]) ++ List.replicate (5 - (lg_sl ([.ref oM, .int fa])).length) Slot.unset).toArray = ls at hl ⊢
  have hl : lv_has ls 5 [(0, .ref oM), (1, .int fa)] := hl
  refine lv_aload_n hx hb d_Mo_isCalm_0 rfl (lv_at hl 0 rfl) ?_
  have hPc := hP.sub (ws' := [(oM, .inr (12, fm))]) [0] rfl
  have hDc := hD.sub (ws' := [(oM, .inr (12, fm))]) [0] (by decide) rfl
  have hFc := pu_free hS hA
  refine va_callv (va_runV (C := R_Mo) (As := []) (rest := []) ⟨hx, hb, hml, hown, hts⟩ (c_Mo_join l dC dI cI cB cZ cJ oM fm hm_things hm_pipes s.heap.size) (cwV 0 hts (tb_V mw_2381 mw_2383 sl_148 mw_18 mw_2384) rfl rfl rfl ⟨rfl, by decide +kernel, by decide +kernel, by decide +kernel⟩ ⟨(Nat.le_of_ble_eq_true rfl), (Nat.le_of_ble_eq_true rfl)⟩) ⟨pw_blind, va_recv (q := (R_Mo, F_Mo, 87)) hK.1 hP (ci := 12) (q0 := 0) rfl rfl, pw_pre hPc hK hDc⟩ rfl rfl hl.1 rfl (lv_room (Nat.le_of_ble_eq_true rfl)) d_Mo_isCalm_1 ⟨(Nat.le_of_ble_eq_true rfl), (Nat.le_of_ble_eq_true rfl)⟩) hS (fun q _ h => hFc q h) hFc (fun u t H locs ht hvm hw hB hz1 hk1 hS => ?_)
  have hP := pu_kept hP hk1
  refine lv_iconst (v := 1) hx hb d_Mo_isCalm_4 (by decide) ?_
  refine lv_istore_n hx hb d_Mo_isCalm_5 rfl hl (by decide) rfl (fun ls hl => ?_)
  have hl : lv_has ls 5 [(2, .int 1), (0, .ref oM), (1, .int fa)] := hl
  refine lv_iload_n hx hb d_Mo_isCalm_6 rfl (lv_at hl 0 rfl) ?_
  refine lv_bipush (v := 16) hx hb d_Mo_isCalm_7 (by decide) ?_
  refine lv_icmp_ge (tgt := 29) hx hb d_Mo_isCalm_9 (by decide) (fun h => absurd h (by decide)) (fun _ => ?_)
  refine lv_aload_n hx hb d_Mo_isCalm_12 rfl (lv_at hl 1 rfl) ?_
  refine va_get (D := (dC, dI)) (ci := 12) (v := .ref am_floods) (C := R_Mo) (T := F_Mo) (N := 87) hx hb hts (fun w h => List.mem_cons_of_mem _ (in_Mo w h)) hown hK.1 hP 0 rfl rfl 44 (by decide) (hts _ (List.mem_cons_of_mem _ mw_1830)) (fun _ h9 => h9) hm_floods d_Mo_isCalm_13 ?_
  refine lv_iload_n hx hb d_Mo_isCalm_16 rfl (lv_at hl 0 rfl) ?_
  refine lv_aload_n hx hb d_Mo_isCalm_17 rfl (lv_at hl 1 rfl) ?_
  refine lv_iload_n hx hb d_Mo_isCalm_18 rfl (lv_at hl 0 rfl) ?_
  have hPc := hP.sub (ws' := [(oM, .inr (12, fm))]) [0] rfl
  have hDc := hD.sub (ws' := [(oM, .inr (12, fm))]) [0] (by decide) rfl
  have hFc := pu_free hS hA
  refine va_calll (va_runV (C := R_Mo) (As := [.int 1]) (rest := [.int 1, .ref am_floods]) ⟨hx, hb, hml, hown, hts⟩ (c_Mo_flood l dC dI cI cB cZ cJ 1 oM fm hm_things hm_pipes H.size) (cwV 1 hts (tb_V mw_2388 mw_2390 sl_149 mw_18 mw_2391) rfl rfl rfl ⟨rfl, by decide +kernel, by decide +kernel, by decide +kernel⟩ ⟨(Nat.le_of_ble_eq_true rfl), (Nat.le_of_ble_eq_true rfl)⟩) ⟨pw_blind, va_recv (q := (R_Mo, F_Mo, 87)) hK.1 hP (ci := 12) (q0 := 0) rfl rfl, pw_pre hPc hK hDc⟩ rfl rfl hl.1 rfl (lv_room (Nat.le_of_ble_eq_true rfl)) d_Mo_isCalm_19 ⟨(Nat.le_of_ble_eq_true rfl), (Nat.le_of_ble_eq_true rfl)⟩) hS (fun q _ h => hFc q h) hFc (fun r u t H locs ht hvm hw hB hz1 hk1 hS => ?_)
  have hP := pu_kept hP hk1
  obtain rfl : r = 0 := hw
  refine va_last hx hb hK.1 hP hD hS 1 3 rfl rfl (vp_in_iff.mpr (by decide)) d_Mo_isCalm_22 (fun H locs hP hD hS => ?_)
  have hP : va_P (dC, dI) classes [(oM, .inr (12, fm)), (am_floods, .inl (cJ, 16, .inr (.inl ((vp_updL (fun _ => 0) (1 : Int32).toNatClampNeg 0)))))] H := hP
  have hD : va_D A [(oM, .inr (12, fm)), (am_floods, .inl (cJ, 16, .inr (.inl ((vp_updL (fun _ => 0) (1 : Int32).toNatClampNeg 0)))))] := hD
  generalize (vp_updL (fun _ => 0) (1 : Int32).toNatClampNeg 0) = f22_1 at hP hD
  refine lv_iinc (k := 0) (v := 2) hx hb d_Mo_isCalm_23 hl rfl (by first | rfl | decide | exact nI_1 i) (by decide) rfl (fun ls hl => ?_)
  have hl : lv_has ls 5 [(2, .int 2), (0, .ref oM), (1, .int fa)] := hl
  refine lv_goto (tgt := 6) hx hb d_Mo_isCalm_26 (by decide) ?_
  refine lv_iload_n hx hb d_Mo_isCalm_6 rfl (lv_at hl 0 rfl) ?_
  refine lv_bipush (v := 16) hx hb d_Mo_isCalm_7 (by decide) ?_
  refine lv_icmp_ge (tgt := 29) hx hb d_Mo_isCalm_9 (by decide) (fun h => absurd h (by decide)) (fun _ => ?_)
  refine lv_aload_n hx hb d_Mo_isCalm_12 rfl (lv_at hl 1 rfl) ?_
  refine va_get (D := (dC, dI)) (ci := 12) (v := .ref am_floods) (C := R_Mo) (T := F_Mo) (N := 87) hx hb hts (fun w h => List.mem_cons_of_mem _ (in_Mo w h)) hown hK.1 hP 0 rfl rfl 44 (by decide) (hts _ (List.mem_cons_of_mem _ mw_1830)) (fun _ h9 => h9) hm_floods d_Mo_isCalm_13 ?_
  refine lv_iload_n hx hb d_Mo_isCalm_16 rfl (lv_at hl 0 rfl) ?_
  refine lv_aload_n hx hb d_Mo_isCalm_17 rfl (lv_at hl 1 rfl) ?_
  refine lv_iload_n hx hb d_Mo_isCalm_18 rfl (lv_at hl 0 rfl) ?_
  have hPc := hP.sub (ws' := [(oM, .inr (12, fm))]) [0] rfl
  have hDc := hD.sub (ws' := [(oM, .inr (12, fm))]) [0] (by decide) rfl
  have hFc := pu_free hS hA
  refine va_calll (va_runV (C := R_Mo) (As := [.int 2]) (rest := [.int 2, .ref am_floods]) ⟨hx, hb, hml, hown, hts⟩ (c_Mo_flood l dC dI cI cB cZ cJ 2 oM fm hm_things hm_pipes H.size) (cwV 1 hts (tb_V mw_2388 mw_2390 sl_149 mw_18 mw_2391) rfl rfl rfl ⟨rfl, by decide +kernel, by decide +kernel, by decide +kernel⟩ ⟨(Nat.le_of_ble_eq_true rfl), (Nat.le_of_ble_eq_true rfl)⟩) ⟨pw_blind, va_recv (q := (R_Mo, F_Mo, 87)) hK.1 hP (ci := 12) (q0 := 0) rfl rfl, pw_pre hPc hK hDc⟩ rfl rfl hl.1 rfl (lv_room (Nat.le_of_ble_eq_true rfl)) d_Mo_isCalm_19 ⟨(Nat.le_of_ble_eq_true rfl), (Nat.le_of_ble_eq_true rfl)⟩) hS (fun q _ h => hFc q h) hFc (fun r u t H locs ht hvm hw hB hz1 hk1 hS => ?_)
  have hP := pu_kept hP hk1
  obtain rfl : r = 0 := hw
  refine va_last hx hb hK.1 hP hD hS 1 3 rfl rfl (vp_in_iff.mpr (by decide)) d_Mo_isCalm_22 (fun H locs hP hD hS => ?_)
  have hP : va_P (dC, dI) classes [(oM, .inr (12, fm)), (am_floods, .inl (cJ, 16, .inr (.inl ((vp_updL f22_1 (2 : Int32).toNatClampNeg 0)))))] H := hP
  have hD : va_D A [(oM, .inr (12, fm)), (am_floods, .inl (cJ, 16, .inr (.inl ((vp_updL f22_1 (2 : Int32).toNatClampNeg 0)))))] := hD
  generalize (vp_updL f22_1 (2 : Int32).toNatClampNeg 0) = f22_2 at hP hD
  refine lv_iinc (k := 0) (v := 3) hx hb d_Mo_isCalm_23 hl rfl (by first | rfl | decide | exact nI_1 i) (by decide) rfl (fun ls hl => ?_)
  have hl : lv_has ls 5 [(2, .int 3), (0, .ref oM), (1, .int fa)] := hl
  refine lv_goto (tgt := 6) hx hb d_Mo_isCalm_26 (by decide) ?_
  refine lv_iload_n hx hb d_Mo_isCalm_6 rfl (lv_at hl 0 rfl) ?_
  refine lv_bipush (v := 16) hx hb d_Mo_isCalm_7 (by decide) ?_
  refine lv_icmp_ge (tgt := 29) hx hb d_Mo_isCalm_9 (by decide) (fun h => absurd h (by decide)) (fun _ => ?_)
  refine lv_aload_n hx hb d_Mo_isCalm_12 rfl (lv_at hl 1 rfl) ?_
  refine va_get (D := (dC, dI)) (ci := 12) (v := .ref am_floods) (C := R_Mo) (T := F_Mo) (N := 87) hx hb hts (fun w h => List.mem_cons_of_mem _ (in_Mo w h)) hown hK.1 hP 0 rfl rfl 44 (by decide) (hts _ (List.mem_cons_of_mem _ mw_1830)) (fun _ h9 => h9) hm_floods d_Mo_isCalm_13 ?_
  refine lv_iload_n hx hb d_Mo_isCalm_16 rfl (lv_at hl 0 rfl) ?_
  refine lv_aload_n hx hb d_Mo_isCalm_17 rfl (lv_at hl 1 rfl) ?_
  refine lv_iload_n hx hb d_Mo_isCalm_18 rfl (lv_at hl 0 rfl) ?_
  have hPc := hP.sub (ws' := [(oM, .inr (12, fm))]) [0] rfl
  have hDc := hD.sub (ws' := [(oM, .inr (12, fm))]) [0] (by decide) rfl
  have hFc := pu_free hS hA
  refine va_calll (va_runV (C := R_Mo) (As := [.int 3]) (rest := [.int 3, .ref am_floods]) ⟨hx, hb, hml, hown, hts⟩ (c_Mo_flood l dC dI cI cB cZ cJ 3 oM fm hm_things hm_pipes H.size) (cwV 1 hts (tb_V mw_2388 mw_2390 sl_149 mw_18 mw_2391) rfl rfl rfl ⟨rfl, by decide +kernel, by decide +kernel, by decide +kernel⟩ ⟨(Nat.le_of_ble_eq_true rfl), (Nat.le_of_ble_eq_true rfl)⟩) ⟨pw_blind, va_recv (q := (R_Mo, F_Mo, 87)) hK.1 hP (ci := 12) (q0 := 0) rfl rfl, pw_pre hPc hK hDc⟩ rfl rfl hl.1 rfl (lv_room (Nat.le_of_ble_eq_true rfl)) d_Mo_isCalm_19 ⟨(Nat.le_of_ble_eq_true rfl), (Nat.le_of_ble_eq_true rfl)⟩) hS (fun q _ h => hFc q h) hFc (fun r u t H locs ht hvm hw hB hz1 hk1 hS => ?_)
  have hP := pu_kept hP hk1
  obtain rfl : r = 0 := hw
  refine va_last hx hb hK.1 hP hD hS 1 3 rfl rfl (vp_in_iff.mpr (by decide)) d_Mo_isCalm_22 (fun H locs hP hD hS => ?_)
  have hP : va_P (dC, dI) classes [(oM, .inr (12, fm)), (am_floods, .inl (cJ, 16, .inr (.inl ((vp_updL f22_2 (3 : Int32).toNatClampNeg 0)))))] H := hP
  have hD : va_D A [(oM, .inr (12, fm)), (am_floods, .inl (cJ, 16, .inr (.inl ((vp_updL f22_2 (3 : Int32).toNatClampNeg 0)))))] := hD
  generalize (vp_updL f22_2 (3 : Int32).toNatClampNeg 0) = f22_3 at hP hD
  refine lv_iinc (k := 0) (v := 4) hx hb d_Mo_isCalm_23 hl rfl (by first | rfl | decide | exact nI_1 i) (by decide) rfl (fun ls hl => ?_)
  have hl : lv_has ls 5 [(2, .int 4), (0, .ref oM), (1, .int fa)] := hl
  refine lv_goto (tgt := 6) hx hb d_Mo_isCalm_26 (by decide) ?_
  refine lv_iload_n hx hb d_Mo_isCalm_6 rfl (lv_at hl 0 rfl) ?_
  refine lv_bipush (v := 16) hx hb d_Mo_isCalm_7 (by decide) ?_
  refine lv_icmp_ge (tgt := 29) hx hb d_Mo_isCalm_9 (by decide) (fun h => absurd h (by decide)) (fun _ => ?_)
  refine lv_aload_n hx hb d_Mo_isCalm_12 rfl (lv_at hl 1 rfl) ?_
  refine va_get (D := (dC, dI)) (ci := 12) (v := .ref am_floods) (C := R_Mo) (T := F_Mo) (N := 87) hx hb hts (fun w h => List.mem_cons_of_mem _ (in_Mo w h)) hown hK.1 hP 0 rfl rfl 44 (by decide) (hts _ (List.mem_cons_of_mem _ mw_1830)) (fun _ h9 => h9) hm_floods d_Mo_isCalm_13 ?_
  refine lv_iload_n hx hb d_Mo_isCalm_16 rfl (lv_at hl 0 rfl) ?_
  refine lv_aload_n hx hb d_Mo_isCalm_17 rfl (lv_at hl 1 rfl) ?_
  refine lv_iload_n hx hb d_Mo_isCalm_18 rfl (lv_at hl 0 rfl) ?_
  have hPc := hP.sub (ws' := [(oM, .inr (12, fm))]) [0] rfl
  have hDc := hD.sub (ws' := [(oM, .inr (12, fm))]) [0] (by decide) rfl
  have hFc := pu_free hS hA
  refine va_calll (va_runV (C := R_Mo) (As := [.int 4]) (rest := [.int 4, .ref am_floods]) ⟨hx, hb, hml, hown, hts⟩ (c_Mo_flood l dC dI cI cB cZ cJ 4 oM fm hm_things hm_pipes H.size) (cwV 1 hts (tb_V mw_2388 mw_2390 sl_149 mw_18 mw_2391) rfl rfl rfl ⟨rfl, by decide +kernel, by decide +kernel, by decide +kernel⟩ ⟨(Nat.le_of_ble_eq_true rfl), (Nat.le_of_ble_eq_true rfl)⟩) ⟨pw_blind, va_recv (q := (R_Mo, F_Mo, 87)) hK.1 hP (ci := 12) (q0 := 0) rfl rfl, pw_pre hPc hK hDc⟩ rfl rfl hl.1 rfl (lv_room (Nat.le_of_ble_eq_true rfl)) d_Mo_isCalm_19 ⟨(Nat.le_of_ble_eq_true rfl), (Nat.le_of_ble_eq_true rfl)⟩) hS (fun q _ h => hFc q h) hFc (fun r u t H locs ht hvm hw hB hz1 hk1 hS => ?_)
  have hP := pu_kept hP hk1
  obtain rfl : r = 0 := hw
  refine va_last hx hb hK.1 hP hD hS 1 3 rfl rfl (vp_in_iff.mpr (by decide)) d_Mo_isCalm_22 (fun H locs hP hD hS => ?_)
  have hP : va_P (dC, dI) classes [(oM, .inr (12, fm)), (am_floods, .inl (cJ, 16, .inr (.inl ((vp_updL f22_3 (4 : Int32).toNatClampNeg 0)))))] H := hP
  have hD : va_D A [(oM, .inr (12, fm)), (am_floods, .inl (cJ, 16, .inr (.inl ((vp_updL f22_3 (4 : Int32).toNatClampNeg 0)))))] := hD
  generalize (vp_updL f22_3 (4 : Int32).toNatClampNeg 0) = f22_4 at hP hD
  refine lv_iinc (k := 0) (v := 5) hx hb d_Mo_isCalm_23 hl rfl (by first | rfl | decide | exact nI_1 i) (by decide) rfl (fun ls hl => ?_)
  have hl : lv_has ls 5 [(2, .int 5), (0, .ref oM), (1, .int fa)] := hl
  refine lv_goto (tgt := 6) hx hb d_Mo_isCalm_26 (by decide) ?_
  refine lv_iload_n hx hb d_Mo_isCalm_6 rfl (lv_at hl 0 rfl) ?_
  refine lv_bipush (v := 16) hx hb d_Mo_isCalm_7 (by decide) ?_
  refine lv_icmp_ge (tgt := 29) hx hb d_Mo_isCalm_9 (by decide) (fun h => absurd h (by decide)) (fun _ => ?_)
  refine lv_aload_n hx hb d_Mo_isCalm_12 rfl (lv_at hl 1 rfl) ?_
  refine va_get (D := (dC, dI)) (ci := 12) (v := .ref am_floods) (C := R_Mo) (T := F_Mo) (N := 87) hx hb hts (fun w h => List.mem_cons_of_mem _ (in_Mo w h)) hown hK.1 hP 0 rfl rfl 44 (by decide) (hts _ (List.mem_cons_of_mem _ mw_1830)) (fun _ h9 => h9) hm_floods d_Mo_isCalm_13 ?_
  refine lv_iload_n hx hb d_Mo_isCalm_16 rfl (lv_at hl 0 rfl) ?_
  refine lv_aload_n hx hb d_Mo_isCalm_17 rfl (lv_at hl 1 rfl) ?_
  refine lv_iload_n hx hb d_Mo_isCalm_18 rfl (lv_at hl 0 rfl) ?_
  have hPc := hP.sub (ws' := [(oM, .inr (12, fm))]) [0] rfl
  have hDc := hD.sub (ws' := [(oM, .inr (12, fm))]) [0] (by decide) rfl
  have hFc := pu_free hS hA
  refine va_calll (va_runV (C := R_Mo) (As := [.int 5]) (rest := [.int 5, .ref am_floods]) ⟨hx, hb, hml, hown, hts⟩ (c_Mo_flood l dC dI cI cB cZ cJ 5 oM fm hm_things hm_pipes H.size) (cwV 1 hts (tb_V mw_2388 mw_2390 sl_149 mw_18 mw_2391) rfl rfl rfl ⟨rfl, by decide +kernel, by decide +kernel, by decide +kernel⟩ ⟨(Nat.le_of_ble_eq_true rfl), (Nat.le_of_ble_eq_true rfl)⟩) ⟨pw_blind, va_recv (q := (R_Mo, F_Mo, 87)) hK.1 hP (ci := 12) (q0 := 0) rfl rfl, pw_pre hPc hK hDc⟩ rfl rfl hl.1 rfl (lv_room (Nat.le_of_ble_eq_true rfl)) d_Mo_isCalm_19 ⟨(Nat.le_of_ble_eq_true rfl), (Nat.le_of_ble_eq_true rfl)⟩) hS (fun q _ h => hFc q h) hFc (fun r u t H locs ht hvm hw hB hz1 hk1 hS => ?_)
  have hP := pu_kept hP hk1
  obtain rfl : r = 0 := hw
  refine va_last hx hb hK.1 hP hD hS 1 3 rfl rfl (vp_in_iff.mpr (by decide)) d_Mo_isCalm_22 (fun H locs hP hD hS => ?_)
  have hP : va_P (dC, dI) classes [(oM, .inr (12, fm)), (am_floods, .inl (cJ, 16, .inr (.inl ((vp_updL f22_4 (5 : Int32).toNatClampNeg 0)))))] H := hP
  have hD : va_D A [(oM, .inr (12, fm)), (am_floods, .inl (cJ, 16, .inr (.inl ((vp_updL f22_4 (5 : Int32).toNatClampNeg 0)))))] := hD
  generalize (vp_updL f22_4 (5 : Int32).toNatClampNeg 0) = f22_5 at hP hD
  refine lv_iinc (k := 0) (v := 6) hx hb d_Mo_isCalm_23 hl rfl (by first | rfl | decide | exact nI_1 i) (by decide) rfl (fun ls hl => ?_)
  have hl : lv_has ls 5 [(2, .int 6), (0, .ref oM), (1, .int fa)] := hl
  refine lv_goto (tgt := 6) hx hb d_Mo_isCalm_26 (by decide) ?_
  refine lv_iload_n hx hb d_Mo_isCalm_6 rfl (lv_at hl 0 rfl) ?_
  refine lv_bipush (v := 16) hx hb d_Mo_isCalm_7 (by decide) ?_
  refine lv_icmp_ge (tgt := 29) hx hb d_Mo_isCalm_9 (by decide) (fun h => absurd h (by decide)) (fun _ => ?_)
  refine lv_aload_n hx hb d_Mo_isCalm_12 rfl (lv_at hl 1 rfl) ?_
  refine va_get (D := (dC, dI)) (ci := 12) (v := .ref am_floods) (C := R_Mo) (T := F_Mo) (N := 87) hx hb hts (fun w h => List.mem_cons_of_mem _ (in_Mo w h)) hown hK.1 hP 0 rfl rfl 44 (by decide) (hts _ (List.mem_cons_of_mem _ mw_1830)) (fun _ h9 => h9) hm_floods d_Mo_isCalm_13 ?_
  refine lv_iload_n hx hb d_Mo_isCalm_16 rfl (lv_at hl 0 rfl) ?_
  refine lv_aload_n hx hb d_Mo_isCalm_17 rfl (lv_at hl 1 rfl) ?_
  refine lv_iload_n hx hb d_Mo_isCalm_18 rfl (lv_at hl 0 rfl) ?_
  have hPc := hP.sub (ws' := [(oM, .inr (12, fm))]) [0] rfl
  have hDc := hD.sub (ws' := [(oM, .inr (12, fm))]) [0] (by decide) rfl
  have hFc := pu_free hS hA
  refine va_calll (va_runV (C := R_Mo) (As := [.int 6]) (rest := [.int 6, .ref am_floods]) ⟨hx, hb, hml, hown, hts⟩ (c_Mo_flood l dC dI cI cB cZ cJ 6 oM fm hm_things hm_pipes H.size) (cwV 1 hts (tb_V mw_2388 mw_2390 sl_149 mw_18 mw_2391) rfl rfl rfl ⟨rfl, by decide +kernel, by decide +kernel, by decide +kernel⟩ ⟨(Nat.le_of_ble_eq_true rfl), (Nat.le_of_ble_eq_true rfl)⟩) ⟨pw_blind, va_recv (q := (R_Mo, F_Mo, 87)) hK.1 hP (ci := 12) (q0 := 0) rfl rfl, pw_pre hPc hK hDc⟩ rfl rfl hl.1 rfl (lv_room (Nat.le_of_ble_eq_true rfl)) d_Mo_isCalm_19 ⟨(Nat.le_of_ble_eq_true rfl), (Nat.le_of_ble_eq_true rfl)⟩) hS (fun q _ h => hFc q h) hFc (fun r u t H locs ht hvm hw hB hz1 hk1 hS => ?_)
  have hP := pu_kept hP hk1
  obtain rfl : r = 0 := hw
  refine va_last hx hb hK.1 hP hD hS 1 3 rfl rfl (vp_in_iff.mpr (by decide)) d_Mo_isCalm_22 (fun H locs hP hD hS => ?_)
  have hP : va_P (dC, dI) classes [(oM, .inr (12, fm)), (am_floods, .inl (cJ, 16, .inr (.inl ((vp_updL f22_5 (6 : Int32).toNatClampNeg 0)))))] H := hP
  have hD : va_D A [(oM, .inr (12, fm)), (am_floods, .inl (cJ, 16, .inr (.inl ((vp_updL f22_5 (6 : Int32).toNatClampNeg 0)))))] := hD
  generalize (vp_updL f22_5 (6 : Int32).toNatClampNeg 0) = f22_6 at hP hD
  refine lv_iinc (k := 0) (v := 7) hx hb d_Mo_isCalm_23 hl rfl (by first | rfl | decide | exact nI_1 i) (by decide) rfl (fun ls hl => ?_)
  have hl : lv_has ls 5 [(2, .int 7), (0, .ref oM), (1, .int fa)] := hl
  refine lv_goto (tgt := 6) hx hb d_Mo_isCalm_26 (by decide) ?_
  refine lv_iload_n hx hb d_Mo_isCalm_6 rfl (lv_at hl 0 rfl) ?_
  refine lv_bipush (v := 16) hx hb d_Mo_isCalm_7 (by decide) ?_
  refine lv_icmp_ge (tgt := 29) hx hb d_Mo_isCalm_9 (by decide) (fun h => absurd h (by decide)) (fun _ => ?_)
  refine lv_aload_n hx hb d_Mo_isCalm_12 rfl (lv_at hl 1 rfl) ?_
  refine va_get (D := (dC, dI)) (ci := 12) (v := .ref am_floods) (C := R_Mo) (T := F_Mo) (N := 87) hx hb hts (fun w h => List.mem_cons_of_mem _ (in_Mo w h)) hown hK.1 hP 0 rfl rfl 44 (by decide) (hts _ (List.mem_cons_of_mem _ mw_1830)) (fun _ h9 => h9) hm_floods d_Mo_isCalm_13 ?_
  refine lv_iload_n hx hb d_Mo_isCalm_16 rfl (lv_at hl 0 rfl) ?_
  refine lv_aload_n hx hb d_Mo_isCalm_17 rfl (lv_at hl 1 rfl) ?_
  refine lv_iload_n hx hb d_Mo_isCalm_18 rfl (lv_at hl 0 rfl) ?_
  have hPc := hP.sub (ws' := [(oM, .inr (12, fm))]) [0] rfl
  have hDc := hD.sub (ws' := [(oM, .inr (12, fm))]) [0] (by decide) rfl
  have hFc := pu_free hS hA
  refine va_calll (va_runV (C := R_Mo) (As := [.int 7]) (rest := [.int 7, .ref am_floods]) ⟨hx, hb, hml, hown, hts⟩ (c_Mo_flood l dC dI cI cB cZ cJ 7 oM fm hm_things hm_pipes H.size) (cwV 1 hts (tb_V mw_2388 mw_2390 sl_149 mw_18 mw_2391) rfl rfl rfl ⟨rfl, by decide +kernel, by decide +kernel, by decide +kernel⟩ ⟨(Nat.le_of_ble_eq_true rfl), (Nat.le_of_ble_eq_true rfl)⟩) ⟨pw_blind, va_recv (q := (R_Mo, F_Mo, 87)) hK.1 hP (ci := 12) (q0 := 0) rfl rfl, pw_pre hPc hK hDc⟩ rfl rfl hl.1 rfl (lv_room (Nat.le_of_ble_eq_true rfl)) d_Mo_isCalm_19 ⟨(Nat.le_of_ble_eq_true rfl), (Nat.le_of_ble_eq_true rfl)⟩) hS (fun q _ h => hFc q h) hFc (fun r u t H locs ht hvm hw hB hz1 hk1 hS => ?_)
  have hP := pu_kept hP hk1
  obtain rfl : r = 0 := hw
  refine va_last hx hb hK.1 hP hD hS 1 3 rfl rfl (vp_in_iff.mpr (by decide)) d_Mo_isCalm_22 (fun H locs hP hD hS => ?_)
  have hP : va_P (dC, dI) classes [(oM, .inr (12, fm)), (am_floods, .inl (cJ, 16, .inr (.inl ((vp_updL f22_6 (7 : Int32).toNatClampNeg 0)))))] H := hP
  have hD : va_D A [(oM, .inr (12, fm)), (am_floods, .inl (cJ, 16, .inr (.inl ((vp_updL f22_6 (7 : Int32).toNatClampNeg 0)))))] := hD
  generalize (vp_updL f22_6 (7 : Int32).toNatClampNeg 0) = f22_7 at hP hD
  refine lv_iinc (k := 0) (v := 8) hx hb d_Mo_isCalm_23 hl rfl (by first | rfl | decide | exact nI_1 i) (by decide) rfl (fun ls hl => ?_)
  have hl : lv_has ls 5 [(2, .int 8), (0, .ref oM), (1, .int fa)] := hl
  refine lv_goto (tgt := 6) hx hb d_Mo_isCalm_26 (by decide) ?_
  refine lv_iload_n hx hb d_Mo_isCalm_6 rfl (lv_at hl 0 rfl) ?_
  refine lv_bipush (v := 16) hx hb d_Mo_isCalm_7 (by decide) ?_
  refine lv_icmp_ge (tgt := 29) hx hb d_Mo_isCalm_9 (by decide) (fun h => absurd h (by decide)) (fun _ => ?_)
  refine lv_aload_n hx hb d_Mo_isCalm_12 rfl (lv_at hl 1 rfl) ?_
  refine va_get (D := (dC, dI)) (ci := 12) (v := .ref am_floods) (C := R_Mo) (T := F_Mo) (N := 87) hx hb hts (fun w h => List.mem_cons_of_mem _ (in_Mo w h)) hown hK.1 hP 0 rfl rfl 44 (by decide) (hts _ (List.mem_cons_of_mem _ mw_1830)) (fun _ h9 => h9) hm_floods d_Mo_isCalm_13 ?_
  refine lv_iload_n hx hb d_Mo_isCalm_16 rfl (lv_at hl 0 rfl) ?_
  refine lv_aload_n hx hb d_Mo_isCalm_17 rfl (lv_at hl 1 rfl) ?_
  refine lv_iload_n hx hb d_Mo_isCalm_18 rfl (lv_at hl 0 rfl) ?_
  have hPc := hP.sub (ws' := [(oM, .inr (12, fm))]) [0] rfl
  have hDc := hD.sub (ws' := [(oM, .inr (12, fm))]) [0] (by decide) rfl
  have hFc := pu_free hS hA
  refine va_calll (va_runV (C := R_Mo) (As := [.int 8]) (rest := [.int 8, .ref am_floods]) ⟨hx, hb, hml, hown, hts⟩ (c_Mo_flood l dC dI cI cB cZ cJ 8 oM fm hm_things hm_pipes H.size) (cwV 1 hts (tb_V mw_2388 mw_2390 sl_149 mw_18 mw_2391) rfl rfl rfl ⟨rfl, by decide +kernel, by decide +kernel, by decide +kernel⟩ ⟨(Nat.le_of_ble_eq_true rfl), (Nat.le_of_ble_eq_true rfl)⟩) ⟨pw_blind, va_recv (q := (R_Mo, F_Mo, 87)) hK.1 hP (ci := 12) (q0 := 0) rfl rfl, pw_pre hPc hK hDc⟩ rfl rfl hl.1 rfl (lv_room (Nat.le_of_ble_eq_true rfl)) d_Mo_isCalm_19 ⟨(Nat.le_of_ble_eq_true rfl), (Nat.le_of_ble_eq_true rfl)⟩) hS (fun q _ h => hFc q h) hFc (fun r u t H locs ht hvm hw hB hz1 hk1 hS => ?_)
  have hP := pu_kept hP hk1
  obtain rfl : r = 0 := hw
  refine va_last hx hb hK.1 hP hD hS 1 3 rfl rfl (vp_in_iff.mpr (by decide)) d_Mo_isCalm_22 (fun H locs hP hD hS => ?_)
  have hP : va_P (dC, dI) classes [(oM, .inr (12, fm)), (am_floods, .inl (cJ, 16, .inr (.inl ((vp_updL f22_7 (8 : Int32).toNatClampNeg 0)))))] H := hP
  have hD : va_D A [(oM, .inr (12, fm)), (am_floods, .inl (cJ, 16, .inr (.inl ((vp_updL f22_7 (8 : Int32).toNatClampNeg 0)))))] := hD
  generalize (vp_updL f22_7 (8 : Int32).toNatClampNeg 0) = f22_8 at hP hD
  refine lv_iinc (k := 0) (v := 9) hx hb d_Mo_isCalm_23 hl rfl (by first | rfl | decide | exact nI_1 i) (by decide) rfl (fun ls hl => ?_)
  have hl : lv_has ls 5 [(2, .int 9), (0, .ref oM), (1, .int fa)] := hl
  refine lv_goto (tgt := 6) hx hb d_Mo_isCalm_26 (by decide) ?_
  refine lv_iload_n hx hb d_Mo_isCalm_6 rfl (lv_at hl 0 rfl) ?_
  refine lv_bipush (v := 16) hx hb d_Mo_isCalm_7 (by decide) ?_
  refine lv_icmp_ge (tgt := 29) hx hb d_Mo_isCalm_9 (by decide) (fun h => absurd h (by decide)) (fun _ => ?_)
  refine lv_aload_n hx hb d_Mo_isCalm_12 rfl (lv_at hl 1 rfl) ?_
  refine va_get (D := (dC, dI)) (ci := 12) (v := .ref am_floods) (C := R_Mo) (T := F_Mo) (N := 87) hx hb hts (fun w h => List.mem_cons_of_mem _ (in_Mo w h)) hown hK.1 hP 0 rfl rfl 44 (by decide) (hts _ (List.mem_cons_of_mem _ mw_1830)) (fun _ h9 => h9) hm_floods d_Mo_isCalm_13 ?_
  refine lv_iload_n hx hb d_Mo_isCalm_16 rfl (lv_at hl 0 rfl) ?_
  refine lv_aload_n hx hb d_Mo_isCalm_17 rfl (lv_at hl 1 rfl) ?_
  refine lv_iload_n hx hb d_Mo_isCalm_18 rfl (lv_at hl 0 rfl) ?_
  have hPc := hP.sub (ws' := [(oM, .inr (12, fm))]) [0] rfl
  have hDc := hD.sub (ws' := [(oM, .inr (12, fm))]) [0] (by decide) rfl
  have hFc := pu_free hS hA
  refine va_calll (va_runV (C := R_Mo) (As := [.int 9]) (rest := [.int 9, .ref am_floods]) ⟨hx, hb, hml, hown, hts⟩ (c_Mo_flood l dC dI cI cB cZ cJ 9 oM fm hm_things hm_pipes H.size) (cwV 1 hts (tb_V mw_2388 mw_2390 sl_149 mw_18 mw_2391) rfl rfl rfl ⟨rfl, by decide +kernel, by decide +kernel, by decide +kernel⟩ ⟨(Nat.le_of_ble_eq_true rfl), (Nat.le_of_ble_eq_true rfl)⟩) ⟨pw_blind, va_recv (q := (R_Mo, F_Mo, 87)) hK.1 hP (ci := 12) (q0 := 0) rfl rfl, pw_pre hPc hK hDc⟩ rfl rfl hl.1 rfl (lv_room (Nat.le_of_ble_eq_true rfl)) d_Mo_isCalm_19 ⟨(Nat.le_of_ble_eq_true rfl), (Nat.le_of_ble_eq_true rfl)⟩) hS (fun q _ h => hFc q h) hFc (fun r u t H locs ht hvm hw hB hz1 hk1 hS => ?_)
  have hP := pu_kept hP hk1
  obtain rfl : r = 0 := hw
  refine va_last hx hb hK.1 hP hD hS 1 3 rfl rfl (vp_in_iff.mpr (by decide)) d_Mo_isCalm_22 (fun H locs hP hD hS => ?_)
  have hP : va_P (dC, dI) classes [(oM, .inr (12, fm)), (am_floods, .inl (cJ, 16, .inr (.inl ((vp_updL f22_8 (9 : Int32).toNatClampNeg 0)))))] H := hP
  have hD : va_D A [(oM, .inr (12, fm)), (am_floods, .inl (cJ, 16, .inr (.inl ((vp_updL f22_8 (9 : Int32).toNatClampNeg 0)))))] := hD
  generalize (vp_updL f22_8 (9 : Int32).toNatClampNeg 0) = f22_9 at hP hD
  refine lv_iinc (k := 0) (v := 10) hx hb d_Mo_isCalm_23 hl rfl (by first | rfl | decide | exact nI_1 i) (by decide) rfl (fun ls hl => ?_)
  have hl : lv_has ls 5 [(2, .int 10), (0, .ref oM), (1, .int fa)] := hl
  refine lv_goto (tgt := 6) hx hb d_Mo_isCalm_26 (by decide) ?_
  refine lv_iload_n hx hb d_Mo_isCalm_6 rfl (lv_at hl 0 rfl) ?_
  refine lv_bipush (v := 16) hx hb d_Mo_isCalm_7 (by decide) ?_
  refine lv_icmp_ge (tgt := 29) hx hb d_Mo_isCalm_9 (by decide) (fun h => absurd h (by decide)) (fun _ => ?_)
  refine lv_aload_n hx hb d_Mo_isCalm_12 rfl (lv_at hl 1 rfl) ?_
  refine va_get (D := (dC, dI)) (ci := 12) (v := .ref am_floods) (C := R_Mo) (T := F_Mo) (N := 87) hx hb hts (fun w h => List.mem_cons_of_mem _ (in_Mo w h)) hown hK.1 hP 0 rfl rfl 44 (by decide) (hts _ (List.mem_cons_of_mem _ mw_1830)) (fun _ h9 => h9) hm_floods d_Mo_isCalm_13 ?_
  refine lv_iload_n hx hb d_Mo_isCalm_16 rfl (lv_at hl 0 rfl) ?_
  refine lv_aload_n hx hb d_Mo_isCalm_17 rfl (lv_at hl 1 rfl) ?_
  refine lv_iload_n hx hb d_Mo_isCalm_18 rfl (lv_at hl 0 rfl) ?_
  have hPc := hP.sub (ws' := [(oM, .inr (12, fm))]) [0] rfl
  have hDc := hD.sub (ws' := [(oM, .inr (12, fm))]) [0] (by decide) rfl
  have hFc := pu_free hS hA
  refine va_calll (va_runV (C := R_Mo) (As := [.int 10]) (rest := [.int 10, .ref am_floods]) ⟨hx, hb, hml, hown, hts⟩ (c_Mo_flood l dC dI cI cB cZ cJ 10 oM fm hm_things hm_pipes H.size) (cwV 1 hts (tb_V mw_2388 mw_2390 sl_149 mw_18 mw_2391) rfl rfl rfl ⟨rfl, by decide +kernel, by decide +kernel, by decide +kernel⟩ ⟨(Nat.le_of_ble_eq_true rfl), (Nat.le_of_ble_eq_true rfl)⟩) ⟨pw_blind, va_recv (q := (R_Mo, F_Mo, 87)) hK.1 hP (ci := 12) (q0 := 0) rfl rfl, pw_pre hPc hK hDc⟩ rfl rfl hl.1 rfl (lv_room (Nat.le_of_ble_eq_true rfl)) d_Mo_isCalm_19 ⟨(Nat.le_of_ble_eq_true rfl), (Nat.le_of_ble_eq_true rfl)⟩) hS (fun q _ h => hFc q h) hFc (fun r u t H locs ht hvm hw hB hz1 hk1 hS => ?_)
  have hP := pu_kept hP hk1
  obtain rfl : r = 0 := hw
  refine va_last hx hb hK.1 hP hD hS 1 3 rfl rfl (vp_in_iff.mpr (by decide)) d_Mo_isCalm_22 (fun H locs hP hD hS => ?_)
  have hP : va_P (dC, dI) classes [(oM, .inr (12, fm)), (am_floods, .inl (cJ, 16, .inr (.inl ((vp_updL f22_9 (10 : Int32).toNatClampNeg 0)))))] H := hP
  have hD : va_D A [(oM, .inr (12, fm)), (am_floods, .inl (cJ, 16, .inr (.inl ((vp_updL f22_9 (10 : Int32).toNatClampNeg 0)))))] := hD
  generalize (vp_updL f22_9 (10 : Int32).toNatClampNeg 0) = f22_10 at hP hD
  refine lv_iinc (k := 0) (v := 11) hx hb d_Mo_isCalm_23 hl rfl (by first | rfl | decide | exact nI_1 i) (by decide) rfl (fun ls hl => ?_)
  have hl : lv_has ls 5 [(2, .int 11), (0, .ref oM), (1, .int fa)] := hl
  refine lv_goto (tgt := 6) hx hb d_Mo_isCalm_26 (by decide) ?_
  refine lv_iload_n hx hb d_Mo_isCalm_6 rfl (lv_at hl 0 rfl) ?_
  refine lv_bipush (v := 16) hx hb d_Mo_isCalm_7 (by decide) ?_
  refine lv_icmp_ge (tgt := 29) hx hb d_Mo_isCalm_9 (by decide) (fun h => absurd h (by decide)) (fun _ => ?_)
  refine lv_aload_n hx hb d_Mo_isCalm_12 rfl (lv_at hl 1 rfl) ?_
  refine va_get (D := (dC, dI)) (ci := 12) (v := .ref am_floods) (C := R_Mo) (T := F_Mo) (N := 87) hx hb hts (fun w h => List.mem_cons_of_mem _ (in_Mo w h)) hown hK.1 hP 0 rfl rfl 44 (by decide) (hts _ (List.mem_cons_of_mem _ mw_1830)) (fun _ h9 => h9) hm_floods d_Mo_isCalm_13 ?_
  refine lv_iload_n hx hb d_Mo_isCalm_16 rfl (lv_at hl 0 rfl) ?_
  refine lv_aload_n hx hb d_Mo_isCalm_17 rfl (lv_at hl 1 rfl) ?_
  refine lv_iload_n hx hb d_Mo_isCalm_18 rfl (lv_at hl 0 rfl) ?_
  have hPc := hP.sub (ws' := [(oM, .inr (12, fm))]) [0] rfl
  have hDc := hD.sub (ws' := [(oM, .inr (12, fm))]) [0] (by decide) rfl
  have hFc := pu_free hS hA
  refine va_calll (va_runV (C := R_Mo) (As := [.int 11]) (rest := [.int 11, .ref am_floods]) ⟨hx, hb, hml, hown, hts⟩ (c_Mo_flood l dC dI cI cB cZ cJ 11 oM fm hm_things hm_pipes H.size) (cwV 1 hts (tb_V mw_2388 mw_2390 sl_149 mw_18 mw_2391) rfl rfl rfl ⟨rfl, by decide +kernel, by decide +kernel, by decide +kernel⟩ ⟨(Nat.le_of_ble_eq_true rfl), (Nat.le_of_ble_eq_true rfl)⟩) ⟨pw_blind, va_recv (q := (R_Mo, F_Mo, 87)) hK.1 hP (ci := 12) (q0 := 0) rfl rfl, pw_pre hPc hK hDc⟩ rfl rfl hl.1 rfl (lv_room (Nat.le_of_ble_eq_true rfl)) d_Mo_isCalm_19 ⟨(Nat.le_of_ble_eq_true rfl), (Nat.le_of_ble_eq_true rfl)⟩) hS (fun q _ h => hFc q h) hFc (fun r u t H locs ht hvm hw hB hz1 hk1 hS => ?_)
  have hP := pu_kept hP hk1
  obtain rfl : r = 0 := hw
  refine va_last hx hb hK.1 hP hD hS 1 3 rfl rfl (vp_in_iff.mpr (by decide)) d_Mo_isCalm_22 (fun H locs hP hD hS => ?_)
  have hP : va_P (dC, dI) classes [(oM, .inr (12, fm)), (am_floods, .inl (cJ, 16, .inr (.inl ((vp_updL f22_10 (11 : Int32).toNatClampNeg 0)))))] H := hP
  have hD : va_D A [(oM, .inr (12, fm)), (am_floods, .inl (cJ, 16, .inr (.inl ((vp_updL f22_10 (11 : Int32).toNatClampNeg 0)))))] := hD
  generalize (vp_updL f22_10 (11 : Int32).toNatClampNeg 0) = f22_11 at hP hD
  refine lv_iinc (k := 0) (v := 12) hx hb d_Mo_isCalm_23 hl rfl (by first | rfl | decide | exact nI_1 i) (by decide) rfl (fun ls hl => ?_)
  have hl : lv_has ls 5 [(2, .int 12), (0, .ref oM), (1, .int fa)] := hl
  refine lv_goto (tgt := 6) hx hb d_Mo_isCalm_26 (by decide) ?_
  refine lv_iload_n hx hb d_Mo_isCalm_6 rfl (lv_at hl 0 rfl) ?_
  refine lv_bipush (v := 16) hx hb d_Mo_isCalm_7 (by decide) ?_
  refine lv_icmp_ge (tgt := 29) hx hb d_Mo_isCalm_9 (by decide) (fun h => absurd h (by decide)) (fun _ => ?_)
  refine lv_aload_n hx hb d_Mo_isCalm_12 rfl (lv_at hl 1 rfl) ?_
  refine va_get (D := (dC, dI)) (ci := 12) (v := .ref am_floods) (C := R_Mo) (T := F_Mo) (N := 87) hx hb hts (fun w h => List.mem_cons_of_mem _ (in_Mo w h)) hown hK.1 hP 0 rfl rfl 44 (by decide) (hts _ (List.mem_cons_of_mem _ mw_1830)) (fun _ h9 => h9) hm_floods d_Mo_isCalm_13 ?_
  refine lv_iload_n hx hb d_Mo_isCalm_16 rfl (lv_at hl 0 rfl) ?_
  refine lv_aload_n hx hb d_Mo_isCalm_17 rfl (lv_at hl 1 rfl) ?_
  refine lv_iload_n hx hb d_Mo_isCalm_18 rfl (lv_at hl 0 rfl) ?_
  have hPc := hP.sub (ws' := [(oM, .inr (12, fm))]) [0] rfl
  have hDc := hD.sub (ws' := [(oM, .inr (12, fm))]) [0] (by decide) rfl
  have hFc := pu_free hS hA
  refine va_calll (va_runV (C := R_Mo) (As := [.int 12]) (rest := [.int 12, .ref am_floods]) ⟨hx, hb, hml, hown, hts⟩ (c_Mo_flood l dC dI cI cB cZ cJ 12 oM fm hm_things hm_pipes H.size) (cwV 1 hts (tb_V mw_2388 mw_2390 sl_149 mw_18 mw_2391) rfl rfl rfl ⟨rfl, by decide +kernel, by decide +kernel, by decide +kernel⟩ ⟨(Nat.le_of_ble_eq_true rfl), (Nat.le_of_ble_eq_true rfl)⟩) ⟨pw_blind, va_recv (q := (R_Mo, F_Mo, 87)) hK.1 hP (ci := 12) (q0 := 0) rfl rfl, pw_pre hPc hK hDc⟩ rfl rfl hl.1 rfl (lv_room (Nat.le_of_ble_eq_true rfl)) d_Mo_isCalm_19 ⟨(Nat.le_of_ble_eq_true rfl), (Nat.le_of_ble_eq_true rfl)⟩) hS (fun q _ h => hFc q h) hFc (fun r u t H locs ht hvm hw hB hz1 hk1 hS => ?_)
  have hP := pu_kept hP hk1
  obtain rfl : r = 0 := hw
  refine va_last hx hb hK.1 hP hD hS 1 3 rfl rfl (vp_in_iff.mpr (by decide)) d_Mo_isCalm_22 (fun H locs hP hD hS => ?_)
  have hP : va_P (dC, dI) classes [(oM, .inr (12, fm)), (am_floods, .inl (cJ, 16, .inr (.inl ((vp_updL f22_11 (12 : Int32).toNatClampNeg 0)))))] H := hP
  have hD : va_D A [(oM, .inr (12, fm)), (am_floods, .inl (cJ, 16, .inr (.inl ((vp_updL f22_11 (12 : Int32).toNatClampNeg 0)))))] := hD
  generalize (vp_updL f22_11 (12 : Int32).toNatClampNeg 0) = f22_12 at hP hD
  refine lv_iinc (k := 0) (v := 13) hx hb d_Mo_isCalm_23 hl rfl (by first | rfl | decide | exact nI_1 i) (by decide) rfl (fun ls hl => ?_)
  have hl : lv_has ls 5 [(2, .int 13), (0, .ref oM), (1, .int fa)] := hl
  refine lv_goto (tgt := 6) hx hb d_Mo_isCalm_26 (by decide) ?_
  refine lv_iload_n hx hb d_Mo_isCalm_6 rfl (lv_at hl 0 rfl) ?_
  refine lv_bipush (v := 16) hx hb d_Mo_isCalm_7 (by decide) ?_
  refine lv_icmp_ge (tgt := 29) hx hb d_Mo_isCalm_9 (by decide) (fun h => absurd h (by decide)) (fun _ => ?_)
  refine lv_aload_n hx hb d_Mo_isCalm_12 rfl (lv_at hl 1 rfl) ?_
  refine va_get (D := (dC, dI)) (ci := 12) (v := .ref am_floods) (C := R_Mo) (T := F_Mo) (N := 87) hx hb hts (fun w h => List.mem_cons_of_mem _ (in_Mo w h)) hown hK.1 hP 0 rfl rfl 44 (by decide) (hts _ (List.mem_cons_of_mem _ mw_1830)) (fun _ h9 => h9) hm_floods d_Mo_isCalm_13 ?_
  refine lv_iload_n hx hb d_Mo_isCalm_16 rfl (lv_at hl 0 rfl) ?_
  refine lv_aload_n hx hb d_Mo_isCalm_17 rfl (lv_at hl 1 rfl) ?_
  refine lv_iload_n hx hb d_Mo_isCalm_18 rfl (lv_at hl 0 rfl) ?_
  have hPc := hP.sub (ws' := [(oM, .inr (12, fm))]) [0] rfl
  have hDc := hD.sub (ws' := [(oM, .inr (12, fm))]) [0] (by decide) rfl
  have hFc := pu_free hS hA
  refine va_calll (va_runV (C := R_Mo) (As := [.int 13]) (rest := [.int 13, .ref am_floods]) ⟨hx, hb, hml, hown, hts⟩ (c_Mo_flood l dC dI cI cB cZ cJ 13 oM fm hm_things hm_pipes H.size) (cwV 1 hts (tb_V mw_2388 mw_2390 sl_149 mw_18 mw_2391) rfl rfl rfl ⟨rfl, by decide +kernel, by decide +kernel, by decide +kernel⟩ ⟨(Nat.le_of_ble_eq_true rfl), (Nat.le_of_ble_eq_true rfl)⟩) ⟨pw_blind, va_recv (q := (R_Mo, F_Mo, 87)) hK.1 hP (ci := 12) (q0 := 0) rfl rfl, pw_pre hPc hK hDc⟩ rfl rfl hl.1 rfl (lv_room (Nat.le_of_ble_eq_true rfl)) d_Mo_isCalm_19 ⟨(Nat.le_of_ble_eq_true rfl), (Nat.le_of_ble_eq_true rfl)⟩) hS (fun q _ h => hFc q h) hFc (fun r u t H locs ht hvm hw hB hz1 hk1 hS => ?_)
  have hP := pu_kept hP hk1
  obtain rfl : r = 0 := hw
  refine va_last hx hb hK.1 hP hD hS 1 3 rfl rfl (vp_in_iff.mpr (by decide)) d_Mo_isCalm_22 (fun H locs hP hD hS => ?_)
  have hP : va_P (dC, dI) classes [(oM, .inr (12, fm)), (am_floods, .inl (cJ, 16, .inr (.inl ((vp_updL f22_12 (13 : Int32).toNatClampNeg 0)))))] H := hP
  have hD : va_D A [(oM, .inr (12, fm)), (am_floods, .inl (cJ, 16, .inr (.inl ((vp_updL f22_12 (13 : Int32).toNatClampNeg 0)))))] := hD
  generalize (vp_updL f22_12 (13 : Int32).toNatClampNeg 0) = f22_13 at hP hD
  refine lv_iinc (k := 0) (v := 14) hx hb d_Mo_isCalm_23 hl rfl (by first | rfl | decide | exact nI_1 i) (by decide) rfl (fun ls hl => ?_)
  have hl : lv_has ls 5 [(2, .int 14), (0, .ref oM), (1, .int fa)] := hl
  refine lv_goto (tgt := 6) hx hb d_Mo_isCalm_26 (by decide) ?_
  refine lv_iload_n hx hb d_Mo_isCalm_6 rfl (lv_at hl 0 rfl) ?_
  refine lv_bipush (v := 16) hx hb d_Mo_isCalm_7 (by decide) ?_
  refine lv_icmp_ge (tgt := 29) hx hb d_Mo_isCalm_9 (by decide) (fun h => absurd h (by decide)) (fun _ => ?_)
  refine lv_aload_n hx hb d_Mo_isCalm_12 rfl (lv_at hl 1 rfl) ?_
  refine va_get (D := (dC, dI)) (ci := 12) (v := .ref am_floods) (C := R_Mo) (T := F_Mo) (N := 87) hx hb hts (fun w h => List.mem_cons_of_mem _ (in_Mo w h)) hown hK.1 hP 0 rfl rfl 44 (by decide) (hts _ (List.mem_cons_of_mem _ mw_1830)) (fun _ h9 => h9) hm_floods d_Mo_isCalm_13 ?_
  refine lv_iload_n hx hb d_Mo_isCalm_16 rfl (lv_at hl 0 rfl) ?_
  refine lv_aload_n hx hb d_Mo_isCalm_17 rfl (lv_at hl 1 rfl) ?_
  refine lv_iload_n hx hb d_Mo_isCalm_18 rfl (lv_at hl 0 rfl) ?_
  have hPc := hP.sub (ws' := [(oM, .inr (12, fm))]) [0] rfl
  have hDc := hD.sub (ws' := [(oM, .inr (12, fm))]) [0] (by decide) rfl
  have hFc := pu_free hS hA
  refine va_calll (va_runV (C := R_Mo) (As := [.int 14]) (rest := [.int 14, .ref am_floods]) ⟨hx, hb, hml, hown, hts⟩ (c_Mo_flood l dC dI cI cB cZ cJ 14 oM fm hm_things hm_pipes H.size) (cwV 1 hts (tb_V mw_2388 mw_2390 sl_149 mw_18 mw_2391) rfl rfl rfl ⟨rfl, by decide +kernel, by decide +kernel, by decide +kernel⟩ ⟨(Nat.le_of_ble_eq_true rfl), (Nat.le_of_ble_eq_true rfl)⟩) ⟨pw_blind, va_recv (q := (R_Mo, F_Mo, 87)) hK.1 hP (ci := 12) (q0 := 0) rfl rfl, pw_pre hPc hK hDc⟩ rfl rfl hl.1 rfl (lv_room (Nat.le_of_ble_eq_true rfl)) d_Mo_isCalm_19 ⟨(Nat.le_of_ble_eq_true rfl), (Nat.le_of_ble_eq_true rfl)⟩) hS (fun q _ h => hFc q h) hFc (fun r u t H locs ht hvm hw hB hz1 hk1 hS => ?_)
  have hP := pu_kept hP hk1
  obtain rfl : r = 0 := hw
  refine va_last hx hb hK.1 hP hD hS 1 3 rfl rfl (vp_in_iff.mpr (by decide)) d_Mo_isCalm_22 (fun H locs hP hD hS => ?_)
  have hP : va_P (dC, dI) classes [(oM, .inr (12, fm)), (am_floods, .inl (cJ, 16, .inr (.inl ((vp_updL f22_13 (14 : Int32).toNatClampNeg 0)))))] H := hP
  have hD : va_D A [(oM, .inr (12, fm)), (am_floods, .inl (cJ, 16, .inr (.inl ((vp_updL f22_13 (14 : Int32).toNatClampNeg 0)))))] := hD
  generalize (vp_updL f22_13 (14 : Int32).toNatClampNeg 0) = f22_14 at hP hD
  refine lv_iinc (k := 0) (v := 15) hx hb d_Mo_isCalm_23 hl rfl (by first | rfl | decide | exact nI_1 i) (by decide) rfl (fun ls hl => ?_)
  have hl : lv_has ls 5 [(2, .int 15), (0, .ref oM), (1, .int fa)] := hl
  refine lv_goto (tgt := 6) hx hb d_Mo_isCalm_26 (by decide) ?_
  refine lv_iload_n hx hb d_Mo_isCalm_6 rfl (lv_at hl 0 rfl) ?_
  refine lv_bipush (v := 16) hx hb d_Mo_isCalm_7 (by decide) ?_
  refine lv_icmp_ge (tgt := 29) hx hb d_Mo_isCalm_9 (by decide) (fun h => absurd h (by decide)) (fun _ => ?_)
  refine lv_aload_n hx hb d_Mo_isCalm_12 rfl (lv_at hl 1 rfl) ?_
  refine va_get (D := (dC, dI)) (ci := 12) (v := .ref am_floods) (C := R_Mo) (T := F_Mo) (N := 87) hx hb hts (fun w h => List.mem_cons_of_mem _ (in_Mo w h)) hown hK.1 hP 0 rfl rfl 44 (by decide) (hts _ (List.mem_cons_of_mem _ mw_1830)) (fun _ h9 => h9) hm_floods d_Mo_isCalm_13 ?_
  refine lv_iload_n hx hb d_Mo_isCalm_16 rfl (lv_at hl 0 rfl) ?_
  refine lv_aload_n hx hb d_Mo_isCalm_17 rfl (lv_at hl 1 rfl) ?_
  refine lv_iload_n hx hb d_Mo_isCalm_18 rfl (lv_at hl 0 rfl) ?_
  have hPc := hP.sub (ws' := [(oM, .inr (12, fm))]) [0] rfl
  have hDc := hD.sub (ws' := [(oM, .inr (12, fm))]) [0] (by decide) rfl
  have hFc := pu_free hS hA
  refine va_calll (va_runV (C := R_Mo) (As := [.int 15]) (rest := [.int 15, .ref am_floods]) ⟨hx, hb, hml, hown, hts⟩ (c_Mo_flood l dC dI cI cB cZ cJ 15 oM fm hm_things hm_pipes H.size) (cwV 1 hts (tb_V mw_2388 mw_2390 sl_149 mw_18 mw_2391) rfl rfl rfl ⟨rfl, by decide +kernel, by decide +kernel, by decide +kernel⟩ ⟨(Nat.le_of_ble_eq_true rfl), (Nat.le_of_ble_eq_true rfl)⟩) ⟨pw_blind, va_recv (q := (R_Mo, F_Mo, 87)) hK.1 hP (ci := 12) (q0 := 0) rfl rfl, pw_pre hPc hK hDc⟩ rfl rfl hl.1 rfl (lv_room (Nat.le_of_ble_eq_true rfl)) d_Mo_isCalm_19 ⟨(Nat.le_of_ble_eq_true rfl), (Nat.le_of_ble_eq_true rfl)⟩) hS (fun q _ h => hFc q h) hFc (fun r u t H locs ht hvm hw hB hz1 hk1 hS => ?_)
  have hP := pu_kept hP hk1
  obtain rfl : r = 0 := hw
  refine va_last hx hb hK.1 hP hD hS 1 3 rfl rfl (vp_in_iff.mpr (by decide)) d_Mo_isCalm_22 (fun H locs hP hD hS => ?_)
  have hP : va_P (dC, dI) classes [(oM, .inr (12, fm)), (am_floods, .inl (cJ, 16, .inr (.inl ((vp_updL f22_14 (15 : Int32).toNatClampNeg 0)))))] H := hP
  have hD : va_D A [(oM, .inr (12, fm)), (am_floods, .inl (cJ, 16, .inr (.inl ((vp_updL f22_14 (15 : Int32).toNatClampNeg 0)))))] := hD
  generalize (vp_updL f22_14 (15 : Int32).toNatClampNeg 0) = f22_15 at hP hD
  refine lv_iinc (k := 0) (v := 16) hx hb d_Mo_isCalm_23 hl rfl (by first | rfl | decide | exact nI_1 i) (by decide) rfl (fun ls hl => ?_)
  have hl : lv_has ls 5 [(2, .int 16), (0, .ref oM), (1, .int fa)] := hl
  refine lv_goto (tgt := 6) hx hb d_Mo_isCalm_26 (by decide) ?_
  refine lv_iload_n hx hb d_Mo_isCalm_6 rfl (lv_at hl 0 rfl) ?_
  refine lv_bipush (v := 16) hx hb d_Mo_isCalm_7 (by decide) ?_
  refine lv_icmp_ge (tgt := 29) hx hb d_Mo_isCalm_9 (by decide) (fun _ => ?_) (fun h => absurd (by decide) h)
  refine lv_iconst (v := 0) hx hb d_Mo_isCalm_29 (by decide) ?_
  refine lv_istore_n hx hb d_Mo_isCalm_30 rfl hl (by decide) rfl (fun ls hl => ?_)
  have hl : lv_has ls 5 [(2, .int 0), (0, .ref oM), (1, .int fa)] := hl
  refine lv_iload_n hx hb d_Mo_isCalm_31 rfl (lv_at hl 0 rfl) ?_
  refine lv_aload_n hx hb d_Mo_isCalm_32 rfl (lv_at hl 1 rfl) ?_
  refine va_get (D := (dC, dI)) (ci := 12) (v := .int 0) (C := R_Mo) (T := F_Mo) (N := 87) hx hb hts (fun w h => List.mem_cons_of_mem _ (in_Mo w h)) hown hK.1 hP 0 rfl rfl 4 (by decide) (hts _ (List.mem_cons_of_mem _ mw_1790)) (fun _ h9 => h9) hm_things d_Mo_isCalm_33 ?_
  refine lv_aload_n hx hb d_Mo_isCalm_36 rfl (lv_at hl 1 rfl) ?_
  refine va_get (D := (dC, dI)) (ci := 12) (v := .int 0) (C := R_Mo) (T := F_Mo) (N := 87) hx hb hts (fun w h => List.mem_cons_of_mem _ (in_Mo w h)) hown hK.1 hP 0 rfl rfl 11 (by decide) (hts _ (List.mem_cons_of_mem _ mw_1797)) (fun _ h9 => h9) hm_pipes d_Mo_isCalm_37 ?_
  refine lv_iadd hx hb d_Mo_isCalm_40 ?_
  refine lv_topi (fun x0 e0 => ?_)
  obtain rfl : x0 = 0 := e0.trans (by decide)
  refine lv_icmp_ge (tgt := 138) hx hb d_Mo_isCalm_41 (by decide) (fun _ => ?_) (fun h => absurd (by decide) h)
  refine lv_iconst (v := 1) hx hb d_Mo_isCalm_138 (by decide) ?_
  exact W.zret (v := 1) (ty := .boolean) hx hb hr (by decide) (fun t ht hW => ⟨⟨_, (), rfl, (rfl), ⟨f22_15, hm_things, hm_pipes, hm_floods, by rw [ht]; exact hP, hD⟩⟩, hS.F ht⟩) hS.2.2 d_Mo_isCalm_139
theorem d_Mo_isSafe_0 : decode b_Mo_isSafe 0 = .ok (.aload_n 0, 1) := by decide +kernel
theorem d_Mo_isSafe_1 : decode b_Mo_isSafe 1 = .ok (.iconst 1, 1) := by decide +kernel
theorem d_Mo_isSafe_2 : decode b_Mo_isSafe 2 = .ok (.invokevirtual 359, 3) := by decide +kernel
theorem d_Mo_isSafe_5 : decode b_Mo_isSafe 5 = .ok (.istore_n 1, 1) := by decide +kernel
theorem d_Mo_isSafe_6 : decode b_Mo_isSafe 6 = .ok (.iconst 0, 1) := by decide +kernel
theorem d_Mo_isSafe_7 : decode b_Mo_isSafe 7 = .ok (.istore_n 2, 1) := by decide +kernel
theorem d_Mo_isSafe_8 : decode b_Mo_isSafe 8 = .ok (.iload_n 2, 1) := by decide +kernel
theorem d_Mo_isSafe_9 : decode b_Mo_isSafe 9 = .ok (.aload_n 0, 1) := by decide +kernel
theorem d_Mo_isSafe_10 : decode b_Mo_isSafe 10 = .ok (.getfield 278, 3) := by decide +kernel
theorem d_Mo_isSafe_13 : decode b_Mo_isSafe 13 = .ok (.if_icmp .ge 101, 3) := by decide +kernel
theorem d_Mo_isSafe_114 : decode b_Mo_isSafe 114 = .ok (.iload_n 1, 1) := by decide +kernel
theorem d_Mo_isSafe_115 : decode b_Mo_isSafe 115 = .ok (.ireturn, 1) := by decide +kernel
set_option maxHeartbeats 4000000 in
set_option maxRecDepth 100000 in
theorem c_Mo_isSafe (l : Launch) (dC : Nat → ClassId) (dI : Nat → Nat → Nat) (cI cB cZ cJ : ClassId) (oM : Nat) (am_floods : Nat) (fm : List Value) (hm_things : fm[4]? = some (.int 0)) (hm_pipes : fm[11]? = some (.int 0)) (hm_floods : fm[44]? = some (.ref am_floods)) (sz : Nat) : Met l y_Mo_isSafe w_Mo_isSafe ({ frames := 2, cells := 0, slots := 0, locals := 51 }) (va_Pc [.ref oM] (PW dC dI cI cB cZ cJ [(oM, .inr (12, fm)), (am_floods, .inl (cJ, 16, .inr (.inl (fun _ => 0))))] sz)) (va_Qi (fun (r : Int32) (_ : Unit) => r = 1) (fun _ _ => True) (va_A [(oM, .inr (12, fm)), (am_floods, .inl (cJ, 16, .inr (.inl (fun _ => 0))))] sz)) 0 0 (va_A [(oM, .inr (12, fm)), (am_floods, .inl (cJ, 16, .inr (.inl (fun _ => 0))))] sz) := by
  refine Met.ofW (cc := b_Mo_isSafe) (maxL := 5) (ret := (some .boolean)) (by decide) rfl ?_
  intro p e s m args below meth c s₁ B hml hv
  obtain ⟨rfl, hsz, hP, hK, hD⟩ := hv
  have hx := B.exec
  have hb := B.bytes
  have hr := B.returns
  have hts := atoms_spec (ws := w_Mo_isSafe) B.pre
  have hown : s.vm.findClass R_Mo = some m.cls := findClass_of_methodNamed B.named
  have hlocks := B.notSynchronized
  subst hsz
  have hD := hD.self (sz := s.heap.size)
  generalize hAe : va_A [(oM, .inr (12, fm)), (am_floods, .inl (cJ, 16, .inr (.inl (fun _ => 0))))] s.heap.size = A at hD ⊢
  have hA : ∀ q : Nat, s.heap.size ≤ q → A q := fun q h => by rw [← hAe]; exact Or.inr h
  have hS : va_S A s.heap s.heap [] := va_S.rf
  have hP : va_P (dC, dI) classes [(oM, .inr (12, fm)), (am_floods, .inl (cJ, 16, .inr (.inl (fun _ => 0))))] s.heap := hP
  have hl := lv_entry ([.ref oM]) (n := 5) (Nat.le_of_ble_eq_true rfl)
  rw [lg_entry_eq]
  generalize (lg_sl ([.ref oM]) ++ List.replicate (5 - (lg_sl ([.ref oM])).length) Slot.unset).toArray = ls at hl ⊢
  have hl : lv_has ls 5 [(0, .ref oM)] := hl
  refine lv_aload_n hx hb d_Mo_isSafe_0 rfl (lv_at hl 0 rfl) ?_
  refine lv_iconst (v := 1) hx hb d_Mo_isSafe_1 (by decide) ?_
  have hPc := hP.sub (ws' := [(oM, .inr (12, fm)), (am_floods, .inl (cJ, 16, .inr (.inl (fun _ => 0))))]) [0, 1] rfl
  have hDc := hD.sub (ws' := [(oM, .inr (12, fm)), (am_floods, .inl (cJ, 16, .inr (.inl (fun _ => 0))))]) [0, 1] (by decide) rfl
  have hFc := va_free (wc := [(oM, .inr (12, fm)), (am_floods, .inl (cJ, 16, .inr (.inl (fun _ => 0))))]) hD hS hA [0, 1] rfl
  refine va_calli (va_runV (C := R_Mo) (As := [.int 1]) (rest := []) ⟨hx, hb, hml, hown, hts⟩ (c_Mo_isCalm l dC dI cI cB cZ cJ 1 oM am_floods fm hm_things hm_pipes hm_floods s.heap.size) (cwV 1 hts (tb_V mw_2377 mw_2379 sl_147 mw_18 mw_2380) rfl rfl rfl ⟨rfl, by decide +kernel, by decide +kernel, by decide +kernel⟩ ⟨(Nat.le_of_ble_eq_true rfl), (Nat.le_of_ble_eq_true rfl)⟩) ⟨pw_blind, va_recv (q := (R_Mo, F_Mo, 87)) hK.1 hP (ci := 12) (q0 := 0) rfl rfl, pw_pre hPc hK hDc⟩ rfl rfl hl.1 rfl (lv_room (Nat.le_of_ble_eq_true rfl)) d_Mo_isSafe_2 ⟨(Nat.le_of_ble_eq_true rfl), (Nat.le_of_ble_eq_true rfl)⟩) hS (fun q _ h => hFc q h) hFc (fun r u t H locs ht hvm hw hB hz1 hk1 hS => ?_)
  obtain ⟨f2_1_am_floods, k2_1_oM_4, k2_1_oM_11, k2_1_oM_44, hP1, hD1⟩ := hB
  rw [ht] at hP1
  obtain ⟨hP, hD⟩ := va_join (wr := []) (w1 := [(oM, .inr (12, fm)), (am_floods, .inl (cJ, 16, .inr (.inl f2_1_am_floods)))]) hP hD [0, 1] [] rfl rfl (by decide) (by decide) hk1 hFc hP1 hD1
  have hP : va_P (dC, dI) classes [(oM, .inr (12, fm)), (am_floods, .inl (cJ, 16, .inr (.inl f2_1_am_floods)))] H := hP
  have hD : va_D A [(oM, .inr (12, fm)), (am_floods, .inl (cJ, 16, .inr (.inl f2_1_am_floods)))] := hD
  obtain rfl : r = 1 := hw
  refine lv_istore_n hx hb d_Mo_isSafe_5 rfl hl (by decide) rfl (fun ls hl => ?_)
  have hl : lv_has ls 5 [(1, .int 1), (0, .ref oM)] := hl
  refine lv_iconst (v := 0) hx hb d_Mo_isSafe_6 (by decide) ?_
  refine lv_istore_n hx hb d_Mo_isSafe_7 rfl hl (by decide) rfl (fun ls hl => ?_)
  have hl : lv_has ls 5 [(2, .int 0), (1, .int 1), (0, .ref oM)] := hl
  refine lv_iload_n hx hb d_Mo_isSafe_8 rfl (lv_at hl 0 rfl) ?_
  refine lv_aload_n hx hb d_Mo_isSafe_9 rfl (lv_at hl 2 rfl) ?_
  refine va_get (D := (dC, dI)) (ci := 12) (v := .int 0) (C := R_Mo) (T := F_Mo) (N := 87) hx hb hts (fun w h => List.mem_cons_of_mem _ (in_Mo w h)) hown hK.1 hP 0 rfl rfl 4 (by decide) (hts _ (List.mem_cons_of_mem _ mw_1790)) (fun _ h9 => h9) hm_things d_Mo_isSafe_10 ?_
  refine lv_icmp_ge (tgt := 114) hx hb d_Mo_isSafe_13 (by decide) (fun _ => ?_) (fun h => absurd (by decide) h)
  refine lv_iload_n hx hb d_Mo_isSafe_114 rfl (lv_at hl 1 rfl) ?_
  exact W.zret (v := 1) (ty := .boolean) hx hb hr (by decide) (fun t ht hW => ⟨⟨_, (), rfl, (rfl), trivial⟩, hS.F ht⟩) hS.2.2 d_Mo_isSafe_115
theorem d_Mo_danger_0 : decode b_Mo_danger 0 = .ok (.aload_n 0, 1) := by decide +kernel
theorem d_Mo_danger_1 : decode b_Mo_danger 1 = .ok (.invokevirtual 366, 3) := by decide +kernel
theorem d_Mo_danger_4 : decode b_Mo_danger 4 = .ok (.aload_n 0, 1) := by decide +kernel
theorem d_Mo_danger_5 : decode b_Mo_danger 5 = .ok (.invokevirtual 369, 3) := by decide +kernel
theorem d_Mo_danger_8 : decode b_Mo_danger 8 = .ok (.ifCond .eq 13, 3) := by decide +kernel
theorem d_Mo_danger_11 : decode b_Mo_danger 11 = .ok (.iload_n 1, 1) := by decide +kernel
theorem d_Mo_danger_12 : decode b_Mo_danger 12 = .ok (.ifCond .ne 7, 3) := by decide +kernel
theorem d_Mo_danger_15 : decode b_Mo_danger 15 = .ok (.iconst 0, 1) := by decide +kernel
theorem d_Mo_danger_16 : decode b_Mo_danger 16 = .ok (.goto 4, 3) := by decide +kernel
theorem d_Mo_danger_19 : decode b_Mo_danger 19 = .ok (.iconst (-1), 1) := by decide +kernel
theorem d_Mo_danger_20 : decode b_Mo_danger 20 = .ok (.ireturn, 1) := by decide +kernel
def fn_Mo_danger (wh : Int32) : Int32 := (if wh = 0 then 0 else (-1))
set_option maxHeartbeats 4000000 in
set_option maxRecDepth 100000 in
theorem c_Mo_danger (l : Launch) (dC : Nat → ClassId) (dI : Nat → Nat → Nat) (cI cB cZ cJ : ClassId) (wh : Int32) (oM : Nat) (am_floods : Nat) (fm : List Value) (hm_things : fm[4]? = some (.int 0)) (hm_pipes : fm[11]? = some (.int 0)) (hm_ways : fm[26]? = some (.int 0)) (hm_floods : fm[44]? = some (.ref am_floods)) (sz : Nat) : Met l y_Mo_danger w_Mo_danger ({ frames := 3, cells := 0, slots := 0, locals := 75 }) (va_Pc [.ref oM, .int wh] (PW dC dI cI cB cZ cJ [(oM, .inr (12, fm)), (am_floods, .inl (cJ, 16, .inr (.inl (fun _ => 0))))] sz)) (va_Qi (fun (r : Int32) (_ : Unit) => r = fn_Mo_danger wh) (fun _ _ => True) (va_A [(oM, .inr (12, fm)), (am_floods, .inl (cJ, 16, .inr (.inl (fun _ => 0))))] sz)) 0 0 (va_A [(oM, .inr (12, fm)), (am_floods, .inl (cJ, 16, .inr (.inl (fun _ => 0))))] sz) := by
  refine Met.ofW (cc := b_Mo_danger) (maxL := 2) (ret := (some .int)) (by decide) rfl ?_
  intro p e s m args below meth c s₁ B hml hv
  obtain ⟨rfl, hsz, hP, hK, hD⟩ := hv
  have hx := B.exec
  have hb := B.bytes
  have hr := B.returns
  have hts := atoms_spec (ws := w_Mo_danger) B.pre
  have hown : s.vm.findClass R_Mo = some m.cls := findClass_of_methodNamed B.named
  have hlocks := B.notSynchronized
  subst hsz
  have hD := hD.self (sz := s.heap.size)
  generalize hAe : va_A [(oM, .inr (12, fm)), (am_floods, .inl (cJ, 16, .inr (.inl (fun _ => 0))))] s.heap.size = A at hD ⊢
  have hA : ∀ q : Nat, s.heap.size ≤ q → A q := fun q h => by rw [← hAe]; exact Or.inr h
  have hS : va_S A s.heap s.heap [] := va_S.rf
  have hP : va_P (dC, dI) classes [(oM, .inr (12, fm)), (am_floods, .inl (cJ, 16, .inr (.inl (fun _ => 0))))] s.heap := hP
  have hl := lv_entry ([.ref oM, .int wh]) (n := 2) (Nat.le_of_ble_eq_true rfl)
  rw [lg_entry_eq]
  generalize (lg_sl ([.ref oM, .int wh]) ++ List.replicate (2 - (lg_sl ([.ref oM, .int wh])).length) Slot.unset).toArray = ls at hl ⊢
  have hl : lv_has ls 2 [(0, .ref oM), (1, .int wh)] := hl
  refine lv_aload_n hx hb d_Mo_danger_0 rfl (lv_at hl 0 rfl) ?_
  have hPc := hP.sub (ws' := [(oM, .inr (12, fm))]) [0] rfl
  have hDc := hD.sub (ws' := [(oM, .inr (12, fm))]) [0] (by decide) rfl
  have hFc := pu_free hS hA
  refine va_callv (va_runV (C := R_Mo) (As := []) (rest := []) ⟨hx, hb, hml, hown, hts⟩ (c_Mo_look l dC dI cI cB cZ cJ oM fm hm_things hm_pipes hm_ways s.heap.size) (cwV 0 hts (tb_V mw_2361 mw_2363 sl_143 mw_18 mw_2364) rfl rfl rfl ⟨rfl, by decide +kernel, by decide +kernel, by decide +kernel⟩ ⟨(Nat.le_of_ble_eq_true rfl), (Nat.le_of_ble_eq_true rfl)⟩) ⟨pw_blind, va_recv (q := (R_Mo, F_Mo, 87)) hK.1 hP (ci := 12) (q0 := 0) rfl rfl, pw_pre hPc hK hDc⟩ rfl rfl hl.1 rfl (lv_room (Nat.le_of_ble_eq_true rfl)) d_Mo_danger_1 ⟨(Nat.le_of_ble_eq_true rfl), (Nat.le_of_ble_eq_true rfl)⟩) hS (fun q _ h => hFc q h) hFc (fun u t H locs ht hvm hw hB hz1 hk1 hS => ?_)
  have hP := pu_kept hP hk1
  refine lv_aload_n hx hb d_Mo_danger_4 rfl (lv_at hl 0 rfl) ?_
  have hPc := hP.sub (ws' := [(oM, .inr (12, fm)), (am_floods, .inl (cJ, 16, .inr (.inl (fun _ => 0))))]) [0, 1] rfl
  have hDc := hD.sub (ws' := [(oM, .inr (12, fm)), (am_floods, .inl (cJ, 16, .inr (.inl (fun _ => 0))))]) [0, 1] (by decide) rfl
  have hFc := va_free (wc := [(oM, .inr (12, fm)), (am_floods, .inl (cJ, 16, .inr (.inl (fun _ => 0))))]) hD hS hA [0, 1] rfl
  refine va_calli (va_runV (C := R_Mo) (As := []) (rest := []) ⟨hx, hb, hml, hown, hts⟩ (c_Mo_isSafe l dC dI cI cB cZ cJ oM am_floods fm hm_things hm_pipes hm_floods H.size) (cwV 0 hts (tb_V mw_2373 mw_2375 sl_146 mw_18 mw_2376) rfl rfl rfl ⟨rfl, by decide +kernel, by decide +kernel, by decide +kernel⟩ ⟨(Nat.le_of_ble_eq_true rfl), (Nat.le_of_ble_eq_true rfl)⟩) ⟨pw_blind, va_recv (q := (R_Mo, F_Mo, 87)) hK.1 hP (ci := 12) (q0 := 0) rfl rfl, pw_pre hPc hK hDc⟩ rfl rfl hl.1 rfl (lv_room (Nat.le_of_ble_eq_true rfl)) d_Mo_danger_5 ⟨(Nat.le_of_ble_eq_true rfl), (Nat.le_of_ble_eq_true rfl)⟩) hS (fun q _ h => hFc q h) hFc (fun r u t H locs ht hvm hw hB hz1 hk1 hS => ?_)
  obtain ⟨hP, hD⟩ := va_join (wr := []) (w1 := []) hP hD [0, 1] [] rfl rfl (by decide) (by decide) hk1 hFc wn_P wn_D
  have hP : va_P (dC, dI) classes [] H := hP
  have hD : va_D A [] := hD
  obtain rfl : r = 1 := hw
  refine lv_if_eq (tgt := 21) hx hb d_Mo_danger_8 (by decide) (fun h => absurd h (by decide)) (fun _ => ?_)
  refine lv_iload_n hx hb d_Mo_danger_11 rfl (lv_at hl 1 rfl) ?_
  refine lv_if_ne (tgt := 19) hx hb d_Mo_danger_12 (by decide) (fun h12 => ?_) (fun h12 => ?_)
  · refine lv_iconst (v := (-1)) hx hb d_Mo_danger_19 (by decide) ?_
    exact W.iret (v := (-1)) hx hb hr (fun t ht hW => ⟨⟨_, (), rfl, (by unfold fn_Mo_danger; rw [if_neg h12]), trivial⟩, hS.F ht⟩) hS.2.2 d_Mo_danger_20
  · refine lv_iconst (v := 0) hx hb d_Mo_danger_15 (by decide) ?_
    refine lv_goto (tgt := 20) hx hb d_Mo_danger_16 (by decide) ?_
    exact W.iret (v := 0) hx hb hr (fun t ht hW => ⟨⟨_, (), rfl, (by unfold fn_Mo_danger; rw [if_pos h12]), trivial⟩, hS.F ht⟩) hS.2.2 d_Mo_danger_20
theorem d_Mo_closeAll_0 : decode b_Mo_closeAll 0 = .ok (.aload_n 0, 1) := by decide +kernel
theorem d_Mo_closeAll_1 : decode b_Mo_closeAll 1 = .ok (.getfield 284, 3) := by decide +kernel
theorem d_Mo_closeAll_4 : decode b_Mo_closeAll 4 = .ok (.ifCond .le 16, 3) := by decide +kernel
theorem d_Mo_closeAll_20 : decode b_Mo_closeAll 20 = .ok (.return_, 1) := by decide +kernel
set_option maxHeartbeats 4000000 in
set_option maxRecDepth 100000 in
theorem c_Mo_closeAll (l : Launch) (dC : Nat → ClassId) (dI : Nat → Nat → Nat) (cI cB cZ cJ : ClassId) (oM : Nat) (fm : List Value) (hm_ways : fm[26]? = some (.int 0)) (sz : Nat) : Met l y_Mo_closeAll w_Mo_closeAll ({ frames := 0, cells := 0, slots := 0, locals := 0 }) (va_Pc [.ref oM] (PW dC dI cI cB cZ cJ [(oM, .inr (12, fm))] sz)) (va_Qv (fun _ : Unit => True) (fun _ _ => True) (va_A [] sz)) 0 0 (va_A [] sz) := by
  refine Met.ofW (cc := b_Mo_closeAll) (maxL := 1) (ret := none) (by decide) rfl ?_
  intro p e s m args below meth c s₁ B hml hv
  obtain ⟨rfl, hsz, hP, hK, hD⟩ := hv
  have hx := B.exec
  have hb := B.bytes
  have hr := B.returns
  have hts := atoms_spec (ws := w_Mo_closeAll) B.pre
  have hown : s.vm.findClass R_Mo = some m.cls := findClass_of_methodNamed B.named
  have hlocks := B.notSynchronized
  subst hsz
  generalize hAe : va_A [] s.heap.size = A at ⊢
  have hA : ∀ q : Nat, s.heap.size ≤ q → A q := fun q h => by rw [← hAe]; exact Or.inr h
  have hS : va_S A s.heap s.heap [] := va_S.rf
  have hP : va_P (dC, dI) classes [(oM, .inr (12, fm))] s.heap := hP
  have hl := lv_entry ([.ref oM]) (n := 1) (Nat.le_of_ble_eq_true rfl)
  rw [lg_entry_eq]
  generalize (lg_sl ([.ref oM]) ++ List.replicate (1 - (lg_sl ([.ref oM])).length) Slot.unset).toArray = ls at hl ⊢
  have hl : lv_has ls 1 [(0, .ref oM)] := hl
  refine lv_aload_n hx hb d_Mo_closeAll_0 rfl (lv_at hl 0 rfl) ?_
  refine va_get (D := (dC, dI)) (ci := 12) (v := .int 0) (C := R_Mo) (T := F_Mo) (N := 87) hx hb hts (fun w h => List.mem_cons_of_mem _ (in_Mo w h)) hown hK.1 hP 0 rfl rfl 26 (by decide) (hts _ (List.mem_cons_of_mem _ mw_1812)) (fun _ h9 => h9) hm_ways d_Mo_closeAll_1 ?_
  refine lv_if_le (tgt := 20) hx hb d_Mo_closeAll_4 (by decide) (fun _ => ?_) (fun h => absurd (by decide) h)
  exact W.vret hx hb hr (fun t ht hW => ⟨⟨(), rfl, trivial, trivial⟩, hS.F ht⟩) hS.2.2 d_Mo_closeAll_20
theorem d_Mo_senseAll_0 : decode b_Mo_senseAll 0 = .ok (.iconst 0, 1) := by decide +kernel
theorem d_Mo_senseAll_1 : decode b_Mo_senseAll 1 = .ok (.istore_n 1, 1) := by decide +kernel
theorem d_Mo_senseAll_2 : decode b_Mo_senseAll 2 = .ok (.iload_n 1, 1) := by decide +kernel
theorem d_Mo_senseAll_3 : decode b_Mo_senseAll 3 = .ok (.aload_n 0, 1) := by decide +kernel
theorem d_Mo_senseAll_4 : decode b_Mo_senseAll 4 = .ok (.getfield 16, 3) := by decide +kernel
theorem d_Mo_senseAll_7 : decode b_Mo_senseAll 7 = .ok (.getfield 442, 3) := by decide +kernel
theorem d_Mo_senseAll_10 : decode b_Mo_senseAll 10 = .ok (.if_icmp .ge 51, 3) := by decide +kernel
theorem d_Mo_senseAll_61 : decode b_Mo_senseAll 61 = .ok (.iconst 0, 1) := by decide +kernel
theorem d_Mo_senseAll_62 : decode b_Mo_senseAll 62 = .ok (.istore_n 1, 1) := by decide +kernel
theorem d_Mo_senseAll_63 : decode b_Mo_senseAll 63 = .ok (.iload_n 1, 1) := by decide +kernel
theorem d_Mo_senseAll_64 : decode b_Mo_senseAll 64 = .ok (.bipush 16, 2) := by decide +kernel
theorem d_Mo_senseAll_66 : decode b_Mo_senseAll 66 = .ok (.if_icmp .ge 127, 3) := by decide +kernel
theorem d_Mo_senseAll_69 : decode b_Mo_senseAll 69 = .ok (.aload_n 0, 1) := by decide +kernel
theorem d_Mo_senseAll_70 : decode b_Mo_senseAll 70 = .ok (.getfield 150, 3) := by decide +kernel
theorem d_Mo_senseAll_73 : decode b_Mo_senseAll 73 = .ok (.iload_n 1, 1) := by decide +kernel
theorem d_Mo_senseAll_74 : decode b_Mo_senseAll 74 = .ok (.iaload, 1) := by decide +kernel
theorem d_Mo_senseAll_75 : decode b_Mo_senseAll 75 = .ok (.iconst (-1), 1) := by decide +kernel
theorem d_Mo_senseAll_76 : decode b_Mo_senseAll 76 = .ok (.if_icmp .eq 111, 3) := by decide +kernel
theorem d_Mo_senseAll_187 : decode b_Mo_senseAll 187 = .ok (.iinc 1 1, 3) := by decide +kernel
theorem d_Mo_senseAll_190 : decode b_Mo_senseAll 190 = .ok (.goto (-127), 3) := by decide +kernel
theorem d_Mo_senseAll_193 : decode b_Mo_senseAll 193 = .ok (.return_, 1) := by decide +kernel
set_option maxHeartbeats 4000000 in
set_option maxRecDepth 100000 in
theorem c_Mo_senseAll (l : Launch) (dC : Nat → ClassId) (dI : Nat → Nat → Nat) (cI cB cZ cJ : ClassId) (oM : Nat) (oT : Nat) (am_watchWhat : Nat) (fm : List Value) (hm_program : fm[2]? = some (.ref oT)) (hm_watchWhat : fm[55]? = some (.ref am_watchWhat)) (ft : List Value) (ht_nameCount : ft[32]? = some (.int 0)) (sz : Nat) : Met l y_Mo_senseAll w_Mo_senseAll ({ frames := 0, cells := 0, slots := 0, locals := 0 }) (va_Pc [.ref oM] (PW dC dI cI cB cZ cJ [(oM, .inr (12, fm)), (oT, .inr (13, ft)), (am_watchWhat, .inl (cI, 16, .inl ((fun _ => (-1)))))] sz)) (va_Qv (fun _ : Unit => True) (fun _ _ => True) (va_A [] sz)) 0 0 (va_A [] sz) := by
  refine Met.ofW (cc := b_Mo_senseAll) (maxL := 5) (ret := none) (by decide) rfl ?_
  intro p e s m args below meth c s₁ B hml hv
  obtain ⟨rfl, hsz, hP, hK, hD⟩ := hv
  have hx := B.exec
  have hb := B.bytes
  have hr := B.returns
  have hts := atoms_spec (ws := w_Mo_senseAll) B.pre
  have hown : s.vm.findClass R_Mo = some m.cls := findClass_of_methodNamed B.named
  have hlocks := B.notSynchronized
  subst hsz
  generalize hAe : va_A [] s.heap.size = A at ⊢
  have hA : ∀ q : Nat, s.heap.size ≤ q → A q := fun q h => by rw [← hAe]; exact Or.inr h
  have hS : va_S A s.heap s.heap [] := va_S.rf
  have hP : va_P (dC, dI) classes [(oM, .inr (12, fm)), (oT, .inr (13, ft)), (am_watchWhat, .inl (cI, 16, .inl ((fun _ => (-1)))))] s.heap := hP
  have hl := lv_entry ([.ref oM]) (n := 5) (Nat.le_of_ble_eq_true rfl)
  rw [lg_entry_eq]
  generalize (lg_sl ([.ref oM]) ++ List.replicate (5 - (lg_sl ([.ref oM])).length) Slot.unset).toArray = ls at hl ⊢
  have hl : lv_has ls 5 [(0, .ref oM)] := hl
  refine lv_iconst (v := 0) hx hb d_Mo_senseAll_0 (by decide) ?_
  refine lv_istore_n hx hb d_Mo_senseAll_1 rfl hl (by decide) rfl (fun ls hl => ?_)
  have hl : lv_has ls 5 [(1, .int 0), (0, .ref oM)] := hl
  refine lv_iload_n hx hb d_Mo_senseAll_2 rfl (lv_at hl 0 rfl) ?_
  refine lv_aload_n hx hb d_Mo_senseAll_3 rfl (lv_at hl 1 rfl) ?_
  refine va_get (D := (dC, dI)) (ci := 12) (v := .ref oT) (C := R_Mo) (T := F_Mo) (N := 87) hx hb hts (fun w h => List.mem_cons_of_mem _ (in_Mo w h)) hown hK.1 hP 0 rfl rfl 2 (by decide) (hts _ (List.mem_cons_of_mem _ mw_1788)) (fun _ h9 => h9) hm_program d_Mo_senseAll_4 ?_
  refine va_getN (D := (dC, dI)) (ci := 13) (v := .int 0) (C := R_Tx) (T := F_Tx) (N := 39) hx hb hts (fun w h => List.mem_cons_of_mem _ (in_Tx w h)) hown hK.1 hP 1 rfl rfl 32 (by decide) (va_Nw.use rfl (hK.2 _ nw_1612)) (fun _ h9 => h9) ht_nameCount d_Mo_senseAll_7 ?_
  refine lv_icmp_ge (tgt := 61) hx hb d_Mo_senseAll_10 (by decide) (fun _ => ?_) (fun h => absurd (by decide) h)
  refine lv_iconst (v := 0) hx hb d_Mo_senseAll_61 (by decide) ?_
  refine lv_istore_n hx hb d_Mo_senseAll_62 rfl hl (by decide) rfl (fun ls hl => ?_)
  have hl : lv_has ls 5 [(1, .int 0), (0, .ref oM)] := hl
  refine lv_iload_n hx hb d_Mo_senseAll_63 rfl (lv_at hl 0 rfl) ?_
  refine lv_bipush (v := 16) hx hb d_Mo_senseAll_64 (by decide) ?_
  refine lv_icmp_ge (tgt := 193) hx hb d_Mo_senseAll_66 (by decide) (fun h => absurd h (by decide)) (fun _ => ?_)
  refine lv_aload_n hx hb d_Mo_senseAll_69 rfl (lv_at hl 1 rfl) ?_
  refine va_get (D := (dC, dI)) (ci := 12) (v := .ref am_watchWhat) (C := R_Mo) (T := F_Mo) (N := 87) hx hb hts (fun w h => List.mem_cons_of_mem _ (in_Mo w h)) hown hK.1 hP 0 rfl rfl 55 (by decide) (hts _ (List.mem_cons_of_mem _ mw_1841)) (fun _ h9 => h9) hm_watchWhat d_Mo_senseAll_70 ?_
  refine lv_iload_n hx hb d_Mo_senseAll_73 rfl (lv_at hl 0 rfl) ?_
  refine va_iald hx hb hK.1 hP 2 0 rfl rfl (vp_in_iff.mpr (by decide)) d_Mo_senseAll_74 ?_
  refine lv_iconst (v := (-1)) hx hb d_Mo_senseAll_75 (by decide) ?_
  refine lv_icmp_eq (tgt := 187) hx hb d_Mo_senseAll_76 (by decide) (fun _ => ?_) (fun h => absurd (by decide) h)
  refine lv_iinc (k := 0) (v := 1) hx hb d_Mo_senseAll_187 hl rfl (by first | rfl | decide | exact nI_1 i) (by decide) rfl (fun ls hl => ?_)
  have hl : lv_has ls 5 [(1, .int 1), (0, .ref oM)] := hl
  refine lv_goto (tgt := 63) hx hb d_Mo_senseAll_190 (by decide) ?_
  refine lv_iload_n hx hb d_Mo_senseAll_63 rfl (lv_at hl 0 rfl) ?_
  refine lv_bipush (v := 16) hx hb d_Mo_senseAll_64 (by decide) ?_
  refine lv_icmp_ge (tgt := 193) hx hb d_Mo_senseAll_66 (by decide) (fun h => absurd h (by decide)) (fun _ => ?_)
  refine lv_aload_n hx hb d_Mo_senseAll_69 rfl (lv_at hl 1 rfl) ?_
  refine va_get (D := (dC, dI)) (ci := 12) (v := .ref am_watchWhat) (C := R_Mo) (T := F_Mo) (N := 87) hx hb hts (fun w h => List.mem_cons_of_mem _ (in_Mo w h)) hown hK.1 hP 0 rfl rfl 55 (by decide) (hts _ (List.mem_cons_of_mem _ mw_1841)) (fun _ h9 => h9) hm_watchWhat d_Mo_senseAll_70 ?_
  refine lv_iload_n hx hb d_Mo_senseAll_73 rfl (lv_at hl 0 rfl) ?_
  refine va_iald hx hb hK.1 hP 2 0 rfl rfl (vp_in_iff.mpr (by decide)) d_Mo_senseAll_74 ?_
  refine lv_iconst (v := (-1)) hx hb d_Mo_senseAll_75 (by decide) ?_
  refine lv_icmp_eq (tgt := 187) hx hb d_Mo_senseAll_76 (by decide) (fun _ => ?_) (fun h => absurd (by decide) h)
  refine lv_iinc (k := 0) (v := 2) hx hb d_Mo_senseAll_187 hl rfl (by first | rfl | decide | exact nI_1 i) (by decide) rfl (fun ls hl => ?_)
  have hl : lv_has ls 5 [(1, .int 2), (0, .ref oM)] := hl
  refine lv_goto (tgt := 63) hx hb d_Mo_senseAll_190 (by decide) ?_
  refine lv_iload_n hx hb d_Mo_senseAll_63 rfl (lv_at hl 0 rfl) ?_
  refine lv_bipush (v := 16) hx hb d_Mo_senseAll_64 (by decide) ?_
  refine lv_icmp_ge (tgt := 193) hx hb d_Mo_senseAll_66 (by decide) (fun h => absurd h (by decide)) (fun _ => ?_)
  refine lv_aload_n hx hb d_Mo_senseAll_69 rfl (lv_at hl 1 rfl) ?_
  refine va_get (D := (dC, dI)) (ci := 12) (v := .ref am_watchWhat) (C := R_Mo) (T := F_Mo) (N := 87) hx hb hts (fun w h => List.mem_cons_of_mem _ (in_Mo w h)) hown hK.1 hP 0 rfl rfl 55 (by decide) (hts _ (List.mem_cons_of_mem _ mw_1841)) (fun _ h9 => h9) hm_watchWhat d_Mo_senseAll_70 ?_
  refine lv_iload_n hx hb d_Mo_senseAll_73 rfl (lv_at hl 0 rfl) ?_
  refine va_iald hx hb hK.1 hP 2 0 rfl rfl (vp_in_iff.mpr (by decide)) d_Mo_senseAll_74 ?_
  refine lv_iconst (v := (-1)) hx hb d_Mo_senseAll_75 (by decide) ?_
  refine lv_icmp_eq (tgt := 187) hx hb d_Mo_senseAll_76 (by decide) (fun _ => ?_) (fun h => absurd (by decide) h)
  refine lv_iinc (k := 0) (v := 3) hx hb d_Mo_senseAll_187 hl rfl (by first | rfl | decide | exact nI_1 i) (by decide) rfl (fun ls hl => ?_)
  have hl : lv_has ls 5 [(1, .int 3), (0, .ref oM)] := hl
  refine lv_goto (tgt := 63) hx hb d_Mo_senseAll_190 (by decide) ?_
  refine lv_iload_n hx hb d_Mo_senseAll_63 rfl (lv_at hl 0 rfl) ?_
  refine lv_bipush (v := 16) hx hb d_Mo_senseAll_64 (by decide) ?_
  refine lv_icmp_ge (tgt := 193) hx hb d_Mo_senseAll_66 (by decide) (fun h => absurd h (by decide)) (fun _ => ?_)
  refine lv_aload_n hx hb d_Mo_senseAll_69 rfl (lv_at hl 1 rfl) ?_
  refine va_get (D := (dC, dI)) (ci := 12) (v := .ref am_watchWhat) (C := R_Mo) (T := F_Mo) (N := 87) hx hb hts (fun w h => List.mem_cons_of_mem _ (in_Mo w h)) hown hK.1 hP 0 rfl rfl 55 (by decide) (hts _ (List.mem_cons_of_mem _ mw_1841)) (fun _ h9 => h9) hm_watchWhat d_Mo_senseAll_70 ?_
  refine lv_iload_n hx hb d_Mo_senseAll_73 rfl (lv_at hl 0 rfl) ?_
  refine va_iald hx hb hK.1 hP 2 0 rfl rfl (vp_in_iff.mpr (by decide)) d_Mo_senseAll_74 ?_
  refine lv_iconst (v := (-1)) hx hb d_Mo_senseAll_75 (by decide) ?_
  refine lv_icmp_eq (tgt := 187) hx hb d_Mo_senseAll_76 (by decide) (fun _ => ?_) (fun h => absurd (by decide) h)
  refine lv_iinc (k := 0) (v := 4) hx hb d_Mo_senseAll_187 hl rfl (by first | rfl | decide | exact nI_1 i) (by decide) rfl (fun ls hl => ?_)
  have hl : lv_has ls 5 [(1, .int 4), (0, .ref oM)] := hl
  refine lv_goto (tgt := 63) hx hb d_Mo_senseAll_190 (by decide) ?_
  refine lv_iload_n hx hb d_Mo_senseAll_63 rfl (lv_at hl 0 rfl) ?_
  refine lv_bipush (v := 16) hx hb d_Mo_senseAll_64 (by decide) ?_
  refine lv_icmp_ge (tgt := 193) hx hb d_Mo_senseAll_66 (by decide) (fun h => absurd h (by decide)) (fun _ => ?_)
  refine lv_aload_n hx hb d_Mo_senseAll_69 rfl (lv_at hl 1 rfl) ?_
  refine va_get (D := (dC, dI)) (ci := 12) (v := .ref am_watchWhat) (C := R_Mo) (T := F_Mo) (N := 87) hx hb hts (fun w h => List.mem_cons_of_mem _ (in_Mo w h)) hown hK.1 hP 0 rfl rfl 55 (by decide) (hts _ (List.mem_cons_of_mem _ mw_1841)) (fun _ h9 => h9) hm_watchWhat d_Mo_senseAll_70 ?_
  refine lv_iload_n hx hb d_Mo_senseAll_73 rfl (lv_at hl 0 rfl) ?_
  refine va_iald hx hb hK.1 hP 2 0 rfl rfl (vp_in_iff.mpr (by decide)) d_Mo_senseAll_74 ?_
  refine lv_iconst (v := (-1)) hx hb d_Mo_senseAll_75 (by decide) ?_
  refine lv_icmp_eq (tgt := 187) hx hb d_Mo_senseAll_76 (by decide) (fun _ => ?_) (fun h => absurd (by decide) h)
  refine lv_iinc (k := 0) (v := 5) hx hb d_Mo_senseAll_187 hl rfl (by first | rfl | decide | exact nI_1 i) (by decide) rfl (fun ls hl => ?_)
  have hl : lv_has ls 5 [(1, .int 5), (0, .ref oM)] := hl
  refine lv_goto (tgt := 63) hx hb d_Mo_senseAll_190 (by decide) ?_
  refine lv_iload_n hx hb d_Mo_senseAll_63 rfl (lv_at hl 0 rfl) ?_
  refine lv_bipush (v := 16) hx hb d_Mo_senseAll_64 (by decide) ?_
  refine lv_icmp_ge (tgt := 193) hx hb d_Mo_senseAll_66 (by decide) (fun h => absurd h (by decide)) (fun _ => ?_)
  refine lv_aload_n hx hb d_Mo_senseAll_69 rfl (lv_at hl 1 rfl) ?_
  refine va_get (D := (dC, dI)) (ci := 12) (v := .ref am_watchWhat) (C := R_Mo) (T := F_Mo) (N := 87) hx hb hts (fun w h => List.mem_cons_of_mem _ (in_Mo w h)) hown hK.1 hP 0 rfl rfl 55 (by decide) (hts _ (List.mem_cons_of_mem _ mw_1841)) (fun _ h9 => h9) hm_watchWhat d_Mo_senseAll_70 ?_
  refine lv_iload_n hx hb d_Mo_senseAll_73 rfl (lv_at hl 0 rfl) ?_
  refine va_iald hx hb hK.1 hP 2 0 rfl rfl (vp_in_iff.mpr (by decide)) d_Mo_senseAll_74 ?_
  refine lv_iconst (v := (-1)) hx hb d_Mo_senseAll_75 (by decide) ?_
  refine lv_icmp_eq (tgt := 187) hx hb d_Mo_senseAll_76 (by decide) (fun _ => ?_) (fun h => absurd (by decide) h)
  refine lv_iinc (k := 0) (v := 6) hx hb d_Mo_senseAll_187 hl rfl (by first | rfl | decide | exact nI_1 i) (by decide) rfl (fun ls hl => ?_)
  have hl : lv_has ls 5 [(1, .int 6), (0, .ref oM)] := hl
  refine lv_goto (tgt := 63) hx hb d_Mo_senseAll_190 (by decide) ?_
  refine lv_iload_n hx hb d_Mo_senseAll_63 rfl (lv_at hl 0 rfl) ?_
  refine lv_bipush (v := 16) hx hb d_Mo_senseAll_64 (by decide) ?_
  refine lv_icmp_ge (tgt := 193) hx hb d_Mo_senseAll_66 (by decide) (fun h => absurd h (by decide)) (fun _ => ?_)
  refine lv_aload_n hx hb d_Mo_senseAll_69 rfl (lv_at hl 1 rfl) ?_
  refine va_get (D := (dC, dI)) (ci := 12) (v := .ref am_watchWhat) (C := R_Mo) (T := F_Mo) (N := 87) hx hb hts (fun w h => List.mem_cons_of_mem _ (in_Mo w h)) hown hK.1 hP 0 rfl rfl 55 (by decide) (hts _ (List.mem_cons_of_mem _ mw_1841)) (fun _ h9 => h9) hm_watchWhat d_Mo_senseAll_70 ?_
  refine lv_iload_n hx hb d_Mo_senseAll_73 rfl (lv_at hl 0 rfl) ?_
  refine va_iald hx hb hK.1 hP 2 0 rfl rfl (vp_in_iff.mpr (by decide)) d_Mo_senseAll_74 ?_
  refine lv_iconst (v := (-1)) hx hb d_Mo_senseAll_75 (by decide) ?_
  refine lv_icmp_eq (tgt := 187) hx hb d_Mo_senseAll_76 (by decide) (fun _ => ?_) (fun h => absurd (by decide) h)
  refine lv_iinc (k := 0) (v := 7) hx hb d_Mo_senseAll_187 hl rfl (by first | rfl | decide | exact nI_1 i) (by decide) rfl (fun ls hl => ?_)
  have hl : lv_has ls 5 [(1, .int 7), (0, .ref oM)] := hl
  refine lv_goto (tgt := 63) hx hb d_Mo_senseAll_190 (by decide) ?_
  refine lv_iload_n hx hb d_Mo_senseAll_63 rfl (lv_at hl 0 rfl) ?_
  refine lv_bipush (v := 16) hx hb d_Mo_senseAll_64 (by decide) ?_
  refine lv_icmp_ge (tgt := 193) hx hb d_Mo_senseAll_66 (by decide) (fun h => absurd h (by decide)) (fun _ => ?_)
  refine lv_aload_n hx hb d_Mo_senseAll_69 rfl (lv_at hl 1 rfl) ?_
  refine va_get (D := (dC, dI)) (ci := 12) (v := .ref am_watchWhat) (C := R_Mo) (T := F_Mo) (N := 87) hx hb hts (fun w h => List.mem_cons_of_mem _ (in_Mo w h)) hown hK.1 hP 0 rfl rfl 55 (by decide) (hts _ (List.mem_cons_of_mem _ mw_1841)) (fun _ h9 => h9) hm_watchWhat d_Mo_senseAll_70 ?_
  refine lv_iload_n hx hb d_Mo_senseAll_73 rfl (lv_at hl 0 rfl) ?_
  refine va_iald hx hb hK.1 hP 2 0 rfl rfl (vp_in_iff.mpr (by decide)) d_Mo_senseAll_74 ?_
  refine lv_iconst (v := (-1)) hx hb d_Mo_senseAll_75 (by decide) ?_
  refine lv_icmp_eq (tgt := 187) hx hb d_Mo_senseAll_76 (by decide) (fun _ => ?_) (fun h => absurd (by decide) h)
  refine lv_iinc (k := 0) (v := 8) hx hb d_Mo_senseAll_187 hl rfl (by first | rfl | decide | exact nI_1 i) (by decide) rfl (fun ls hl => ?_)
  have hl : lv_has ls 5 [(1, .int 8), (0, .ref oM)] := hl
  refine lv_goto (tgt := 63) hx hb d_Mo_senseAll_190 (by decide) ?_
  refine lv_iload_n hx hb d_Mo_senseAll_63 rfl (lv_at hl 0 rfl) ?_
  refine lv_bipush (v := 16) hx hb d_Mo_senseAll_64 (by decide) ?_
  refine lv_icmp_ge (tgt := 193) hx hb d_Mo_senseAll_66 (by decide) (fun h => absurd h (by decide)) (fun _ => ?_)
  refine lv_aload_n hx hb d_Mo_senseAll_69 rfl (lv_at hl 1 rfl) ?_
  refine va_get (D := (dC, dI)) (ci := 12) (v := .ref am_watchWhat) (C := R_Mo) (T := F_Mo) (N := 87) hx hb hts (fun w h => List.mem_cons_of_mem _ (in_Mo w h)) hown hK.1 hP 0 rfl rfl 55 (by decide) (hts _ (List.mem_cons_of_mem _ mw_1841)) (fun _ h9 => h9) hm_watchWhat d_Mo_senseAll_70 ?_
  refine lv_iload_n hx hb d_Mo_senseAll_73 rfl (lv_at hl 0 rfl) ?_
  refine va_iald hx hb hK.1 hP 2 0 rfl rfl (vp_in_iff.mpr (by decide)) d_Mo_senseAll_74 ?_
  refine lv_iconst (v := (-1)) hx hb d_Mo_senseAll_75 (by decide) ?_
  refine lv_icmp_eq (tgt := 187) hx hb d_Mo_senseAll_76 (by decide) (fun _ => ?_) (fun h => absurd (by decide) h)
  refine lv_iinc (k := 0) (v := 9) hx hb d_Mo_senseAll_187 hl rfl (by first | rfl | decide | exact nI_1 i) (by decide) rfl (fun ls hl => ?_)
  have hl : lv_has ls 5 [(1, .int 9), (0, .ref oM)] := hl
  refine lv_goto (tgt := 63) hx hb d_Mo_senseAll_190 (by decide) ?_
  refine lv_iload_n hx hb d_Mo_senseAll_63 rfl (lv_at hl 0 rfl) ?_
  refine lv_bipush (v := 16) hx hb d_Mo_senseAll_64 (by decide) ?_
  refine lv_icmp_ge (tgt := 193) hx hb d_Mo_senseAll_66 (by decide) (fun h => absurd h (by decide)) (fun _ => ?_)
  refine lv_aload_n hx hb d_Mo_senseAll_69 rfl (lv_at hl 1 rfl) ?_
  refine va_get (D := (dC, dI)) (ci := 12) (v := .ref am_watchWhat) (C := R_Mo) (T := F_Mo) (N := 87) hx hb hts (fun w h => List.mem_cons_of_mem _ (in_Mo w h)) hown hK.1 hP 0 rfl rfl 55 (by decide) (hts _ (List.mem_cons_of_mem _ mw_1841)) (fun _ h9 => h9) hm_watchWhat d_Mo_senseAll_70 ?_
  refine lv_iload_n hx hb d_Mo_senseAll_73 rfl (lv_at hl 0 rfl) ?_
  refine va_iald hx hb hK.1 hP 2 0 rfl rfl (vp_in_iff.mpr (by decide)) d_Mo_senseAll_74 ?_
  refine lv_iconst (v := (-1)) hx hb d_Mo_senseAll_75 (by decide) ?_
  refine lv_icmp_eq (tgt := 187) hx hb d_Mo_senseAll_76 (by decide) (fun _ => ?_) (fun h => absurd (by decide) h)
  refine lv_iinc (k := 0) (v := 10) hx hb d_Mo_senseAll_187 hl rfl (by first | rfl | decide | exact nI_1 i) (by decide) rfl (fun ls hl => ?_)
  have hl : lv_has ls 5 [(1, .int 10), (0, .ref oM)] := hl
  refine lv_goto (tgt := 63) hx hb d_Mo_senseAll_190 (by decide) ?_
  refine lv_iload_n hx hb d_Mo_senseAll_63 rfl (lv_at hl 0 rfl) ?_
  refine lv_bipush (v := 16) hx hb d_Mo_senseAll_64 (by decide) ?_
  refine lv_icmp_ge (tgt := 193) hx hb d_Mo_senseAll_66 (by decide) (fun h => absurd h (by decide)) (fun _ => ?_)
  refine lv_aload_n hx hb d_Mo_senseAll_69 rfl (lv_at hl 1 rfl) ?_
  refine va_get (D := (dC, dI)) (ci := 12) (v := .ref am_watchWhat) (C := R_Mo) (T := F_Mo) (N := 87) hx hb hts (fun w h => List.mem_cons_of_mem _ (in_Mo w h)) hown hK.1 hP 0 rfl rfl 55 (by decide) (hts _ (List.mem_cons_of_mem _ mw_1841)) (fun _ h9 => h9) hm_watchWhat d_Mo_senseAll_70 ?_
  refine lv_iload_n hx hb d_Mo_senseAll_73 rfl (lv_at hl 0 rfl) ?_
  refine va_iald hx hb hK.1 hP 2 0 rfl rfl (vp_in_iff.mpr (by decide)) d_Mo_senseAll_74 ?_
  refine lv_iconst (v := (-1)) hx hb d_Mo_senseAll_75 (by decide) ?_
  refine lv_icmp_eq (tgt := 187) hx hb d_Mo_senseAll_76 (by decide) (fun _ => ?_) (fun h => absurd (by decide) h)
  refine lv_iinc (k := 0) (v := 11) hx hb d_Mo_senseAll_187 hl rfl (by first | rfl | decide | exact nI_1 i) (by decide) rfl (fun ls hl => ?_)
  have hl : lv_has ls 5 [(1, .int 11), (0, .ref oM)] := hl
  refine lv_goto (tgt := 63) hx hb d_Mo_senseAll_190 (by decide) ?_
  refine lv_iload_n hx hb d_Mo_senseAll_63 rfl (lv_at hl 0 rfl) ?_
  refine lv_bipush (v := 16) hx hb d_Mo_senseAll_64 (by decide) ?_
  refine lv_icmp_ge (tgt := 193) hx hb d_Mo_senseAll_66 (by decide) (fun h => absurd h (by decide)) (fun _ => ?_)
  refine lv_aload_n hx hb d_Mo_senseAll_69 rfl (lv_at hl 1 rfl) ?_
  refine va_get (D := (dC, dI)) (ci := 12) (v := .ref am_watchWhat) (C := R_Mo) (T := F_Mo) (N := 87) hx hb hts (fun w h => List.mem_cons_of_mem _ (in_Mo w h)) hown hK.1 hP 0 rfl rfl 55 (by decide) (hts _ (List.mem_cons_of_mem _ mw_1841)) (fun _ h9 => h9) hm_watchWhat d_Mo_senseAll_70 ?_
  refine lv_iload_n hx hb d_Mo_senseAll_73 rfl (lv_at hl 0 rfl) ?_
  refine va_iald hx hb hK.1 hP 2 0 rfl rfl (vp_in_iff.mpr (by decide)) d_Mo_senseAll_74 ?_
  refine lv_iconst (v := (-1)) hx hb d_Mo_senseAll_75 (by decide) ?_
  refine lv_icmp_eq (tgt := 187) hx hb d_Mo_senseAll_76 (by decide) (fun _ => ?_) (fun h => absurd (by decide) h)
  refine lv_iinc (k := 0) (v := 12) hx hb d_Mo_senseAll_187 hl rfl (by first | rfl | decide | exact nI_1 i) (by decide) rfl (fun ls hl => ?_)
  have hl : lv_has ls 5 [(1, .int 12), (0, .ref oM)] := hl
  refine lv_goto (tgt := 63) hx hb d_Mo_senseAll_190 (by decide) ?_
  refine lv_iload_n hx hb d_Mo_senseAll_63 rfl (lv_at hl 0 rfl) ?_
  refine lv_bipush (v := 16) hx hb d_Mo_senseAll_64 (by decide) ?_
  refine lv_icmp_ge (tgt := 193) hx hb d_Mo_senseAll_66 (by decide) (fun h => absurd h (by decide)) (fun _ => ?_)
  refine lv_aload_n hx hb d_Mo_senseAll_69 rfl (lv_at hl 1 rfl) ?_
  refine va_get (D := (dC, dI)) (ci := 12) (v := .ref am_watchWhat) (C := R_Mo) (T := F_Mo) (N := 87) hx hb hts (fun w h => List.mem_cons_of_mem _ (in_Mo w h)) hown hK.1 hP 0 rfl rfl 55 (by decide) (hts _ (List.mem_cons_of_mem _ mw_1841)) (fun _ h9 => h9) hm_watchWhat d_Mo_senseAll_70 ?_
  refine lv_iload_n hx hb d_Mo_senseAll_73 rfl (lv_at hl 0 rfl) ?_
  refine va_iald hx hb hK.1 hP 2 0 rfl rfl (vp_in_iff.mpr (by decide)) d_Mo_senseAll_74 ?_
  refine lv_iconst (v := (-1)) hx hb d_Mo_senseAll_75 (by decide) ?_
  refine lv_icmp_eq (tgt := 187) hx hb d_Mo_senseAll_76 (by decide) (fun _ => ?_) (fun h => absurd (by decide) h)
  refine lv_iinc (k := 0) (v := 13) hx hb d_Mo_senseAll_187 hl rfl (by first | rfl | decide | exact nI_1 i) (by decide) rfl (fun ls hl => ?_)
  have hl : lv_has ls 5 [(1, .int 13), (0, .ref oM)] := hl
  refine lv_goto (tgt := 63) hx hb d_Mo_senseAll_190 (by decide) ?_
  refine lv_iload_n hx hb d_Mo_senseAll_63 rfl (lv_at hl 0 rfl) ?_
  refine lv_bipush (v := 16) hx hb d_Mo_senseAll_64 (by decide) ?_
  refine lv_icmp_ge (tgt := 193) hx hb d_Mo_senseAll_66 (by decide) (fun h => absurd h (by decide)) (fun _ => ?_)
  refine lv_aload_n hx hb d_Mo_senseAll_69 rfl (lv_at hl 1 rfl) ?_
  refine va_get (D := (dC, dI)) (ci := 12) (v := .ref am_watchWhat) (C := R_Mo) (T := F_Mo) (N := 87) hx hb hts (fun w h => List.mem_cons_of_mem _ (in_Mo w h)) hown hK.1 hP 0 rfl rfl 55 (by decide) (hts _ (List.mem_cons_of_mem _ mw_1841)) (fun _ h9 => h9) hm_watchWhat d_Mo_senseAll_70 ?_
  refine lv_iload_n hx hb d_Mo_senseAll_73 rfl (lv_at hl 0 rfl) ?_
  refine va_iald hx hb hK.1 hP 2 0 rfl rfl (vp_in_iff.mpr (by decide)) d_Mo_senseAll_74 ?_
  refine lv_iconst (v := (-1)) hx hb d_Mo_senseAll_75 (by decide) ?_
  refine lv_icmp_eq (tgt := 187) hx hb d_Mo_senseAll_76 (by decide) (fun _ => ?_) (fun h => absurd (by decide) h)
  refine lv_iinc (k := 0) (v := 14) hx hb d_Mo_senseAll_187 hl rfl (by first | rfl | decide | exact nI_1 i) (by decide) rfl (fun ls hl => ?_)
  have hl : lv_has ls 5 [(1, .int 14), (0, .ref oM)] := hl
  refine lv_goto (tgt := 63) hx hb d_Mo_senseAll_190 (by decide) ?_
  refine lv_iload_n hx hb d_Mo_senseAll_63 rfl (lv_at hl 0 rfl) ?_
  refine lv_bipush (v := 16) hx hb d_Mo_senseAll_64 (by decide) ?_
  refine lv_icmp_ge (tgt := 193) hx hb d_Mo_senseAll_66 (by decide) (fun h => absurd h (by decide)) (fun _ => ?_)
  refine lv_aload_n hx hb d_Mo_senseAll_69 rfl (lv_at hl 1 rfl) ?_
  refine va_get (D := (dC, dI)) (ci := 12) (v := .ref am_watchWhat) (C := R_Mo) (T := F_Mo) (N := 87) hx hb hts (fun w h => List.mem_cons_of_mem _ (in_Mo w h)) hown hK.1 hP 0 rfl rfl 55 (by decide) (hts _ (List.mem_cons_of_mem _ mw_1841)) (fun _ h9 => h9) hm_watchWhat d_Mo_senseAll_70 ?_
  refine lv_iload_n hx hb d_Mo_senseAll_73 rfl (lv_at hl 0 rfl) ?_
  refine va_iald hx hb hK.1 hP 2 0 rfl rfl (vp_in_iff.mpr (by decide)) d_Mo_senseAll_74 ?_
  refine lv_iconst (v := (-1)) hx hb d_Mo_senseAll_75 (by decide) ?_
  refine lv_icmp_eq (tgt := 187) hx hb d_Mo_senseAll_76 (by decide) (fun _ => ?_) (fun h => absurd (by decide) h)
  refine lv_iinc (k := 0) (v := 15) hx hb d_Mo_senseAll_187 hl rfl (by first | rfl | decide | exact nI_1 i) (by decide) rfl (fun ls hl => ?_)
  have hl : lv_has ls 5 [(1, .int 15), (0, .ref oM)] := hl
  refine lv_goto (tgt := 63) hx hb d_Mo_senseAll_190 (by decide) ?_
  refine lv_iload_n hx hb d_Mo_senseAll_63 rfl (lv_at hl 0 rfl) ?_
  refine lv_bipush (v := 16) hx hb d_Mo_senseAll_64 (by decide) ?_
  refine lv_icmp_ge (tgt := 193) hx hb d_Mo_senseAll_66 (by decide) (fun h => absurd h (by decide)) (fun _ => ?_)
  refine lv_aload_n hx hb d_Mo_senseAll_69 rfl (lv_at hl 1 rfl) ?_
  refine va_get (D := (dC, dI)) (ci := 12) (v := .ref am_watchWhat) (C := R_Mo) (T := F_Mo) (N := 87) hx hb hts (fun w h => List.mem_cons_of_mem _ (in_Mo w h)) hown hK.1 hP 0 rfl rfl 55 (by decide) (hts _ (List.mem_cons_of_mem _ mw_1841)) (fun _ h9 => h9) hm_watchWhat d_Mo_senseAll_70 ?_
  refine lv_iload_n hx hb d_Mo_senseAll_73 rfl (lv_at hl 0 rfl) ?_
  refine va_iald hx hb hK.1 hP 2 0 rfl rfl (vp_in_iff.mpr (by decide)) d_Mo_senseAll_74 ?_
  refine lv_iconst (v := (-1)) hx hb d_Mo_senseAll_75 (by decide) ?_
  refine lv_icmp_eq (tgt := 187) hx hb d_Mo_senseAll_76 (by decide) (fun _ => ?_) (fun h => absurd (by decide) h)
  refine lv_iinc (k := 0) (v := 16) hx hb d_Mo_senseAll_187 hl rfl (by first | rfl | decide | exact nI_1 i) (by decide) rfl (fun ls hl => ?_)
  have hl : lv_has ls 5 [(1, .int 16), (0, .ref oM)] := hl
  refine lv_goto (tgt := 63) hx hb d_Mo_senseAll_190 (by decide) ?_
  refine lv_iload_n hx hb d_Mo_senseAll_63 rfl (lv_at hl 0 rfl) ?_
  refine lv_bipush (v := 16) hx hb d_Mo_senseAll_64 (by decide) ?_
  refine lv_icmp_ge (tgt := 193) hx hb d_Mo_senseAll_66 (by decide) (fun _ => ?_) (fun h => absurd (by decide) h)
  exact W.vret hx hb hr (fun t ht hW => ⟨⟨(), rfl, trivial, trivial⟩, hS.F ht⟩) hS.2.2 d_Mo_senseAll_193
theorem d_Mr_tick_0 : decode b_Mr_tick 0 = .ok (.iload_n 1, 1) := by decide +kernel
theorem d_Mr_tick_1 : decode b_Mr_tick 1 = .ok (.ifCond .lt 9, 3) := by decide +kernel
theorem d_Mr_tick_4 : decode b_Mr_tick 4 = .ok (.iload_n 1, 1) := by decide +kernel
theorem d_Mr_tick_5 : decode b_Mr_tick 5 = .ok (.ldc 142, 2) := by decide +kernel
theorem d_Mr_tick_7 : decode b_Mr_tick 7 = .ok (.if_icmp .le 5, 3) := by decide +kernel
theorem d_Mr_tick_12 : decode b_Mr_tick 12 = .ok (.iconst 0, 1) := by decide +kernel
theorem d_Mr_tick_13 : decode b_Mr_tick 13 = .ok (.istore_n 2, 1) := by decide +kernel
theorem d_Mr_tick_14 : decode b_Mr_tick 14 = .ok (.iload_n 2, 1) := by decide +kernel
theorem d_Mr_tick_15 : decode b_Mr_tick 15 = .ok (.aload_n 0, 1) := by decide +kernel
theorem d_Mr_tick_16 : decode b_Mr_tick 16 = .ok (.getfield 133, 3) := by decide +kernel
theorem d_Mr_tick_19 : decode b_Mr_tick 19 = .ok (.if_icmp .ge 145, 3) := by decide +kernel
theorem d_Mr_tick_164 : decode b_Mr_tick 164 = .ok (.iconst 1, 1) := by decide +kernel
theorem d_Mr_tick_165 : decode b_Mr_tick 165 = .ok (.ireturn, 1) := by decide +kernel
set_option maxHeartbeats 4000000 in
set_option maxRecDepth 100000 in
theorem c_Mr_tick (l : Launch) (dC : Nat → ClassId) (dI : Nat → Nat → Nat) (cI cB cZ cJ : ClassId) (oR : Nat) (fr : List Value) (hr_rows : fr[20]? = some (.int 0)) (sz : Nat) : Met l y_Mr_tick w_Mr_tick ({ frames := 0, cells := 0, slots := 0, locals := 0 }) (va_Pc [.ref oR, .int 1] (PW dC dI cI cB cZ cJ [(oR, .inr (14, fr))] sz)) (va_Qi (fun (r : Int32) (_ : Unit) => r = 1) (fun _ _ => True) (va_A [] sz)) 0 0 (va_A [] sz) := by
  refine Met.ofW (cc := b_Mr_tick) (maxL := 4) (ret := (some .boolean)) (by decide) rfl ?_
  intro p e s m args below meth c s₁ B hml hv
  obtain ⟨rfl, hsz, hP, hK, hD⟩ := hv
  have hx := B.exec
  have hb := B.bytes
  have hr := B.returns
  have hts := atoms_spec (ws := w_Mr_tick) B.pre
  have hown : s.vm.findClass R_Mr = some m.cls := findClass_of_methodNamed B.named
  have hlocks := B.notSynchronized
  subst hsz
  generalize hAe : va_A [] s.heap.size = A at ⊢
  have hA : ∀ q : Nat, s.heap.size ≤ q → A q := fun q h => by rw [← hAe]; exact Or.inr h
  have hS : va_S A s.heap s.heap [] := va_S.rf
  have hP : va_P (dC, dI) classes [(oR, .inr (14, fr))] s.heap := hP
  have hl := lv_entry ([.ref oR, .int 1]) (n := 4) (Nat.le_of_ble_eq_true rfl)
  rw [lg_entry_eq]
  generalize (lg_sl ([.ref oR, .int 1]) ++ List.replicate (4 - (lg_sl ([.ref oR, .int 1])).length) Slot.unset).toArray = ls at hl ⊢
  have hl : lv_has ls 4 [(0, .ref oR), (1, .int 1)] := hl
  refine lv_iload_n hx hb d_Mr_tick_0 rfl (lv_at hl 1 rfl) ?_
  refine lv_if_lt (tgt := 10) hx hb d_Mr_tick_1 (by decide) (fun h => absurd h (by decide)) (fun _ => ?_)
  refine lv_iload_n hx hb d_Mr_tick_4 rfl (lv_at hl 1 rfl) ?_
  refine lv_ldc (v := 100000) hx hb hown (hts _ (List.mem_cons_of_mem _ mw_2609)) d_Mr_tick_5 ?_
  refine lv_icmp_le (tgt := 12) hx hb d_Mr_tick_7 (by decide) (fun _ => ?_) (fun h => absurd (by decide) h)
  refine lv_iconst (v := 0) hx hb d_Mr_tick_12 (by decide) ?_
  refine lv_istore_n hx hb d_Mr_tick_13 rfl hl (by decide) rfl (fun ls hl => ?_)
  have hl : lv_has ls 4 [(2, .int 0), (0, .ref oR), (1, .int 1)] := hl
  refine lv_iload_n hx hb d_Mr_tick_14 rfl (lv_at hl 0 rfl) ?_
  refine lv_aload_n hx hb d_Mr_tick_15 rfl (lv_at hl 1 rfl) ?_
  refine va_get (D := (dC, dI)) (ci := 14) (v := .int 0) (C := R_Mr) (T := F_Mr) (N := 25) hx hb hts (fun w h => List.mem_cons_of_mem _ (in_Mr w h)) hown hK.1 hP 0 rfl rfl 20 (by decide) (hts _ (List.mem_cons_of_mem _ mw_1724)) (fun _ h9 => h9) hr_rows d_Mr_tick_16 ?_
  refine lv_icmp_ge (tgt := 164) hx hb d_Mr_tick_19 (by decide) (fun _ => ?_) (fun h => absurd (by decide) h)
  refine lv_iconst (v := 1) hx hb d_Mr_tick_164 (by decide) ?_
  exact W.zret (v := 1) (ty := .boolean) hx hb hr (by decide) (fun t ht hW => ⟨⟨_, (), rfl, (rfl), trivial⟩, hS.F ht⟩) hS.2.2 d_Mr_tick_165
