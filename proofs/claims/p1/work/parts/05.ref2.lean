abbrev b_Mo_raise : ByteArray := prog_14_method_56_code
def y_Mo_raise : MethodName := ⟨R_Mo, "raise", "(II)V"⟩
abbrev w_Mo_raise : List Cond := .code y_Mo_raise b_Mo_raise 3 none :: lw_gd
abbrev b_Mo_perform : ByteArray := prog_14_method_55_code
def y_Mo_perform : MethodName := ⟨R_Mo, "perform", "(I)I"⟩
abbrev w_Mo_perform : List Cond := .code y_Mo_perform b_Mo_perform 7 (some .int) :: lw_gd
abbrev b_Mo_act : ByteArray := prog_14_method_57_code
def y_Mo_act : MethodName := ⟨R_Mo, "act", "(I)I"⟩
abbrev w_Mo_act : List Cond := .code y_Mo_act b_Mo_act 3 (some .int) :: lw_gd
abbrev b_Mo_watch : ByteArray := prog_14_method_60_code
def y_Mo_watch : MethodName := ⟨R_Mo, "watch", "(IIIJ)Z"⟩
abbrev w_Mo_watch : List Cond := .code y_Mo_watch b_Mo_watch 6 (some .boolean) :: lw_gd
abbrev b_Mo_bind : ByteArray := prog_14_method_54_code
def y_Mo_bind : MethodName := ⟨R_Mo, "bind", "(IIIII)Z"⟩
abbrev w_Mo_bind : List Cond := .code y_Mo_bind b_Mo_bind 6 (some .boolean) :: lw_gd
abbrev b_Mo_lasts : ByteArray := prog_14_method_53_code
def y_Mo_lasts : MethodName := ⟨R_Mo, "lasts", "(II)Z"⟩
abbrev w_Mo_lasts : List Cond := .code y_Mo_lasts b_Mo_lasts 3 (some .boolean) :: lw_gd
abbrev b_Mo_need : ByteArray := prog_14_method_52_code
def y_Mo_need : MethodName := ⟨R_Mo, "need", "(III)Z"⟩
abbrev w_Mo_need : List Cond := .code y_Mo_need b_Mo_need 4 (some .boolean) :: lw_gd
abbrev b_Mo_may : ByteArray := prog_14_method_51_code
def y_Mo_may : MethodName := ⟨R_Mo, "may", "(II)Z"⟩
abbrev w_Mo_may : List Cond := .code y_Mo_may b_Mo_may 4 (some .boolean) :: lw_gd
abbrev b_Mo_answer : ByteArray := prog_14_method_85_code
def y_Mo_answer : MethodName := ⟨R_Mo, "answer", "(J)Z"⟩
abbrev w_Mo_answer : List Cond := .code y_Mo_answer b_Mo_answer 4 (some .boolean) :: lw_gd
abbrev b_Mo_still : ByteArray := prog_14_method_89_code
def y_Mo_still : MethodName := ⟨R_Mo, "still", "(I)I"⟩
abbrev w_Mo_still : List Cond := .code y_Mo_still b_Mo_still 3 (some .int) :: lw_gd
abbrev b_Mo_write : ByteArray := prog_14_method_15_code
def y_Mo_write : MethodName := ⟨R_Mo, "write", "(I)I"⟩
abbrev w_Mo_write : List Cond := .code y_Mo_write b_Mo_write 3 (some .int) :: lw_gd
theorem mw_1804 : (.fieldLink "BreweryHouseModel" 64 "BreweryHouseModel" "meet" "[Z" : Cond) ∈ lw_gd := tb_mem (i := 1804) (by decide +kernel) (by decide +kernel)
theorem mw_1805 : (.fieldLink "BreweryHouseModel" 68 "BreweryHouseModel" "needs" "[I" : Cond) ∈ lw_gd := tb_mem (i := 1805) (by decide +kernel) (by decide +kernel)
theorem mw_1806 : (.fieldLink "BreweryHouseModel" 71 "BreweryHouseModel" "lasting" "[I" : Cond) ∈ lw_gd := tb_mem (i := 1806) (by decide +kernel) (by decide +kernel)
theorem mw_1835 : (.fieldLink "BreweryHouseModel" 132 "BreweryHouseModel" "does" "[I" : Cond) ∈ lw_gd := tb_mem (i := 1835) (by decide +kernel) (by decide +kernel)
theorem mw_1836 : (.fieldLink "BreweryHouseModel" 135 "BreweryHouseModel" "xs" "[I" : Cond) ∈ lw_gd := tb_mem (i := 1836) (by decide +kernel) (by decide +kernel)
theorem mw_1837 : (.fieldLink "BreweryHouseModel" 138 "BreweryHouseModel" "ys" "[I" : Cond) ∈ lw_gd := tb_mem (i := 1837) (by decide +kernel) (by decide +kernel)
theorem mw_1838 : (.fieldLink "BreweryHouseModel" 141 "BreweryHouseModel" "zs" "[I" : Cond) ∈ lw_gd := tb_mem (i := 1838) (by decide +kernel) (by decide +kernel)
theorem mw_1841 : (.fieldLink "BreweryHouseModel" 150 "BreweryHouseModel" "watchWhat" "[I" : Cond) ∈ lw_gd := tb_mem (i := 1841) (by decide +kernel) (by decide +kernel)
theorem mw_1842 : (.fieldLink "BreweryHouseModel" 153 "BreweryHouseModel" "watchOf" "[I" : Cond) ∈ lw_gd := tb_mem (i := 1842) (by decide +kernel) (by decide +kernel)
theorem mw_1843 : (.fieldLink "BreweryHouseModel" 156 "BreweryHouseModel" "watchLeast" "[J" : Cond) ∈ lw_gd := tb_mem (i := 1843) (by decide +kernel) (by decide +kernel)
theorem mw_1863 : (.fieldLink "BreweryHouseModel" 576 "BreweryHouseModel" "left" "I" : Cond) ∈ lw_gd := tb_mem (i := 1863) (by decide +kernel) (by decide +kernel)
theorem mw_1866 : (.fieldLink "BreweryHouseModel" 202 "BreweryHouseModel" "alarmSeconds" "[I" : Cond) ∈ lw_gd := tb_mem (i := 1866) (by decide +kernel) (by decide +kernel)
theorem mw_1867 : (.fieldLink "BreweryHouseModel" 205 "BreweryHouseModel" "alarmNodes" "[I" : Cond) ∈ lw_gd := tb_mem (i := 1867) (by decide +kernel) (by decide +kernel)
theorem mw_1868 : (.fieldLink "BreweryHouseModel" 208 "BreweryHouseModel" "alarmKinds" "[I" : Cond) ∈ lw_gd := tb_mem (i := 1868) (by decide +kernel) (by decide +kernel)
theorem mw_1869 : (.fieldLink "BreweryHouseModel" 294 "BreweryHouseModel" "wish" "I" : Cond) ∈ lw_gd := tb_mem (i := 1869) (by decide +kernel) (by decide +kernel)
theorem mw_1870 : (.fieldLink "BreweryHouseModel" 297 "BreweryHouseModel" "found" "I" : Cond) ∈ lw_gd := tb_mem (i := 1870) (by decide +kernel) (by decide +kernel)
theorem mw_2457 : (.constant "BreweryHouseModel" 423 1000000 : Cond) ∈ lw_gd := tb_mem (i := 2457) (by decide +kernel) (by decide +kernel)
theorem mw_2466 : (.methodLink "BreweryHouseModel" 436 y_Mo_perform : Cond) ∈ lw_gd := tb_mem (i := 2466) (by decide +kernel) (by decide +kernel)
theorem mw_2468 : (.instanceMethod y_Mo_perform : Cond) ∈ lw_gd := tb_mem (i := 2468) (by decide +kernel) (by decide +kernel)
theorem mw_2469 : (.code y_Mo_perform b_Mo_perform 7 (some .int) : Cond) ∈ lw_gd := tb_mem (i := 2469) (by decide +kernel) (by decide +kernel)
theorem mw_2513 : (.methodLink "BreweryHouseModel" 439 y_Mo_raise : Cond) ∈ lw_gd := tb_mem (i := 2513) (by decide +kernel) (by decide +kernel)
theorem mw_2515 : (.instanceMethod y_Mo_raise : Cond) ∈ lw_gd := tb_mem (i := 2515) (by decide +kernel) (by decide +kernel)
theorem mw_2516 : (.code y_Mo_raise b_Mo_raise 3 none : Cond) ∈ lw_gd := tb_mem (i := 2516) (by decide +kernel) (by decide +kernel)
theorem sl_160 : (.selects "BreweryHouseModel" y_Mo_perform y_Mo_perform : Cond) ∈ lw_gd := List.mem_filter.mpr ⟨List.mem_append_left _ (List.mem_of_getElem? (i := 160) (by decide +kernel)), by decide +kernel⟩
theorem sl_170 : (.selects "BreweryHouseModel" y_Mo_raise y_Mo_raise : Cond) ∈ lw_gd := List.mem_filter.mpr ⟨List.mem_append_left _ (List.mem_of_getElem? (i := 170) (by decide +kernel)), by decide +kernel⟩
theorem d_Mo_raise_0 : decode b_Mo_raise 0 = .ok (.aload_n 0, 1) := by decide +kernel
theorem d_Mo_raise_1 : decode b_Mo_raise 1 = .ok (.getfield 433, 3) := by decide +kernel
theorem d_Mo_raise_4 : decode b_Mo_raise 4 = .ok (.sipush 200, 3) := by decide +kernel
theorem d_Mo_raise_7 : decode b_Mo_raise 7 = .ok (.if_icmp .ge 46, 3) := by decide +kernel
theorem d_Mo_raise_10 : decode b_Mo_raise 10 = .ok (.aload_n 0, 1) := by decide +kernel
theorem d_Mo_raise_11 : decode b_Mo_raise 11 = .ok (.getfield 202, 3) := by decide +kernel
theorem d_Mo_raise_14 : decode b_Mo_raise 14 = .ok (.aload_n 0, 1) := by decide +kernel
theorem d_Mo_raise_15 : decode b_Mo_raise 15 = .ok (.getfield 433, 3) := by decide +kernel
theorem d_Mo_raise_18 : decode b_Mo_raise 18 = .ok (.aload_n 0, 1) := by decide +kernel
theorem d_Mo_raise_19 : decode b_Mo_raise 19 = .ok (.getfield 326, 3) := by decide +kernel
theorem d_Mo_raise_22 : decode b_Mo_raise 22 = .ok (.iastore, 1) := by decide +kernel
theorem d_Mo_raise_23 : decode b_Mo_raise 23 = .ok (.aload_n 0, 1) := by decide +kernel
theorem d_Mo_raise_24 : decode b_Mo_raise 24 = .ok (.getfield 205, 3) := by decide +kernel
theorem d_Mo_raise_27 : decode b_Mo_raise 27 = .ok (.aload_n 0, 1) := by decide +kernel
theorem d_Mo_raise_28 : decode b_Mo_raise 28 = .ok (.getfield 433, 3) := by decide +kernel
theorem d_Mo_raise_31 : decode b_Mo_raise 31 = .ok (.iload_n 1, 1) := by decide +kernel
theorem d_Mo_raise_32 : decode b_Mo_raise 32 = .ok (.iastore, 1) := by decide +kernel
theorem d_Mo_raise_33 : decode b_Mo_raise 33 = .ok (.aload_n 0, 1) := by decide +kernel
theorem d_Mo_raise_34 : decode b_Mo_raise 34 = .ok (.getfield 208, 3) := by decide +kernel
theorem d_Mo_raise_37 : decode b_Mo_raise 37 = .ok (.aload_n 0, 1) := by decide +kernel
theorem d_Mo_raise_38 : decode b_Mo_raise 38 = .ok (.getfield 433, 3) := by decide +kernel
theorem d_Mo_raise_41 : decode b_Mo_raise 41 = .ok (.iload_n 2, 1) := by decide +kernel
theorem d_Mo_raise_42 : decode b_Mo_raise 42 = .ok (.iastore, 1) := by decide +kernel
theorem d_Mo_raise_43 : decode b_Mo_raise 43 = .ok (.aload_n 0, 1) := by decide +kernel
theorem d_Mo_raise_44 : decode b_Mo_raise 44 = .ok (.dup, 1) := by decide +kernel
theorem d_Mo_raise_45 : decode b_Mo_raise 45 = .ok (.getfield 433, 3) := by decide +kernel
theorem d_Mo_raise_48 : decode b_Mo_raise 48 = .ok (.iconst 1, 1) := by decide +kernel
theorem d_Mo_raise_49 : decode b_Mo_raise 49 = .ok (.iadd, 1) := by decide +kernel
theorem d_Mo_raise_50 : decode b_Mo_raise 50 = .ok (.putfield 433, 3) := by decide +kernel
theorem d_Mo_raise_53 : decode b_Mo_raise 53 = .ok (.return_, 1) := by decide +kernel
set_option maxHeartbeats 4000000 in
set_option maxRecDepth 100000 in
theorem c_Mo_raise (l : Launch) (dC : Nat → ClassId) (dI : Nat → Nat → Nat) (cI cB cZ cJ : ClassId) (no : Int32) (ki : Int32) (oM : Nat) (am_alarmSeconds : Nat) (am_alarmNodes : Nat) (am_alarmKinds : Nat) (fm : List Value) (hm_now : fm[78]? = some (.int 0)) (hm_alarms : fm[79]? = some (.int 0)) (hm_alarmSeconds : fm[80]? = some (.ref am_alarmSeconds)) (hm_alarmNodes : fm[81]? = some (.ref am_alarmNodes)) (hm_alarmKinds : fm[82]? = some (.ref am_alarmKinds)) (sz : Nat) : Met l y_Mo_raise w_Mo_raise ({ frames := 0, cells := 0, slots := 0, locals := 0 }) (va_Pc [.ref oM, .int no, .int ki] (PW dC dI cI cB cZ cJ [(oM, .inr (12, fm)), (am_alarmSeconds, .inl (cI, 200, .inl (fun _ => 0))), (am_alarmNodes, .inl (cI, 200, .inl (fun _ => 0))), (am_alarmKinds, .inl (cI, 200, .inl (fun _ => 0)))] sz)) (va_Qv (fun _ : Unit => True) (fun _ _ => True) (va_A [(oM, .inr (12, fm)), (am_alarmSeconds, .inl (cI, 200, .inl (fun _ => 0))), (am_alarmNodes, .inl (cI, 200, .inl (fun _ => 0))), (am_alarmKinds, .inl (cI, 200, .inl (fun _ => 0)))] sz)) 0 0 (va_A [(oM, .inr (12, fm)), (am_alarmSeconds, .inl (cI, 200, .inl (fun _ => 0))), (am_alarmNodes, .inl (cI, 200, .inl (fun _ => 0))), (am_alarmKinds, .inl (cI, 200, .inl (fun _ => 0)))] sz) := by
  refine Met.ofW (cc := b_Mo_raise) (maxL := 3) (ret := none) (by decide) rfl ?_
  intro p e s m args below meth c s₁ B hml hv
  obtain ⟨rfl, hsz, hP, hK, hD⟩ := hv
  have hx := B.exec
  have hb := B.bytes
  have hr := B.returns
  have hts := atoms_spec (ws := w_Mo_raise) B.pre
  have hown : s.vm.findClass R_Mo = some m.cls := findClass_of_methodNamed B.named
  have hlocks := B.notSynchronized
  subst hsz
  have hD := hD.self (sz := s.heap.size)
  generalize hAe : va_A [(oM, .inr (12, fm)), (am_alarmSeconds, .inl (cI, 200, .inl (fun _ => 0))), (am_alarmNodes, .inl (cI, 200, .inl (fun _ => 0))), (am_alarmKinds, .inl (cI, 200, .inl (fun _ => 0)))] s.heap.size = A at hD ⊢
  have hA : ∀ q : Nat, s.heap.size ≤ q → A q := fun q h => by rw [← hAe]; exact Or.inr h
  have hS : va_S A s.heap s.heap [] := va_S.rf
  have hP : va_P (dC, dI) classes [(oM, .inr (12, fm)), (am_alarmSeconds, .inl (cI, 200, .inl (fun _ => 0))), (am_alarmNodes, .inl (cI, 200, .inl (fun _ => 0))), (am_alarmKinds, .inl (cI, 200, .inl (fun _ => 0)))] s.heap := hP
  have hl := lv_entry ([.ref oM, .int no, .int ki]) (n := 3) (Nat.le_of_ble_eq_true rfl)
  rw [lg_entry_eq]
  generalize (lg_sl ([.ref oM, .int no, .int ki]) ++ List.replicate (3 - (lg_sl ([.ref oM, .int no, .int ki])).length) Slot.unset).toArray = ls at hl ⊢
  have hl : lv_has ls 3 [(0, .ref oM), (1, .int no), (2, .int ki)] := hl
  refine lv_aload_n hx hb d_Mo_raise_0 rfl (lv_at hl 0 rfl) ?_
  refine va_get (D := (dC, dI)) (ci := 12) (v := .int 0) (C := R_Mo) (T := F_Mo) (N := 87) hx hb hts (fun w h => List.mem_cons_of_mem _ (in_Mo w h)) hown hK.1 hP 0 rfl rfl 79 (by decide) (hts _ (List.mem_cons_of_mem _ mw_1865)) (fun _ h9 => h9) hm_alarms d_Mo_raise_1 ?_
  refine lv_sipush (v := 200) hx hb d_Mo_raise_4 (by decide) ?_
  refine lv_icmp_ge (tgt := 53) hx hb d_Mo_raise_7 (by decide) (fun h => absurd h (by decide)) (fun _ => ?_)
  refine lv_aload_n hx hb d_Mo_raise_10 rfl (lv_at hl 0 rfl) ?_
  refine va_get (D := (dC, dI)) (ci := 12) (v := .ref am_alarmSeconds) (C := R_Mo) (T := F_Mo) (N := 87) hx hb hts (fun w h => List.mem_cons_of_mem _ (in_Mo w h)) hown hK.1 hP 0 rfl rfl 80 (by decide) (hts _ (List.mem_cons_of_mem _ mw_1866)) (fun _ h9 => h9) hm_alarmSeconds d_Mo_raise_11 ?_
  refine lv_aload_n hx hb d_Mo_raise_14 rfl (lv_at hl 0 rfl) ?_
  refine va_get (D := (dC, dI)) (ci := 12) (v := .int 0) (C := R_Mo) (T := F_Mo) (N := 87) hx hb hts (fun w h => List.mem_cons_of_mem _ (in_Mo w h)) hown hK.1 hP 0 rfl rfl 79 (by decide) (hts _ (List.mem_cons_of_mem _ mw_1865)) (fun _ h9 => h9) hm_alarms d_Mo_raise_15 ?_
  refine lv_aload_n hx hb d_Mo_raise_18 rfl (lv_at hl 0 rfl) ?_
  refine va_get (D := (dC, dI)) (ci := 12) (v := .int 0) (C := R_Mo) (T := F_Mo) (N := 87) hx hb hts (fun w h => List.mem_cons_of_mem _ (in_Mo w h)) hown hK.1 hP 0 rfl rfl 78 (by decide) (hts _ (List.mem_cons_of_mem _ mw_1864)) (fun _ h9 => h9) hm_now d_Mo_raise_19 ?_
  refine va_iast hx hb hK.1 hP hD hS 1 0 rfl rfl (vp_in_iff.mpr (by decide)) d_Mo_raise_22 (fun H locs hP hD hS => ?_)
  have hP : va_P (dC, dI) classes [(oM, .inr (12, fm)), (am_alarmSeconds, .inl (cI, 200, .inl ((upd (fun _ => 0) (0 : Int32).toNatClampNeg 0)))), (am_alarmNodes, .inl (cI, 200, .inl (fun _ => 0))), (am_alarmKinds, .inl (cI, 200, .inl (fun _ => 0)))] H := hP
  have hD : va_D A [(oM, .inr (12, fm)), (am_alarmSeconds, .inl (cI, 200, .inl ((upd (fun _ => 0) (0 : Int32).toNatClampNeg 0)))), (am_alarmNodes, .inl (cI, 200, .inl (fun _ => 0))), (am_alarmKinds, .inl (cI, 200, .inl (fun _ => 0)))] := hD
  generalize (upd (fun _ => 0) (0 : Int32).toNatClampNeg 0) = f22_1 at hP hD
  refine lv_aload_n hx hb d_Mo_raise_23 rfl (lv_at hl 0 rfl) ?_
  refine va_get (D := (dC, dI)) (ci := 12) (v := .ref am_alarmNodes) (C := R_Mo) (T := F_Mo) (N := 87) hx hb hts (fun w h => List.mem_cons_of_mem _ (in_Mo w h)) hown hK.1 hP 0 rfl rfl 81 (by decide) (hts _ (List.mem_cons_of_mem _ mw_1867)) (fun _ h9 => h9) hm_alarmNodes d_Mo_raise_24 ?_
  refine lv_aload_n hx hb d_Mo_raise_27 rfl (lv_at hl 0 rfl) ?_
  refine va_get (D := (dC, dI)) (ci := 12) (v := .int 0) (C := R_Mo) (T := F_Mo) (N := 87) hx hb hts (fun w h => List.mem_cons_of_mem _ (in_Mo w h)) hown hK.1 hP 0 rfl rfl 79 (by decide) (hts _ (List.mem_cons_of_mem _ mw_1865)) (fun _ h9 => h9) hm_alarms d_Mo_raise_28 ?_
  refine lv_iload_n hx hb d_Mo_raise_31 rfl (lv_at hl 1 rfl) ?_
  refine va_iast hx hb hK.1 hP hD hS 2 0 rfl rfl (vp_in_iff.mpr (by decide)) d_Mo_raise_32 (fun H locs hP hD hS => ?_)
  have hP : va_P (dC, dI) classes [(oM, .inr (12, fm)), (am_alarmSeconds, .inl (cI, 200, .inl f22_1)), (am_alarmNodes, .inl (cI, 200, .inl ((upd (fun _ => 0) (0 : Int32).toNatClampNeg no)))), (am_alarmKinds, .inl (cI, 200, .inl (fun _ => 0)))] H := hP
  have hD : va_D A [(oM, .inr (12, fm)), (am_alarmSeconds, .inl (cI, 200, .inl f22_1)), (am_alarmNodes, .inl (cI, 200, .inl ((upd (fun _ => 0) (0 : Int32).toNatClampNeg no)))), (am_alarmKinds, .inl (cI, 200, .inl (fun _ => 0)))] := hD
  generalize (upd (fun _ => 0) (0 : Int32).toNatClampNeg no) = f32_2 at hP hD
  refine lv_aload_n hx hb d_Mo_raise_33 rfl (lv_at hl 0 rfl) ?_
  refine va_get (D := (dC, dI)) (ci := 12) (v := .ref am_alarmKinds) (C := R_Mo) (T := F_Mo) (N := 87) hx hb hts (fun w h => List.mem_cons_of_mem _ (in_Mo w h)) hown hK.1 hP 0 rfl rfl 82 (by decide) (hts _ (List.mem_cons_of_mem _ mw_1868)) (fun _ h9 => h9) hm_alarmKinds d_Mo_raise_34 ?_
  refine lv_aload_n hx hb d_Mo_raise_37 rfl (lv_at hl 0 rfl) ?_
  refine va_get (D := (dC, dI)) (ci := 12) (v := .int 0) (C := R_Mo) (T := F_Mo) (N := 87) hx hb hts (fun w h => List.mem_cons_of_mem _ (in_Mo w h)) hown hK.1 hP 0 rfl rfl 79 (by decide) (hts _ (List.mem_cons_of_mem _ mw_1865)) (fun _ h9 => h9) hm_alarms d_Mo_raise_38 ?_
  refine lv_iload_n hx hb d_Mo_raise_41 rfl (lv_at hl 2 rfl) ?_
  refine va_iast hx hb hK.1 hP hD hS 3 0 rfl rfl (vp_in_iff.mpr (by decide)) d_Mo_raise_42 (fun H locs hP hD hS => ?_)
  have hP : va_P (dC, dI) classes [(oM, .inr (12, fm)), (am_alarmSeconds, .inl (cI, 200, .inl f22_1)), (am_alarmNodes, .inl (cI, 200, .inl f32_2)), (am_alarmKinds, .inl (cI, 200, .inl ((upd (fun _ => 0) (0 : Int32).toNatClampNeg ki))))] H := hP
  have hD : va_D A [(oM, .inr (12, fm)), (am_alarmSeconds, .inl (cI, 200, .inl f22_1)), (am_alarmNodes, .inl (cI, 200, .inl f32_2)), (am_alarmKinds, .inl (cI, 200, .inl ((upd (fun _ => 0) (0 : Int32).toNatClampNeg ki))))] := hD
  generalize (upd (fun _ => 0) (0 : Int32).toNatClampNeg ki) = f42_3 at hP hD
  refine lv_aload_n hx hb d_Mo_raise_43 rfl (lv_at hl 0 rfl) ?_
  refine lv_dup hx hb d_Mo_raise_44 rfl ?_
  refine va_get (D := (dC, dI)) (ci := 12) (v := .int 0) (C := R_Mo) (T := F_Mo) (N := 87) hx hb hts (fun w h => List.mem_cons_of_mem _ (in_Mo w h)) hown hK.1 hP 0 rfl rfl 79 (by decide) (hts _ (List.mem_cons_of_mem _ mw_1865)) (fun _ h9 => h9) hm_alarms d_Mo_raise_45 ?_
  refine lv_iconst (v := 1) hx hb d_Mo_raise_48 (by decide) ?_
  refine lv_iadd hx hb d_Mo_raise_49 ?_
  refine lv_topi (fun x0 e0 => ?_)
  obtain rfl : x0 = 1 := e0.trans (by decide)
  refine va_put (D := (dC, dI)) (ci := 12) (v := .int 1) (ty := .int) (C := R_Mo) (T := F_Mo) (N := 87) hx hb hts (fun w h => List.mem_cons_of_mem _ (in_Mo w h)) t_Mo t_Mo_ok n_Mo hown hK.1 hP hD hS 0 rfl rfl 79 (by decide) (hts _ (List.mem_cons_of_mem _ mw_1865)) (fun _ h9 => h9) rfl (by decide +kernel) rfl rfl (st_lt hm_alarms) d_Mo_raise_50 (fun H locs hP hD hS => ?_)
  have g50_82 : (fm.set 79 (.int 1))[82]? = some (.ref am_alarmKinds) := (st_ne hm_alarmKinds (by decide))
  have g50_81 : (fm.set 79 (.int 1))[81]? = some (.ref am_alarmNodes) := (st_ne hm_alarmNodes (by decide))
  have g50_80 : (fm.set 79 (.int 1))[80]? = some (.ref am_alarmSeconds) := (st_ne hm_alarmSeconds (by decide))
  have g50_79 : (fm.set 79 (.int 1))[79]? = some (.int 1) := (st_eq hm_alarms)
  have g50_78 : (fm.set 79 (.int 1))[78]? = some (.int 0) := (st_ne hm_now (by decide))
  have hP : va_P (dC, dI) classes [(oM, .inr (12, (fm.set 79 (.int 1)))), (am_alarmSeconds, .inl (cI, 200, .inl f22_1)), (am_alarmNodes, .inl (cI, 200, .inl f32_2)), (am_alarmKinds, .inl (cI, 200, .inl f42_3))] H := hP
  have hD : va_D A [(oM, .inr (12, (fm.set 79 (.int 1)))), (am_alarmSeconds, .inl (cI, 200, .inl f22_1)), (am_alarmNodes, .inl (cI, 200, .inl f32_2)), (am_alarmKinds, .inl (cI, 200, .inl f42_3))] := hD
  exact W.vret hx hb hr (fun t ht hW => ⟨⟨(), rfl, trivial, trivial⟩, hS.F ht⟩) hS.2.2 d_Mo_raise_53
theorem d_Mo_perform_0 : decode b_Mo_perform 0 = .ok (.aload_n 0, 1) := by decide +kernel
theorem d_Mo_perform_1 : decode b_Mo_perform 1 = .ok (.getfield 135, 3) := by decide +kernel
theorem d_Mo_perform_4 : decode b_Mo_perform 4 = .ok (.iload_n 1, 1) := by decide +kernel
theorem d_Mo_perform_5 : decode b_Mo_perform 5 = .ok (.iaload, 1) := by decide +kernel
theorem d_Mo_perform_6 : decode b_Mo_perform 6 = .ok (.istore_n 2, 1) := by decide +kernel
theorem d_Mo_perform_7 : decode b_Mo_perform 7 = .ok (.aload_n 0, 1) := by decide +kernel
theorem d_Mo_perform_8 : decode b_Mo_perform 8 = .ok (.getfield 138, 3) := by decide +kernel
theorem d_Mo_perform_11 : decode b_Mo_perform 11 = .ok (.iload_n 1, 1) := by decide +kernel
theorem d_Mo_perform_12 : decode b_Mo_perform 12 = .ok (.iaload, 1) := by decide +kernel
theorem d_Mo_perform_13 : decode b_Mo_perform 13 = .ok (.istore_n 3, 1) := by decide +kernel
theorem d_Mo_perform_14 : decode b_Mo_perform 14 = .ok (.aload_n 0, 1) := by decide +kernel
theorem d_Mo_perform_15 : decode b_Mo_perform 15 = .ok (.getfield 132, 3) := by decide +kernel
theorem d_Mo_perform_18 : decode b_Mo_perform 18 = .ok (.iload_n 1, 1) := by decide +kernel
theorem d_Mo_perform_19 : decode b_Mo_perform 19 = .ok (.iaload, 1) := by decide +kernel
theorem d_Mo_perform_20 : decode b_Mo_perform 20 = .ok (.istore 4, 2) := by decide +kernel
theorem d_Mo_perform_22 : decode b_Mo_perform 22 = .ok (.iload 4, 2) := by decide +kernel
theorem d_Mo_perform_24 : decode b_Mo_perform 24 = .ok (.ifCond .eq 9, 3) := by decide +kernel
theorem d_Mo_perform_27 : decode b_Mo_perform 27 = .ok (.iload 4, 2) := by decide +kernel
theorem d_Mo_perform_29 : decode b_Mo_perform 29 = .ok (.iconst 1, 1) := by decide +kernel
theorem d_Mo_perform_30 : decode b_Mo_perform 30 = .ok (.if_icmp .ne 32, 3) := by decide +kernel
theorem d_Mo_perform_62 : decode b_Mo_perform 62 = .ok (.iload 4, 2) := by decide +kernel
theorem d_Mo_perform_64 : decode b_Mo_perform 64 = .ok (.iconst 2, 1) := by decide +kernel
theorem d_Mo_perform_65 : decode b_Mo_perform 65 = .ok (.if_icmp .ne 11, 3) := by decide +kernel
theorem d_Mo_perform_76 : decode b_Mo_perform 76 = .ok (.iload 4, 2) := by decide +kernel
theorem d_Mo_perform_78 : decode b_Mo_perform 78 = .ok (.iconst (-1), 1) := by decide +kernel
theorem d_Mo_perform_79 : decode b_Mo_perform 79 = .ok (.if_icmp .eq 15, 3) := by decide +kernel
theorem d_Mo_perform_94 : decode b_Mo_perform 94 = .ok (.iconst 0, 1) := by decide +kernel
theorem d_Mo_perform_95 : decode b_Mo_perform 95 = .ok (.istore 5, 2) := by decide +kernel
theorem d_Mo_perform_97 : decode b_Mo_perform 97 = .ok (.iload 5, 2) := by decide +kernel
theorem d_Mo_perform_99 : decode b_Mo_perform 99 = .ok (.ifCond .ne 5, 3) := by decide +kernel
theorem d_Mo_perform_102 : decode b_Mo_perform 102 = .ok (.iconst 1, 1) := by decide +kernel
theorem d_Mo_perform_103 : decode b_Mo_perform 103 = .ok (.ireturn, 1) := by decide +kernel
set_option maxHeartbeats 4000000 in
set_option maxRecDepth 100000 in
theorem c_Mo_perform (l : Launch) (dC : Nat → ClassId) (dI : Nat → Nat → Nat) (cI cB cZ cJ : ClassId) (ka : Int32) (hka0 : ¬ ka < 0) (hka1 : ¬ 31 < ka) (oM : Nat) (am_xs : Nat) (am_ys : Nat) (am_does : Nat) (fm : List Value) (hm_does : fm[49]? = some (.ref am_does)) (hm_xs : fm[50]? = some (.ref am_xs)) (hm_ys : fm[51]? = some (.ref am_ys)) (sz : Nat) : Met l y_Mo_perform w_Mo_perform ({ frames := 0, cells := 0, slots := 0, locals := 0 }) (va_Pc [.ref oM, .int ka] (PW dC dI cI cB cZ cJ [(oM, .inr (12, fm)), (am_xs, .inl (cI, 32, .inl (fun _ => 0))), (am_ys, .inl (cI, 32, .inl (fun _ => 0))), (am_does, .inl (cI, 32, .inl ((fun _ => (-1)))))] sz)) (va_Qi (fun (r : Int32) (_ : Unit) => r = 1) (fun _ _ => True) (va_A [] sz)) 0 0 (va_A [] sz) := by
  refine Met.ofW (cc := b_Mo_perform) (maxL := 7) (ret := (some .int)) (by decide) rfl ?_
  intro p e s m args below meth c s₁ B hml hv
  obtain ⟨rfl, hsz, hP, hK, hD⟩ := hv
  have hx := B.exec
  have hb := B.bytes
  have hr := B.returns
  have hts := atoms_spec (ws := w_Mo_perform) B.pre
  have hown : s.vm.findClass R_Mo = some m.cls := findClass_of_methodNamed B.named
  have hlocks := B.notSynchronized
  subst hsz
  generalize hAe : va_A [] s.heap.size = A at ⊢
  have hA : ∀ q : Nat, s.heap.size ≤ q → A q := fun q h => by rw [← hAe]; exact Or.inr h
  have hS : va_S A s.heap s.heap [] := va_S.rf
  have hP : va_P (dC, dI) classes [(oM, .inr (12, fm)), (am_xs, .inl (cI, 32, .inl (fun _ => 0))), (am_ys, .inl (cI, 32, .inl (fun _ => 0))), (am_does, .inl (cI, 32, .inl ((fun _ => (-1)))))] s.heap := hP
  have hl := lv_entry ([.ref oM, .int ka]) (n := 7) (Nat.le_of_ble_eq_true rfl)
  rw [lg_entry_eq]
  generalize (lg_sl ([.ref oM, .int ka]) ++ List.replicate (7 - (lg_sl ([.ref oM, .int ka])).length) Slot.unset).toArray = ls at hl ⊢
  have hl : lv_has ls 7 [(0, .ref oM), (1, .int ka)] := hl
  refine lv_aload_n hx hb d_Mo_perform_0 rfl (lv_at hl 0 rfl) ?_
  refine va_get (D := (dC, dI)) (ci := 12) (v := .ref am_xs) (C := R_Mo) (T := F_Mo) (N := 87) hx hb hts (fun w h => List.mem_cons_of_mem _ (in_Mo w h)) hown hK.1 hP 0 rfl rfl 50 (by decide) (hts _ (List.mem_cons_of_mem _ mw_1836)) (fun _ h9 => h9) hm_xs d_Mo_perform_1 ?_
  refine lv_iload_n hx hb d_Mo_perform_4 rfl (lv_at hl 1 rfl) ?_
  refine va_iald hx hb hK.1 hP 1 0 rfl rfl (ir_in hka0 hka1 (by decide) (by decide)) d_Mo_perform_5 ?_
  refine lv_istore_n hx hb d_Mo_perform_6 rfl hl (by decide) rfl (fun ls hl => ?_)
  have hl : lv_has ls 7 [(2, .int 0), (0, .ref oM), (1, .int ka)] := hl
  refine lv_aload_n hx hb d_Mo_perform_7 rfl (lv_at hl 1 rfl) ?_
  refine va_get (D := (dC, dI)) (ci := 12) (v := .ref am_ys) (C := R_Mo) (T := F_Mo) (N := 87) hx hb hts (fun w h => List.mem_cons_of_mem _ (in_Mo w h)) hown hK.1 hP 0 rfl rfl 51 (by decide) (hts _ (List.mem_cons_of_mem _ mw_1837)) (fun _ h9 => h9) hm_ys d_Mo_perform_8 ?_
  refine lv_iload_n hx hb d_Mo_perform_11 rfl (lv_at hl 2 rfl) ?_
  refine va_iald hx hb hK.1 hP 2 0 rfl rfl (ir_in hka0 hka1 (by decide) (by decide)) d_Mo_perform_12 ?_
  refine lv_istore_n hx hb d_Mo_perform_13 rfl hl (by decide) rfl (fun ls hl => ?_)
  have hl : lv_has ls 7 [(3, .int 0), (2, .int 0), (0, .ref oM), (1, .int ka)] := hl
  refine lv_aload_n hx hb d_Mo_perform_14 rfl (lv_at hl 2 rfl) ?_
  refine va_get (D := (dC, dI)) (ci := 12) (v := .ref am_does) (C := R_Mo) (T := F_Mo) (N := 87) hx hb hts (fun w h => List.mem_cons_of_mem _ (in_Mo w h)) hown hK.1 hP 0 rfl rfl 49 (by decide) (hts _ (List.mem_cons_of_mem _ mw_1835)) (fun _ h9 => h9) hm_does d_Mo_perform_15 ?_
  refine lv_iload_n hx hb d_Mo_perform_18 rfl (lv_at hl 3 rfl) ?_
  refine va_iald hx hb hK.1 hP 3 0 rfl rfl (ir_in hka0 hka1 (by decide) (by decide)) d_Mo_perform_19 ?_
  refine lv_istore hx hb d_Mo_perform_20 hl (by decide) rfl (fun ls hl => ?_)
  have hl : lv_has ls 7 [(4, .int (-1)), (3, .int 0), (2, .int 0), (0, .ref oM), (1, .int ka)] := hl
  refine lv_iload hx hb d_Mo_perform_22 (lv_at hl 0 rfl) ?_
  refine lv_if_eq (tgt := 33) hx hb d_Mo_perform_24 (by decide) (fun h => absurd h (by decide)) (fun _ => ?_)
  refine lv_iload hx hb d_Mo_perform_27 (lv_at hl 0 rfl) ?_
  refine lv_iconst (v := 1) hx hb d_Mo_perform_29 (by decide) ?_
  refine lv_icmp_ne (tgt := 62) hx hb d_Mo_perform_30 (by decide) (fun _ => ?_) (fun h => absurd h (by decide))
  refine lv_iload hx hb d_Mo_perform_62 (lv_at hl 0 rfl) ?_
  refine lv_iconst (v := 2) hx hb d_Mo_perform_64 (by decide) ?_
  refine lv_icmp_ne (tgt := 76) hx hb d_Mo_perform_65 (by decide) (fun _ => ?_) (fun h => absurd h (by decide))
  refine lv_iload hx hb d_Mo_perform_76 (lv_at hl 0 rfl) ?_
  refine lv_iconst (v := (-1)) hx hb d_Mo_perform_78 (by decide) ?_
  refine lv_icmp_eq (tgt := 94) hx hb d_Mo_perform_79 (by decide) (fun _ => ?_) (fun h => absurd (by decide) h)
  refine lv_iconst (v := 0) hx hb d_Mo_perform_94 (by decide) ?_
  refine lv_istore hx hb d_Mo_perform_95 hl (by decide) rfl (fun ls hl => ?_)
  have hl : lv_has ls 7 [(5, .int 0), (4, .int (-1)), (3, .int 0), (2, .int 0), (0, .ref oM), (1, .int ka)] := hl
  refine lv_iload hx hb d_Mo_perform_97 (lv_at hl 0 rfl) ?_
  refine lv_if_ne (tgt := 104) hx hb d_Mo_perform_99 (by decide) (fun h => absurd rfl h) (fun _ => ?_)
  refine lv_iconst (v := 1) hx hb d_Mo_perform_102 (by decide) ?_
  exact W.iret (v := 1) hx hb hr (fun t ht hW => ⟨⟨_, (), rfl, (rfl), trivial⟩, hS.F ht⟩) hS.2.2 d_Mo_perform_103
theorem d_Mo_act_0 : decode b_Mo_act 0 = .ok (.iload_n 1, 1) := by decide +kernel
theorem d_Mo_act_1 : decode b_Mo_act 1 = .ok (.ifCond .lt 9, 3) := by decide +kernel
theorem d_Mo_act_4 : decode b_Mo_act 4 = .ok (.iload_n 1, 1) := by decide +kernel
theorem d_Mo_act_5 : decode b_Mo_act 5 = .ok (.bipush 31, 2) := by decide +kernel
theorem d_Mo_act_7 : decode b_Mo_act 7 = .ok (.if_icmp .le 5, 3) := by decide +kernel
theorem d_Mo_act_10 : decode b_Mo_act 10 = .ok (.iconst (-1), 1) := by decide +kernel
theorem d_Mo_act_11 : decode b_Mo_act 11 = .ok (.ireturn, 1) := by decide +kernel
theorem d_Mo_act_12 : decode b_Mo_act 12 = .ok (.aload_n 0, 1) := by decide +kernel
theorem d_Mo_act_13 : decode b_Mo_act 13 = .ok (.iload_n 1, 1) := by decide +kernel
theorem d_Mo_act_14 : decode b_Mo_act 14 = .ok (.invokevirtual 436, 3) := by decide +kernel
theorem d_Mo_act_17 : decode b_Mo_act 17 = .ok (.istore_n 2, 1) := by decide +kernel
theorem d_Mo_act_18 : decode b_Mo_act 18 = .ok (.iload_n 2, 1) := by decide +kernel
theorem d_Mo_act_19 : decode b_Mo_act 19 = .ok (.ifCond .le 12, 3) := by decide +kernel
theorem d_Mo_act_22 : decode b_Mo_act 22 = .ok (.aload_n 0, 1) := by decide +kernel
theorem d_Mo_act_23 : decode b_Mo_act 23 = .ok (.iconst (-1), 1) := by decide +kernel
theorem d_Mo_act_24 : decode b_Mo_act 24 = .ok (.bipush 10, 2) := by decide +kernel
theorem d_Mo_act_26 : decode b_Mo_act 26 = .ok (.iload_n 2, 1) := by decide +kernel
theorem d_Mo_act_27 : decode b_Mo_act 27 = .ok (.iadd, 1) := by decide +kernel
theorem d_Mo_act_28 : decode b_Mo_act 28 = .ok (.invokevirtual 439, 3) := by decide +kernel
theorem d_Mo_act_31 : decode b_Mo_act 31 = .ok (.iload_n 2, 1) := by decide +kernel
theorem d_Mo_act_32 : decode b_Mo_act 32 = .ok (.ireturn, 1) := by decide +kernel
def fn_Mo_act (ka : Int32) : Int32 := (if ka < 0 then (-1) else (if ka ≤ 31 then 1 else (-1)))
set_option maxHeartbeats 4000000 in
set_option maxRecDepth 100000 in
theorem c_Mo_act (l : Launch) (dC : Nat → ClassId) (dI : Nat → Nat → Nat) (cI cB cZ cJ : ClassId) (ka : Int32) (oM : Nat) (am_xs : Nat) (am_ys : Nat) (am_does : Nat) (am_alarmSeconds : Nat) (am_alarmNodes : Nat) (am_alarmKinds : Nat) (fm : List Value) (hm_does : fm[49]? = some (.ref am_does)) (hm_xs : fm[50]? = some (.ref am_xs)) (hm_ys : fm[51]? = some (.ref am_ys)) (hm_now : fm[78]? = some (.int 0)) (hm_alarms : fm[79]? = some (.int 0)) (hm_alarmSeconds : fm[80]? = some (.ref am_alarmSeconds)) (hm_alarmNodes : fm[81]? = some (.ref am_alarmNodes)) (hm_alarmKinds : fm[82]? = some (.ref am_alarmKinds)) (sz : Nat) : Met l y_Mo_act w_Mo_act ({ frames := 1, cells := 0, slots := 0, locals := 26 }) (va_Pc [.ref oM, .int ka] (PW dC dI cI cB cZ cJ [(oM, .inr (12, fm)), (am_xs, .inl (cI, 32, .inl (fun _ => 0))), (am_ys, .inl (cI, 32, .inl (fun _ => 0))), (am_does, .inl (cI, 32, .inl ((fun _ => (-1))))), (am_alarmSeconds, .inl (cI, 200, .inl (fun _ => 0))), (am_alarmNodes, .inl (cI, 200, .inl (fun _ => 0))), (am_alarmKinds, .inl (cI, 200, .inl (fun _ => 0)))] sz)) (va_Qi (fun (r : Int32) (_ : Unit) => r = fn_Mo_act ka) (fun _ _ => True) (va_A [(oM, .inr (12, fm)), (am_xs, .inl (cI, 32, .inl (fun _ => 0))), (am_ys, .inl (cI, 32, .inl (fun _ => 0))), (am_does, .inl (cI, 32, .inl ((fun _ => (-1))))), (am_alarmSeconds, .inl (cI, 200, .inl (fun _ => 0))), (am_alarmNodes, .inl (cI, 200, .inl (fun _ => 0))), (am_alarmKinds, .inl (cI, 200, .inl (fun _ => 0)))] sz)) 0 0 (va_A [(oM, .inr (12, fm)), (am_xs, .inl (cI, 32, .inl (fun _ => 0))), (am_ys, .inl (cI, 32, .inl (fun _ => 0))), (am_does, .inl (cI, 32, .inl ((fun _ => (-1))))), (am_alarmSeconds, .inl (cI, 200, .inl (fun _ => 0))), (am_alarmNodes, .inl (cI, 200, .inl (fun _ => 0))), (am_alarmKinds, .inl (cI, 200, .inl (fun _ => 0)))] sz) := by
  refine Met.ofW (cc := b_Mo_act) (maxL := 3) (ret := (some .int)) (by decide) rfl ?_
  intro p e s m args below meth c s₁ B hml hv
  obtain ⟨rfl, hsz, hP, hK, hD⟩ := hv
  have hx := B.exec
  have hb := B.bytes
  have hr := B.returns
  have hts := atoms_spec (ws := w_Mo_act) B.pre
  have hown : s.vm.findClass R_Mo = some m.cls := findClass_of_methodNamed B.named
  have hlocks := B.notSynchronized
  subst hsz
  have hD := hD.self (sz := s.heap.size)
  generalize hAe : va_A [(oM, .inr (12, fm)), (am_xs, .inl (cI, 32, .inl (fun _ => 0))), (am_ys, .inl (cI, 32, .inl (fun _ => 0))), (am_does, .inl (cI, 32, .inl ((fun _ => (-1))))), (am_alarmSeconds, .inl (cI, 200, .inl (fun _ => 0))), (am_alarmNodes, .inl (cI, 200, .inl (fun _ => 0))), (am_alarmKinds, .inl (cI, 200, .inl (fun _ => 0)))] s.heap.size = A at hD ⊢
  have hA : ∀ q : Nat, s.heap.size ≤ q → A q := fun q h => by rw [← hAe]; exact Or.inr h
  have hS : va_S A s.heap s.heap [] := va_S.rf
  have hP : va_P (dC, dI) classes [(oM, .inr (12, fm)), (am_xs, .inl (cI, 32, .inl (fun _ => 0))), (am_ys, .inl (cI, 32, .inl (fun _ => 0))), (am_does, .inl (cI, 32, .inl ((fun _ => (-1))))), (am_alarmSeconds, .inl (cI, 200, .inl (fun _ => 0))), (am_alarmNodes, .inl (cI, 200, .inl (fun _ => 0))), (am_alarmKinds, .inl (cI, 200, .inl (fun _ => 0)))] s.heap := hP
  have hl := lv_entry ([.ref oM, .int ka]) (n := 3) (Nat.le_of_ble_eq_true rfl)
  rw [lg_entry_eq]
  generalize (lg_sl ([.ref oM, .int ka]) ++ List.replicate (3 - (lg_sl ([.ref oM, .int ka])).length) Slot.unset).toArray = ls at hl ⊢
  have hl : lv_has ls 3 [(0, .ref oM), (1, .int ka)] := hl
  refine lv_iload_n hx hb d_Mo_act_0 rfl (lv_at hl 1 rfl) ?_
  refine lv_if_lt (tgt := 10) hx hb d_Mo_act_1 (by decide) (fun h1 => ?_) (fun h1 => ?_)
  · refine lv_iconst (v := (-1)) hx hb d_Mo_act_10 (by decide) ?_
    exact W.iret (v := (-1)) hx hb hr (fun t ht hW => ⟨⟨_, (), rfl, (by unfold fn_Mo_act; rw [if_pos h1]), trivial⟩, hS.F ht⟩) hS.2.2 d_Mo_act_11
  · refine lv_iload_n hx hb d_Mo_act_4 rfl (lv_at hl 1 rfl) ?_
    refine lv_bipush (v := 31) hx hb d_Mo_act_5 (by decide) ?_
    refine lv_icmp_le (tgt := 12) hx hb d_Mo_act_7 (by decide) (fun h7 => ?_) (fun h7 => ?_)
    · refine lv_aload_n hx hb d_Mo_act_12 rfl (lv_at hl 0 rfl) ?_
      refine lv_iload_n hx hb d_Mo_act_13 rfl (lv_at hl 1 rfl) ?_
      have hPc := hP.sub (ws' := [(oM, .inr (12, fm)), (am_xs, .inl (cI, 32, .inl (fun _ => 0))), (am_ys, .inl (cI, 32, .inl (fun _ => 0))), (am_does, .inl (cI, 32, .inl ((fun _ => (-1)))))]) [0, 1, 2, 3] rfl
      have hDc := hD.sub (ws' := [(oM, .inr (12, fm)), (am_xs, .inl (cI, 32, .inl (fun _ => 0))), (am_ys, .inl (cI, 32, .inl (fun _ => 0))), (am_does, .inl (cI, 32, .inl ((fun _ => (-1)))))]) [0, 1, 2, 3] (by decide) rfl
      have hFc := pu_free hS hA
      refine va_calli (va_runV (C := R_Mo) (As := [.int ka]) (rest := []) ⟨hx, hb, hml, hown, hts⟩ (c_Mo_perform l dC dI cI cB cZ cJ ka h1 (Int32.not_lt.mpr h7) oM am_xs am_ys am_does fm hm_does hm_xs hm_ys s.heap.size) (cwV 1 hts (tb_V mw_2466 mw_2468 sl_160 mw_18 mw_2469) rfl rfl rfl ⟨rfl, by decide +kernel, by decide +kernel, by decide +kernel⟩ ⟨(Nat.le_of_ble_eq_true rfl), (Nat.le_of_ble_eq_true rfl)⟩) ⟨pw_blind, va_recv (q := (R_Mo, F_Mo, 87)) hK.1 hP (ci := 12) (q0 := 0) rfl rfl, pw_pre hPc hK hDc⟩ rfl rfl hl.1 rfl (lv_room (Nat.le_of_ble_eq_true rfl)) d_Mo_act_14 ⟨(Nat.le_of_ble_eq_true rfl), (Nat.le_of_ble_eq_true rfl)⟩) hS (fun q _ h => hFc q h) hFc (fun r u t H locs ht hvm hw hB hz1 hk1 hS => ?_)
      have hP := pu_kept hP hk1
      obtain rfl : r = 1 := hw
      refine lv_istore_n hx hb d_Mo_act_17 rfl hl (by decide) rfl (fun ls hl => ?_)
      have hl : lv_has ls 3 [(2, .int 1), (0, .ref oM), (1, .int ka)] := hl
      refine lv_iload_n hx hb d_Mo_act_18 rfl (lv_at hl 0 rfl) ?_
      refine lv_if_le (tgt := 31) hx hb d_Mo_act_19 (by decide) (fun h => absurd h (by decide)) (fun _ => ?_)
      refine lv_aload_n hx hb d_Mo_act_22 rfl (lv_at hl 1 rfl) ?_
      refine lv_iconst (v := (-1)) hx hb d_Mo_act_23 (by decide) ?_
      refine lv_bipush (v := 10) hx hb d_Mo_act_24 (by decide) ?_
      refine lv_iload_n hx hb d_Mo_act_26 rfl (lv_at hl 0 rfl) ?_
      refine lv_iadd hx hb d_Mo_act_27 ?_
      refine lv_topi (fun x0 e0 => ?_)
      obtain rfl : x0 = 11 := e0.trans (by decide)
      have hPc := hP.sub (ws' := [(oM, .inr (12, fm)), (am_alarmSeconds, .inl (cI, 200, .inl (fun _ => 0))), (am_alarmNodes, .inl (cI, 200, .inl (fun _ => 0))), (am_alarmKinds, .inl (cI, 200, .inl (fun _ => 0)))]) [0, 4, 5, 6] rfl
      have hDc := hD.sub (ws' := [(oM, .inr (12, fm)), (am_alarmSeconds, .inl (cI, 200, .inl (fun _ => 0))), (am_alarmNodes, .inl (cI, 200, .inl (fun _ => 0))), (am_alarmKinds, .inl (cI, 200, .inl (fun _ => 0)))]) [0, 4, 5, 6] (by decide) rfl
      have hFc := va_free (wc := [(oM, .inr (12, fm)), (am_alarmSeconds, .inl (cI, 200, .inl (fun _ => 0))), (am_alarmNodes, .inl (cI, 200, .inl (fun _ => 0))), (am_alarmKinds, .inl (cI, 200, .inl (fun _ => 0)))]) hD hS hA [0, 4, 5, 6] rfl
      refine va_callv (va_runV (C := R_Mo) (As := [.int (-1), .int 11]) (rest := []) ⟨hx, hb, hml, hown, hts⟩ (c_Mo_raise l dC dI cI cB cZ cJ (-1) 11 oM am_alarmSeconds am_alarmNodes am_alarmKinds fm hm_now hm_alarms hm_alarmSeconds hm_alarmNodes hm_alarmKinds H.size) (cwV 2 hts (tb_V mw_2513 mw_2515 sl_170 mw_18 mw_2516) rfl rfl rfl ⟨rfl, by decide +kernel, by decide +kernel, by decide +kernel⟩ ⟨(Nat.le_of_ble_eq_true rfl), (Nat.le_of_ble_eq_true rfl)⟩) ⟨pw_blind, va_recv (q := (R_Mo, F_Mo, 87)) hK.1 hP (ci := 12) (q0 := 0) rfl rfl, pw_pre hPc hK hDc⟩ rfl rfl hl.1 rfl (lv_room (Nat.le_of_ble_eq_true rfl)) d_Mo_act_28 ⟨(Nat.le_of_ble_eq_true rfl), (Nat.le_of_ble_eq_true rfl)⟩) hS (fun q _ h => hFc q h) hFc (fun u t H locs ht hvm hw hB hz1 hk1 hS => ?_)
      obtain ⟨hP, hD⟩ := va_join (wr := [(am_xs, .inl (cI, 32, .inl (fun _ => 0))), (am_ys, .inl (cI, 32, .inl (fun _ => 0))), (am_does, .inl (cI, 32, .inl ((fun _ => (-1)))))]) (w1 := []) hP hD [0, 4, 5, 6] [1, 2, 3] rfl rfl (by decide) (by decide) hk1 hFc wn_P wn_D
      have hP : va_P (dC, dI) classes [(am_xs, .inl (cI, 32, .inl (fun _ => 0))), (am_ys, .inl (cI, 32, .inl (fun _ => 0))), (am_does, .inl (cI, 32, .inl ((fun _ => (-1)))))] H := hP
      have hD : va_D A [(am_xs, .inl (cI, 32, .inl (fun _ => 0))), (am_ys, .inl (cI, 32, .inl (fun _ => 0))), (am_does, .inl (cI, 32, .inl ((fun _ => (-1)))))] := hD
      refine lv_iload_n hx hb d_Mo_act_31 rfl (lv_at hl 0 rfl) ?_
      exact W.iret (v := 1) hx hb hr (fun t ht hW => ⟨⟨_, (), rfl, (by unfold fn_Mo_act; rw [if_neg h1, if_pos h7]), trivial⟩, hS.F ht⟩) hS.2.2 d_Mo_act_32
    · refine lv_iconst (v := (-1)) hx hb d_Mo_act_10 (by decide) ?_
      exact W.iret (v := (-1)) hx hb hr (fun t ht hW => ⟨⟨_, (), rfl, (by unfold fn_Mo_act; rw [if_neg h1, if_neg h7]), trivial⟩, hS.F ht⟩) hS.2.2 d_Mo_act_11
theorem d_Mo_watch_0 : decode b_Mo_watch 0 = .ok (.iload_n 1, 1) := by decide +kernel
theorem d_Mo_watch_1 : decode b_Mo_watch 1 = .ok (.ifCond .lt 18, 3) := by decide +kernel
theorem d_Mo_watch_4 : decode b_Mo_watch 4 = .ok (.iload_n 1, 1) := by decide +kernel
theorem d_Mo_watch_5 : decode b_Mo_watch 5 = .ok (.bipush 15, 2) := by decide +kernel
theorem d_Mo_watch_7 : decode b_Mo_watch 7 = .ok (.if_icmp .gt 12, 3) := by decide +kernel
theorem d_Mo_watch_10 : decode b_Mo_watch 10 = .ok (.iload_n 2, 1) := by decide +kernel
theorem d_Mo_watch_11 : decode b_Mo_watch 11 = .ok (.ifCond .lt 8, 3) := by decide +kernel
theorem d_Mo_watch_14 : decode b_Mo_watch 14 = .ok (.iload_n 2, 1) := by decide +kernel
theorem d_Mo_watch_15 : decode b_Mo_watch 15 = .ok (.iconst 5, 1) := by decide +kernel
theorem d_Mo_watch_16 : decode b_Mo_watch 16 = .ok (.if_icmp .le 5, 3) := by decide +kernel
theorem d_Mo_watch_19 : decode b_Mo_watch 19 = .ok (.iconst 0, 1) := by decide +kernel
theorem d_Mo_watch_20 : decode b_Mo_watch 20 = .ok (.ireturn, 1) := by decide +kernel
theorem d_Mo_watch_21 : decode b_Mo_watch 21 = .ok (.aload_n 0, 1) := by decide +kernel
theorem d_Mo_watch_22 : decode b_Mo_watch 22 = .ok (.getfield 150, 3) := by decide +kernel
theorem d_Mo_watch_25 : decode b_Mo_watch 25 = .ok (.iload_n 1, 1) := by decide +kernel
theorem d_Mo_watch_26 : decode b_Mo_watch 26 = .ok (.iload_n 2, 1) := by decide +kernel
theorem d_Mo_watch_27 : decode b_Mo_watch 27 = .ok (.iastore, 1) := by decide +kernel
theorem d_Mo_watch_28 : decode b_Mo_watch 28 = .ok (.aload_n 0, 1) := by decide +kernel
theorem d_Mo_watch_29 : decode b_Mo_watch 29 = .ok (.getfield 153, 3) := by decide +kernel
theorem d_Mo_watch_32 : decode b_Mo_watch 32 = .ok (.iload_n 1, 1) := by decide +kernel
theorem d_Mo_watch_33 : decode b_Mo_watch 33 = .ok (.iload_n 3, 1) := by decide +kernel
theorem d_Mo_watch_34 : decode b_Mo_watch 34 = .ok (.iastore, 1) := by decide +kernel
theorem d_Mo_watch_35 : decode b_Mo_watch 35 = .ok (.aload_n 0, 1) := by decide +kernel
theorem d_Mo_watch_36 : decode b_Mo_watch 36 = .ok (.getfield 156, 3) := by decide +kernel
theorem d_Mo_watch_39 : decode b_Mo_watch 39 = .ok (.iload_n 1, 1) := by decide +kernel
theorem d_Mo_watch_40 : decode b_Mo_watch 40 = .ok (.lload 4, 2) := by decide +kernel
theorem d_Mo_watch_42 : decode b_Mo_watch 42 = .ok (.lastore, 1) := by decide +kernel
theorem d_Mo_watch_43 : decode b_Mo_watch 43 = .ok (.iconst 1, 1) := by decide +kernel
theorem d_Mo_watch_44 : decode b_Mo_watch 44 = .ok (.ireturn, 1) := by decide +kernel
def fn_Mo_watch (cc_ : Int32) (wh : Int32) (xx : Int32) (le : Int64) : Int32 := (if cc_ < 0 then 0 else (if 15 < cc_ then 0 else (if wh < 0 then 0 else (if wh ≤ 5 then 1 else 0))))
set_option maxHeartbeats 4000000 in
set_option maxRecDepth 100000 in
theorem c_Mo_watch (l : Launch) (dC : Nat → ClassId) (dI : Nat → Nat → Nat) (cI cB cZ cJ : ClassId) (cc_ : Int32) (wh : Int32) (xx : Int32) (le : Int64) (oM : Nat) (am_watchWhat : Nat) (am_watchOf : Nat) (am_watchLeast : Nat) (fm : List Value) (hm_watchWhat : fm[55]? = some (.ref am_watchWhat)) (hm_watchOf : fm[56]? = some (.ref am_watchOf)) (hm_watchLeast : fm[57]? = some (.ref am_watchLeast)) (sz : Nat) : Met l y_Mo_watch w_Mo_watch ({ frames := 0, cells := 0, slots := 0, locals := 0 }) (va_Pc [.ref oM, .int cc_, .int wh, .int xx, .long le] (PW dC dI cI cB cZ cJ [(oM, .inr (12, fm)), (am_watchWhat, .inl (cI, 16, .inl ((fun _ => (-1))))), (am_watchOf, .inl (cI, 16, .inl (fun _ => 0))), (am_watchLeast, .inl (cJ, 16, .inr (.inl (fun _ => 0))))] sz)) (va_Qi (fun (r : Int32) (_ : Unit) => r = fn_Mo_watch cc_ wh xx le) (fun _ _ => True) (va_A [(oM, .inr (12, fm)), (am_watchWhat, .inl (cI, 16, .inl ((fun _ => (-1))))), (am_watchOf, .inl (cI, 16, .inl (fun _ => 0))), (am_watchLeast, .inl (cJ, 16, .inr (.inl (fun _ => 0))))] sz)) 0 0 (va_A [(oM, .inr (12, fm)), (am_watchWhat, .inl (cI, 16, .inl ((fun _ => (-1))))), (am_watchOf, .inl (cI, 16, .inl (fun _ => 0))), (am_watchLeast, .inl (cJ, 16, .inr (.inl (fun _ => 0))))] sz) := by
  refine Met.ofW (cc := b_Mo_watch) (maxL := 6) (ret := (some .boolean)) (by decide) rfl ?_
  intro p e s m args below meth c s₁ B hml hv
  obtain ⟨rfl, hsz, hP, hK, hD⟩ := hv
  have hx := B.exec
  have hb := B.bytes
  have hr := B.returns
  have hts := atoms_spec (ws := w_Mo_watch) B.pre
  have hown : s.vm.findClass R_Mo = some m.cls := findClass_of_methodNamed B.named
  have hlocks := B.notSynchronized
  subst hsz
  have hD := hD.self (sz := s.heap.size)
  generalize hAe : va_A [(oM, .inr (12, fm)), (am_watchWhat, .inl (cI, 16, .inl ((fun _ => (-1))))), (am_watchOf, .inl (cI, 16, .inl (fun _ => 0))), (am_watchLeast, .inl (cJ, 16, .inr (.inl (fun _ => 0))))] s.heap.size = A at hD ⊢
  have hA : ∀ q : Nat, s.heap.size ≤ q → A q := fun q h => by rw [← hAe]; exact Or.inr h
  have hS : va_S A s.heap s.heap [] := va_S.rf
  have hP : va_P (dC, dI) classes [(oM, .inr (12, fm)), (am_watchWhat, .inl (cI, 16, .inl ((fun _ => (-1))))), (am_watchOf, .inl (cI, 16, .inl (fun _ => 0))), (am_watchLeast, .inl (cJ, 16, .inr (.inl (fun _ => 0))))] s.heap := hP
  have hl := lv_entry ([.ref oM, .int cc_, .int wh, .int xx, .long le]) (n := 6) (Nat.le_of_ble_eq_true rfl)
  rw [lg_entry_eq]
  generalize (lg_sl ([.ref oM, .int cc_, .int wh, .int xx, .long le]) ++ List.replicate (6 - (lg_sl ([.ref oM, .int cc_, .int wh, .int xx, .long le])).length) Slot.unset).toArray = ls at hl ⊢
  have hl : lv_has ls 6 [(0, .ref oM), (1, .int cc_), (2, .int wh), (3, .int xx), (4, .long le)] := hl
  refine lv_iload_n hx hb d_Mo_watch_0 rfl (lv_at hl 1 rfl) ?_
  refine lv_if_lt (tgt := 19) hx hb d_Mo_watch_1 (by decide) (fun h1 => ?_) (fun h1 => ?_)
  · refine lv_iconst (v := 0) hx hb d_Mo_watch_19 (by decide) ?_
    exact W.zret (v := 0) (ty := .boolean) hx hb hr (by decide) (fun t ht hW => ⟨⟨_, (), rfl, (by unfold fn_Mo_watch; rw [if_pos h1]), trivial⟩, hS.F ht⟩) hS.2.2 d_Mo_watch_20
  · refine lv_iload_n hx hb d_Mo_watch_4 rfl (lv_at hl 1 rfl) ?_
    refine lv_bipush (v := 15) hx hb d_Mo_watch_5 (by decide) ?_
    refine lv_icmp_gt (tgt := 19) hx hb d_Mo_watch_7 (by decide) (fun h7 => ?_) (fun h7 => ?_)
    · refine lv_iconst (v := 0) hx hb d_Mo_watch_19 (by decide) ?_
      exact W.zret (v := 0) (ty := .boolean) hx hb hr (by decide) (fun t ht hW => ⟨⟨_, (), rfl, (by unfold fn_Mo_watch; rw [if_neg h1, if_pos h7]), trivial⟩, hS.F ht⟩) hS.2.2 d_Mo_watch_20
    · refine lv_iload_n hx hb d_Mo_watch_10 rfl (lv_at hl 2 rfl) ?_
      refine lv_if_lt (tgt := 19) hx hb d_Mo_watch_11 (by decide) (fun h11 => ?_) (fun h11 => ?_)
      · refine lv_iconst (v := 0) hx hb d_Mo_watch_19 (by decide) ?_
        exact W.zret (v := 0) (ty := .boolean) hx hb hr (by decide) (fun t ht hW => ⟨⟨_, (), rfl, (by unfold fn_Mo_watch; rw [if_neg h1, if_neg h7, if_pos h11]), trivial⟩, hS.F ht⟩) hS.2.2 d_Mo_watch_20
      · refine lv_iload_n hx hb d_Mo_watch_14 rfl (lv_at hl 2 rfl) ?_
        refine lv_iconst (v := 5) hx hb d_Mo_watch_15 (by decide) ?_
        refine lv_icmp_le (tgt := 21) hx hb d_Mo_watch_16 (by decide) (fun h16 => ?_) (fun h16 => ?_)
        · refine lv_aload_n hx hb d_Mo_watch_21 rfl (lv_at hl 0 rfl) ?_
          refine va_get (D := (dC, dI)) (ci := 12) (v := .ref am_watchWhat) (C := R_Mo) (T := F_Mo) (N := 87) hx hb hts (fun w h => List.mem_cons_of_mem _ (in_Mo w h)) hown hK.1 hP 0 rfl rfl 55 (by decide) (hts _ (List.mem_cons_of_mem _ mw_1841)) (fun _ h9 => h9) hm_watchWhat d_Mo_watch_22 ?_
          refine lv_iload_n hx hb d_Mo_watch_25 rfl (lv_at hl 1 rfl) ?_
          refine lv_iload_n hx hb d_Mo_watch_26 rfl (lv_at hl 2 rfl) ?_
          refine va_iast hx hb hK.1 hP hD hS 1 0 rfl rfl (ir_in h1 h7 (by decide) (by decide)) d_Mo_watch_27 (fun H locs hP hD hS => ?_)
          have hP : va_P (dC, dI) classes [(oM, .inr (12, fm)), (am_watchWhat, .inl (cI, 16, .inl ((upd ((fun _ => (-1))) (cc_ : Int32).toNatClampNeg wh)))), (am_watchOf, .inl (cI, 16, .inl (fun _ => 0))), (am_watchLeast, .inl (cJ, 16, .inr (.inl (fun _ => 0))))] H := hP
          have hD : va_D A [(oM, .inr (12, fm)), (am_watchWhat, .inl (cI, 16, .inl ((upd ((fun _ => (-1))) (cc_ : Int32).toNatClampNeg wh)))), (am_watchOf, .inl (cI, 16, .inl (fun _ => 0))), (am_watchLeast, .inl (cJ, 16, .inr (.inl (fun _ => 0))))] := hD
          generalize (upd ((fun _ => (-1))) (cc_ : Int32).toNatClampNeg wh) = f27_5 at hP hD
          refine lv_aload_n hx hb d_Mo_watch_28 rfl (lv_at hl 0 rfl) ?_
          refine va_get (D := (dC, dI)) (ci := 12) (v := .ref am_watchOf) (C := R_Mo) (T := F_Mo) (N := 87) hx hb hts (fun w h => List.mem_cons_of_mem _ (in_Mo w h)) hown hK.1 hP 0 rfl rfl 56 (by decide) (hts _ (List.mem_cons_of_mem _ mw_1842)) (fun _ h9 => h9) hm_watchOf d_Mo_watch_29 ?_
          refine lv_iload_n hx hb d_Mo_watch_32 rfl (lv_at hl 1 rfl) ?_
          refine lv_iload_n hx hb d_Mo_watch_33 rfl (lv_at hl 3 rfl) ?_
          refine va_iast hx hb hK.1 hP hD hS 2 0 rfl rfl (ir_in h1 h7 (by decide) (by decide)) d_Mo_watch_34 (fun H locs hP hD hS => ?_)
          have hP : va_P (dC, dI) classes [(oM, .inr (12, fm)), (am_watchWhat, .inl (cI, 16, .inl f27_5)), (am_watchOf, .inl (cI, 16, .inl ((upd (fun _ => 0) (cc_ : Int32).toNatClampNeg xx)))), (am_watchLeast, .inl (cJ, 16, .inr (.inl (fun _ => 0))))] H := hP
          have hD : va_D A [(oM, .inr (12, fm)), (am_watchWhat, .inl (cI, 16, .inl f27_5)), (am_watchOf, .inl (cI, 16, .inl ((upd (fun _ => 0) (cc_ : Int32).toNatClampNeg xx)))), (am_watchLeast, .inl (cJ, 16, .inr (.inl (fun _ => 0))))] := hD
          generalize (upd (fun _ => 0) (cc_ : Int32).toNatClampNeg xx) = f34_6 at hP hD
          refine lv_aload_n hx hb d_Mo_watch_35 rfl (lv_at hl 0 rfl) ?_
          refine va_get (D := (dC, dI)) (ci := 12) (v := .ref am_watchLeast) (C := R_Mo) (T := F_Mo) (N := 87) hx hb hts (fun w h => List.mem_cons_of_mem _ (in_Mo w h)) hown hK.1 hP 0 rfl rfl 57 (by decide) (hts _ (List.mem_cons_of_mem _ mw_1843)) (fun _ h9 => h9) hm_watchLeast d_Mo_watch_36 ?_
          refine lv_iload_n hx hb d_Mo_watch_39 rfl (lv_at hl 1 rfl) ?_
          refine lv_lload hx hb d_Mo_watch_40 (lv_at hl 4 rfl) ?_
          refine va_last hx hb hK.1 hP hD hS 3 3 rfl rfl (ir_in h1 h7 (by decide) (by decide)) d_Mo_watch_42 (fun H locs hP hD hS => ?_)
          have hP : va_P (dC, dI) classes [(oM, .inr (12, fm)), (am_watchWhat, .inl (cI, 16, .inl f27_5)), (am_watchOf, .inl (cI, 16, .inl f34_6)), (am_watchLeast, .inl (cJ, 16, .inr (.inl ((vp_updL (fun _ => 0) (cc_ : Int32).toNatClampNeg le)))))] H := hP
          have hD : va_D A [(oM, .inr (12, fm)), (am_watchWhat, .inl (cI, 16, .inl f27_5)), (am_watchOf, .inl (cI, 16, .inl f34_6)), (am_watchLeast, .inl (cJ, 16, .inr (.inl ((vp_updL (fun _ => 0) (cc_ : Int32).toNatClampNeg le)))))] := hD
          generalize (vp_updL (fun _ => 0) (cc_ : Int32).toNatClampNeg le) = f42_7 at hP hD
          refine lv_iconst (v := 1) hx hb d_Mo_watch_43 (by decide) ?_
          exact W.zret (v := 1) (ty := .boolean) hx hb hr (by decide) (fun t ht hW => ⟨⟨_, (), rfl, (by unfold fn_Mo_watch; rw [if_neg h1, if_neg h7, if_neg h11, if_pos h16]), trivial⟩, hS.F ht⟩) hS.2.2 d_Mo_watch_44
        · refine lv_iconst (v := 0) hx hb d_Mo_watch_19 (by decide) ?_
          exact W.zret (v := 0) (ty := .boolean) hx hb hr (by decide) (fun t ht hW => ⟨⟨_, (), rfl, (by unfold fn_Mo_watch; rw [if_neg h1, if_neg h7, if_neg h11, if_neg h16]), trivial⟩, hS.F ht⟩) hS.2.2 d_Mo_watch_20
theorem d_Mo_bind_0 : decode b_Mo_bind 0 = .ok (.iload_n 1, 1) := by decide +kernel
theorem d_Mo_bind_1 : decode b_Mo_bind 1 = .ok (.ifCond .lt 69, 3) := by decide +kernel
theorem d_Mo_bind_4 : decode b_Mo_bind 4 = .ok (.iload_n 1, 1) := by decide +kernel
theorem d_Mo_bind_5 : decode b_Mo_bind 5 = .ok (.bipush 31, 2) := by decide +kernel
theorem d_Mo_bind_7 : decode b_Mo_bind 7 = .ok (.if_icmp .gt 63, 3) := by decide +kernel
theorem d_Mo_bind_10 : decode b_Mo_bind 10 = .ok (.iload_n 2, 1) := by decide +kernel
theorem d_Mo_bind_11 : decode b_Mo_bind 11 = .ok (.ifCond .lt 59, 3) := by decide +kernel
theorem d_Mo_bind_14 : decode b_Mo_bind 14 = .ok (.iload_n 2, 1) := by decide +kernel
theorem d_Mo_bind_15 : decode b_Mo_bind 15 = .ok (.iconst 4, 1) := by decide +kernel
theorem d_Mo_bind_16 : decode b_Mo_bind 16 = .ok (.if_icmp .gt 54, 3) := by decide +kernel
theorem d_Mo_bind_19 : decode b_Mo_bind 19 = .ok (.iload_n 2, 1) := by decide +kernel
theorem d_Mo_bind_20 : decode b_Mo_bind 20 = .ok (.ifCond .ne 16, 3) := by decide +kernel
theorem d_Mo_bind_23 : decode b_Mo_bind 23 = .ok (.iload 5, 2) := by decide +kernel
theorem d_Mo_bind_25 : decode b_Mo_bind 25 = .ok (.iconst 1, 1) := by decide +kernel
theorem d_Mo_bind_26 : decode b_Mo_bind 26 = .ok (.if_icmp .lt 44, 3) := by decide +kernel
theorem d_Mo_bind_29 : decode b_Mo_bind 29 = .ok (.iload 5, 2) := by decide +kernel
theorem d_Mo_bind_31 : decode b_Mo_bind 31 = .ok (.bipush 100, 2) := by decide +kernel
theorem d_Mo_bind_33 : decode b_Mo_bind 33 = .ok (.if_icmp .gt 37, 3) := by decide +kernel
theorem d_Mo_bind_36 : decode b_Mo_bind 36 = .ok (.iload_n 2, 1) := by decide +kernel
theorem d_Mo_bind_37 : decode b_Mo_bind 37 = .ok (.iconst 2, 1) := by decide +kernel
theorem d_Mo_bind_38 : decode b_Mo_bind 38 = .ok (.if_icmp .ne 15, 3) := by decide +kernel
theorem d_Mo_bind_41 : decode b_Mo_bind 41 = .ok (.iload 4, 2) := by decide +kernel
theorem d_Mo_bind_43 : decode b_Mo_bind 43 = .ok (.ifCond .lt 27, 3) := by decide +kernel
theorem d_Mo_bind_46 : decode b_Mo_bind 46 = .ok (.iload 4, 2) := by decide +kernel
theorem d_Mo_bind_48 : decode b_Mo_bind 48 = .ok (.bipush 9, 2) := by decide +kernel
theorem d_Mo_bind_50 : decode b_Mo_bind 50 = .ok (.if_icmp .gt 20, 3) := by decide +kernel
theorem d_Mo_bind_53 : decode b_Mo_bind 53 = .ok (.iload_n 2, 1) := by decide +kernel
theorem d_Mo_bind_54 : decode b_Mo_bind 54 = .ok (.iconst 3, 1) := by decide +kernel
theorem d_Mo_bind_55 : decode b_Mo_bind 55 = .ok (.if_icmp .ne 17, 3) := by decide +kernel
theorem d_Mo_bind_58 : decode b_Mo_bind 58 = .ok (.iload 4, 2) := by decide +kernel
theorem d_Mo_bind_60 : decode b_Mo_bind 60 = .ok (.iconst 1, 1) := by decide +kernel
theorem d_Mo_bind_61 : decode b_Mo_bind 61 = .ok (.if_icmp .lt 9, 3) := by decide +kernel
theorem d_Mo_bind_64 : decode b_Mo_bind 64 = .ok (.iload 4, 2) := by decide +kernel
theorem d_Mo_bind_66 : decode b_Mo_bind 66 = .ok (.iconst 5, 1) := by decide +kernel
theorem d_Mo_bind_67 : decode b_Mo_bind 67 = .ok (.if_icmp .le 5, 3) := by decide +kernel
theorem d_Mo_bind_70 : decode b_Mo_bind 70 = .ok (.iconst 0, 1) := by decide +kernel
theorem d_Mo_bind_71 : decode b_Mo_bind 71 = .ok (.ireturn, 1) := by decide +kernel
theorem d_Mo_bind_72 : decode b_Mo_bind 72 = .ok (.aload_n 0, 1) := by decide +kernel
theorem d_Mo_bind_73 : decode b_Mo_bind 73 = .ok (.getfield 132, 3) := by decide +kernel
theorem d_Mo_bind_76 : decode b_Mo_bind 76 = .ok (.iload_n 1, 1) := by decide +kernel
theorem d_Mo_bind_77 : decode b_Mo_bind 77 = .ok (.iload_n 2, 1) := by decide +kernel
theorem d_Mo_bind_78 : decode b_Mo_bind 78 = .ok (.iastore, 1) := by decide +kernel
theorem d_Mo_bind_79 : decode b_Mo_bind 79 = .ok (.aload_n 0, 1) := by decide +kernel
theorem d_Mo_bind_80 : decode b_Mo_bind 80 = .ok (.getfield 135, 3) := by decide +kernel
theorem d_Mo_bind_83 : decode b_Mo_bind 83 = .ok (.iload_n 1, 1) := by decide +kernel
theorem d_Mo_bind_84 : decode b_Mo_bind 84 = .ok (.iload_n 3, 1) := by decide +kernel
theorem d_Mo_bind_85 : decode b_Mo_bind 85 = .ok (.iastore, 1) := by decide +kernel
theorem d_Mo_bind_86 : decode b_Mo_bind 86 = .ok (.aload_n 0, 1) := by decide +kernel
theorem d_Mo_bind_87 : decode b_Mo_bind 87 = .ok (.getfield 138, 3) := by decide +kernel
theorem d_Mo_bind_90 : decode b_Mo_bind 90 = .ok (.iload_n 1, 1) := by decide +kernel
theorem d_Mo_bind_91 : decode b_Mo_bind 91 = .ok (.iload 4, 2) := by decide +kernel
theorem d_Mo_bind_93 : decode b_Mo_bind 93 = .ok (.iastore, 1) := by decide +kernel
theorem d_Mo_bind_94 : decode b_Mo_bind 94 = .ok (.aload_n 0, 1) := by decide +kernel
theorem d_Mo_bind_95 : decode b_Mo_bind 95 = .ok (.getfield 141, 3) := by decide +kernel
theorem d_Mo_bind_98 : decode b_Mo_bind 98 = .ok (.iload_n 1, 1) := by decide +kernel
theorem d_Mo_bind_99 : decode b_Mo_bind 99 = .ok (.iload 5, 2) := by decide +kernel
theorem d_Mo_bind_101 : decode b_Mo_bind 101 = .ok (.iastore, 1) := by decide +kernel
theorem d_Mo_bind_102 : decode b_Mo_bind 102 = .ok (.iconst 1, 1) := by decide +kernel
theorem d_Mo_bind_103 : decode b_Mo_bind 103 = .ok (.ireturn, 1) := by decide +kernel
def fn_Mo_bind (ka : Int32) (wh : Int32) (xx : Int32) (yy : Int32) (zz : Int32) : Int32 := (if ka < 0 then 0 else (if 31 < ka then 0 else (if wh < 0 then 0 else (if 4 < wh then 0 else (if wh = 0 then (if zz < 1 then 0 else (if 100 < zz then 0 else (if wh = 2 then (if yy < 0 then 0 else (if 9 < yy then 0 else (if wh = 3 then (if yy < 1 then 0 else (if yy ≤ 5 then 1 else 0)) else 1))) else (if wh = 3 then (if yy < 1 then 0 else (if yy ≤ 5 then 1 else 0)) else 1)))) else (if wh = 2 then (if yy < 0 then 0 else (if 9 < yy then 0 else (if wh = 3 then (if yy < 1 then 0 else (if yy ≤ 5 then 1 else 0)) else 1))) else (if wh = 3 then (if yy < 1 then 0 else (if yy ≤ 5 then 1 else 0)) else 1)))))))
set_option maxHeartbeats 4000000 in
set_option maxRecDepth 100000 in
theorem c_Mo_bind (l : Launch) (dC : Nat → ClassId) (dI : Nat → Nat → Nat) (cI cB cZ cJ : ClassId) (ka : Int32) (wh : Int32) (xx : Int32) (yy : Int32) (zz : Int32) (oM : Nat) (am_does : Nat) (am_xs : Nat) (am_ys : Nat) (am_zs : Nat) (fm : List Value) (hm_does : fm[49]? = some (.ref am_does)) (hm_xs : fm[50]? = some (.ref am_xs)) (hm_ys : fm[51]? = some (.ref am_ys)) (hm_zs : fm[52]? = some (.ref am_zs)) (sz : Nat) : Met l y_Mo_bind w_Mo_bind ({ frames := 0, cells := 0, slots := 0, locals := 0 }) (va_Pc [.ref oM, .int ka, .int wh, .int xx, .int yy, .int zz] (PW dC dI cI cB cZ cJ [(oM, .inr (12, fm)), (am_does, .inl (cI, 32, .inl ((fun _ => (-1))))), (am_xs, .inl (cI, 32, .inl (fun _ => 0))), (am_ys, .inl (cI, 32, .inl (fun _ => 0))), (am_zs, .inl (cI, 32, .inl (fun _ => 0)))] sz)) (va_Qi (fun (r : Int32) (_ : Unit) => r = fn_Mo_bind ka wh xx yy zz) (fun _ _ => True) (va_A [(oM, .inr (12, fm)), (am_does, .inl (cI, 32, .inl ((fun _ => (-1))))), (am_xs, .inl (cI, 32, .inl (fun _ => 0))), (am_ys, .inl (cI, 32, .inl (fun _ => 0))), (am_zs, .inl (cI, 32, .inl (fun _ => 0)))] sz)) 0 0 (va_A [(oM, .inr (12, fm)), (am_does, .inl (cI, 32, .inl ((fun _ => (-1))))), (am_xs, .inl (cI, 32, .inl (fun _ => 0))), (am_ys, .inl (cI, 32, .inl (fun _ => 0))), (am_zs, .inl (cI, 32, .inl (fun _ => 0)))] sz) := by
  refine Met.ofW (cc := b_Mo_bind) (maxL := 6) (ret := (some .boolean)) (by decide) rfl ?_
  intro p e s m args below meth c s₁ B hml hv
  obtain ⟨rfl, hsz, hP, hK, hD⟩ := hv
  have hx := B.exec
  have hb := B.bytes
  have hr := B.returns
  have hts := atoms_spec (ws := w_Mo_bind) B.pre
  have hown : s.vm.findClass R_Mo = some m.cls := findClass_of_methodNamed B.named
  have hlocks := B.notSynchronized
  subst hsz
  have hD := hD.self (sz := s.heap.size)
  generalize hAe : va_A [(oM, .inr (12, fm)), (am_does, .inl (cI, 32, .inl ((fun _ => (-1))))), (am_xs, .inl (cI, 32, .inl (fun _ => 0))), (am_ys, .inl (cI, 32, .inl (fun _ => 0))), (am_zs, .inl (cI, 32, .inl (fun _ => 0)))] s.heap.size = A at hD ⊢
  have hA : ∀ q : Nat, s.heap.size ≤ q → A q := fun q h => by rw [← hAe]; exact Or.inr h
  have hS : va_S A s.heap s.heap [] := va_S.rf
  have hP : va_P (dC, dI) classes [(oM, .inr (12, fm)), (am_does, .inl (cI, 32, .inl ((fun _ => (-1))))), (am_xs, .inl (cI, 32, .inl (fun _ => 0))), (am_ys, .inl (cI, 32, .inl (fun _ => 0))), (am_zs, .inl (cI, 32, .inl (fun _ => 0)))] s.heap := hP
  have hl := lv_entry ([.ref oM, .int ka, .int wh, .int xx, .int yy, .int zz]) (n := 6) (Nat.le_of_ble_eq_true rfl)
  rw [lg_entry_eq]
  generalize (lg_sl ([.ref oM, .int ka, .int wh, .int xx, .int yy, .int zz]) ++ List.replicate (6 - (lg_sl ([.ref oM, .int ka, .int wh, .int xx, .int yy, .int zz])).length) Slot.unset).toArray = ls at hl ⊢
  have hl : lv_has ls 6 [(0, .ref oM), (1, .int ka), (2, .int wh), (3, .int xx), (4, .int yy), (5, .int zz)] := hl
  refine lv_iload_n hx hb d_Mo_bind_0 rfl (lv_at hl 1 rfl) ?_
  refine lv_if_lt (tgt := 70) hx hb d_Mo_bind_1 (by decide) (fun h1 => ?_) (fun h1 => ?_)
  · refine lv_iconst (v := 0) hx hb d_Mo_bind_70 (by decide) ?_
    exact W.zret (v := 0) (ty := .boolean) hx hb hr (by decide) (fun t ht hW => ⟨⟨_, (), rfl, (by unfold fn_Mo_bind; rw [if_pos h1]), trivial⟩, hS.F ht⟩) hS.2.2 d_Mo_bind_71
  · refine lv_iload_n hx hb d_Mo_bind_4 rfl (lv_at hl 1 rfl) ?_
    refine lv_bipush (v := 31) hx hb d_Mo_bind_5 (by decide) ?_
    refine lv_icmp_gt (tgt := 70) hx hb d_Mo_bind_7 (by decide) (fun h7 => ?_) (fun h7 => ?_)
    · refine lv_iconst (v := 0) hx hb d_Mo_bind_70 (by decide) ?_
      exact W.zret (v := 0) (ty := .boolean) hx hb hr (by decide) (fun t ht hW => ⟨⟨_, (), rfl, (by unfold fn_Mo_bind; rw [if_neg h1, if_pos h7]), trivial⟩, hS.F ht⟩) hS.2.2 d_Mo_bind_71
    · refine lv_iload_n hx hb d_Mo_bind_10 rfl (lv_at hl 2 rfl) ?_
      refine lv_if_lt (tgt := 70) hx hb d_Mo_bind_11 (by decide) (fun h11 => ?_) (fun h11 => ?_)
      · refine lv_iconst (v := 0) hx hb d_Mo_bind_70 (by decide) ?_
        exact W.zret (v := 0) (ty := .boolean) hx hb hr (by decide) (fun t ht hW => ⟨⟨_, (), rfl, (by unfold fn_Mo_bind; rw [if_neg h1, if_neg h7, if_pos h11]), trivial⟩, hS.F ht⟩) hS.2.2 d_Mo_bind_71
      · refine lv_iload_n hx hb d_Mo_bind_14 rfl (lv_at hl 2 rfl) ?_
        refine lv_iconst (v := 4) hx hb d_Mo_bind_15 (by decide) ?_
        refine lv_icmp_gt (tgt := 70) hx hb d_Mo_bind_16 (by decide) (fun h16 => ?_) (fun h16 => ?_)
        · refine lv_iconst (v := 0) hx hb d_Mo_bind_70 (by decide) ?_
          exact W.zret (v := 0) (ty := .boolean) hx hb hr (by decide) (fun t ht hW => ⟨⟨_, (), rfl, (by unfold fn_Mo_bind; rw [if_neg h1, if_neg h7, if_neg h11, if_pos h16]), trivial⟩, hS.F ht⟩) hS.2.2 d_Mo_bind_71
        · refine lv_iload_n hx hb d_Mo_bind_19 rfl (lv_at hl 2 rfl) ?_
          refine lv_if_ne (tgt := 36) hx hb d_Mo_bind_20 (by decide) (fun h20 => ?_) (fun h20 => ?_)
          · refine lv_iload_n hx hb d_Mo_bind_36 rfl (lv_at hl 2 rfl) ?_
            refine lv_iconst (v := 2) hx hb d_Mo_bind_37 (by decide) ?_
            refine lv_icmp_ne (tgt := 53) hx hb d_Mo_bind_38 (by decide) (fun h38 => ?_) (fun h38 => ?_)
            · refine lv_iload_n hx hb d_Mo_bind_53 rfl (lv_at hl 2 rfl) ?_
              refine lv_iconst (v := 3) hx hb d_Mo_bind_54 (by decide) ?_
              refine lv_icmp_ne (tgt := 72) hx hb d_Mo_bind_55 (by decide) (fun h55 => ?_) (fun h55 => ?_)
              · refine lv_aload_n hx hb d_Mo_bind_72 rfl (lv_at hl 0 rfl) ?_
                refine va_get (D := (dC, dI)) (ci := 12) (v := .ref am_does) (C := R_Mo) (T := F_Mo) (N := 87) hx hb hts (fun w h => List.mem_cons_of_mem _ (in_Mo w h)) hown hK.1 hP 0 rfl rfl 49 (by decide) (hts _ (List.mem_cons_of_mem _ mw_1835)) (fun _ h9 => h9) hm_does d_Mo_bind_73 ?_
                refine lv_iload_n hx hb d_Mo_bind_76 rfl (lv_at hl 1 rfl) ?_
                refine lv_iload_n hx hb d_Mo_bind_77 rfl (lv_at hl 2 rfl) ?_
                refine va_iast hx hb hK.1 hP hD hS 1 0 rfl rfl (ir_in h1 h7 (by decide) (by decide)) d_Mo_bind_78 (fun H locs hP hD hS => ?_)
                have hP : va_P (dC, dI) classes [(oM, .inr (12, fm)), (am_does, .inl (cI, 32, .inl ((upd ((fun _ => (-1))) (ka : Int32).toNatClampNeg wh)))), (am_xs, .inl (cI, 32, .inl (fun _ => 0))), (am_ys, .inl (cI, 32, .inl (fun _ => 0))), (am_zs, .inl (cI, 32, .inl (fun _ => 0)))] H := hP
                have hD : va_D A [(oM, .inr (12, fm)), (am_does, .inl (cI, 32, .inl ((upd ((fun _ => (-1))) (ka : Int32).toNatClampNeg wh)))), (am_xs, .inl (cI, 32, .inl (fun _ => 0))), (am_ys, .inl (cI, 32, .inl (fun _ => 0))), (am_zs, .inl (cI, 32, .inl (fun _ => 0)))] := hD
                generalize (upd ((fun _ => (-1))) (ka : Int32).toNatClampNeg wh) = f78_8 at hP hD
                refine lv_aload_n hx hb d_Mo_bind_79 rfl (lv_at hl 0 rfl) ?_
                refine va_get (D := (dC, dI)) (ci := 12) (v := .ref am_xs) (C := R_Mo) (T := F_Mo) (N := 87) hx hb hts (fun w h => List.mem_cons_of_mem _ (in_Mo w h)) hown hK.1 hP 0 rfl rfl 50 (by decide) (hts _ (List.mem_cons_of_mem _ mw_1836)) (fun _ h9 => h9) hm_xs d_Mo_bind_80 ?_
                refine lv_iload_n hx hb d_Mo_bind_83 rfl (lv_at hl 1 rfl) ?_
                refine lv_iload_n hx hb d_Mo_bind_84 rfl (lv_at hl 3 rfl) ?_
                refine va_iast hx hb hK.1 hP hD hS 2 0 rfl rfl (ir_in h1 h7 (by decide) (by decide)) d_Mo_bind_85 (fun H locs hP hD hS => ?_)
                have hP : va_P (dC, dI) classes [(oM, .inr (12, fm)), (am_does, .inl (cI, 32, .inl f78_8)), (am_xs, .inl (cI, 32, .inl ((upd (fun _ => 0) (ka : Int32).toNatClampNeg xx)))), (am_ys, .inl (cI, 32, .inl (fun _ => 0))), (am_zs, .inl (cI, 32, .inl (fun _ => 0)))] H := hP
                have hD : va_D A [(oM, .inr (12, fm)), (am_does, .inl (cI, 32, .inl f78_8)), (am_xs, .inl (cI, 32, .inl ((upd (fun _ => 0) (ka : Int32).toNatClampNeg xx)))), (am_ys, .inl (cI, 32, .inl (fun _ => 0))), (am_zs, .inl (cI, 32, .inl (fun _ => 0)))] := hD
                generalize (upd (fun _ => 0) (ka : Int32).toNatClampNeg xx) = f85_9 at hP hD
                refine lv_aload_n hx hb d_Mo_bind_86 rfl (lv_at hl 0 rfl) ?_
                refine va_get (D := (dC, dI)) (ci := 12) (v := .ref am_ys) (C := R_Mo) (T := F_Mo) (N := 87) hx hb hts (fun w h => List.mem_cons_of_mem _ (in_Mo w h)) hown hK.1 hP 0 rfl rfl 51 (by decide) (hts _ (List.mem_cons_of_mem _ mw_1837)) (fun _ h9 => h9) hm_ys d_Mo_bind_87 ?_
                refine lv_iload_n hx hb d_Mo_bind_90 rfl (lv_at hl 1 rfl) ?_
                refine lv_iload hx hb d_Mo_bind_91 (lv_at hl 4 rfl) ?_
                refine va_iast hx hb hK.1 hP hD hS 3 0 rfl rfl (ir_in h1 h7 (by decide) (by decide)) d_Mo_bind_93 (fun H locs hP hD hS => ?_)
                have hP : va_P (dC, dI) classes [(oM, .inr (12, fm)), (am_does, .inl (cI, 32, .inl f78_8)), (am_xs, .inl (cI, 32, .inl f85_9)), (am_ys, .inl (cI, 32, .inl ((upd (fun _ => 0) (ka : Int32).toNatClampNeg yy)))), (am_zs, .inl (cI, 32, .inl (fun _ => 0)))] H := hP
                have hD : va_D A [(oM, .inr (12, fm)), (am_does, .inl (cI, 32, .inl f78_8)), (am_xs, .inl (cI, 32, .inl f85_9)), (am_ys, .inl (cI, 32, .inl ((upd (fun _ => 0) (ka : Int32).toNatClampNeg yy)))), (am_zs, .inl (cI, 32, .inl (fun _ => 0)))] := hD
                generalize (upd (fun _ => 0) (ka : Int32).toNatClampNeg yy) = f93_10 at hP hD
                refine lv_aload_n hx hb d_Mo_bind_94 rfl (lv_at hl 0 rfl) ?_
                refine va_get (D := (dC, dI)) (ci := 12) (v := .ref am_zs) (C := R_Mo) (T := F_Mo) (N := 87) hx hb hts (fun w h => List.mem_cons_of_mem _ (in_Mo w h)) hown hK.1 hP 0 rfl rfl 52 (by decide) (hts _ (List.mem_cons_of_mem _ mw_1838)) (fun _ h9 => h9) hm_zs d_Mo_bind_95 ?_
                refine lv_iload_n hx hb d_Mo_bind_98 rfl (lv_at hl 1 rfl) ?_
                refine lv_iload hx hb d_Mo_bind_99 (lv_at hl 5 rfl) ?_
                refine va_iast hx hb hK.1 hP hD hS 4 0 rfl rfl (ir_in h1 h7 (by decide) (by decide)) d_Mo_bind_101 (fun H locs hP hD hS => ?_)
                have hP : va_P (dC, dI) classes [(oM, .inr (12, fm)), (am_does, .inl (cI, 32, .inl f78_8)), (am_xs, .inl (cI, 32, .inl f85_9)), (am_ys, .inl (cI, 32, .inl f93_10)), (am_zs, .inl (cI, 32, .inl ((upd (fun _ => 0) (ka : Int32).toNatClampNeg zz))))] H := hP
                have hD : va_D A [(oM, .inr (12, fm)), (am_does, .inl (cI, 32, .inl f78_8)), (am_xs, .inl (cI, 32, .inl f85_9)), (am_ys, .inl (cI, 32, .inl f93_10)), (am_zs, .inl (cI, 32, .inl ((upd (fun _ => 0) (ka : Int32).toNatClampNeg zz))))] := hD
                generalize (upd (fun _ => 0) (ka : Int32).toNatClampNeg zz) = f101_11 at hP hD
                refine lv_iconst (v := 1) hx hb d_Mo_bind_102 (by decide) ?_
                exact W.zret (v := 1) (ty := .boolean) hx hb hr (by decide) (fun t ht hW => ⟨⟨_, (), rfl, (by unfold fn_Mo_bind; rw [if_neg h1, if_neg h7, if_neg h11, if_neg h16, if_neg h20, if_neg h38, if_neg h55]), trivial⟩, hS.F ht⟩) hS.2.2 d_Mo_bind_103
              · refine lv_iload hx hb d_Mo_bind_58 (lv_at hl 4 rfl) ?_
                refine lv_iconst (v := 1) hx hb d_Mo_bind_60 (by decide) ?_
                refine lv_icmp_lt (tgt := 70) hx hb d_Mo_bind_61 (by decide) (fun h61 => ?_) (fun h61 => ?_)
                · refine lv_iconst (v := 0) hx hb d_Mo_bind_70 (by decide) ?_
                  exact W.zret (v := 0) (ty := .boolean) hx hb hr (by decide) (fun t ht hW => ⟨⟨_, (), rfl, (by unfold fn_Mo_bind; rw [if_neg h1, if_neg h7, if_neg h11, if_neg h16, if_neg h20, if_neg h38, if_pos h55, if_pos h61]), trivial⟩, hS.F ht⟩) hS.2.2 d_Mo_bind_71
                · refine lv_iload hx hb d_Mo_bind_64 (lv_at hl 4 rfl) ?_
                  refine lv_iconst (v := 5) hx hb d_Mo_bind_66 (by decide) ?_
                  refine lv_icmp_le (tgt := 72) hx hb d_Mo_bind_67 (by decide) (fun h67 => ?_) (fun h67 => ?_)
                  · refine lv_aload_n hx hb d_Mo_bind_72 rfl (lv_at hl 0 rfl) ?_
                    refine va_get (D := (dC, dI)) (ci := 12) (v := .ref am_does) (C := R_Mo) (T := F_Mo) (N := 87) hx hb hts (fun w h => List.mem_cons_of_mem _ (in_Mo w h)) hown hK.1 hP 0 rfl rfl 49 (by decide) (hts _ (List.mem_cons_of_mem _ mw_1835)) (fun _ h9 => h9) hm_does d_Mo_bind_73 ?_
                    refine lv_iload_n hx hb d_Mo_bind_76 rfl (lv_at hl 1 rfl) ?_
                    refine lv_iload_n hx hb d_Mo_bind_77 rfl (lv_at hl 2 rfl) ?_
                    refine va_iast hx hb hK.1 hP hD hS 1 0 rfl rfl (ir_in h1 h7 (by decide) (by decide)) d_Mo_bind_78 (fun H locs hP hD hS => ?_)
                    have hP : va_P (dC, dI) classes [(oM, .inr (12, fm)), (am_does, .inl (cI, 32, .inl ((upd ((fun _ => (-1))) (ka : Int32).toNatClampNeg wh)))), (am_xs, .inl (cI, 32, .inl (fun _ => 0))), (am_ys, .inl (cI, 32, .inl (fun _ => 0))), (am_zs, .inl (cI, 32, .inl (fun _ => 0)))] H := hP
                    have hD : va_D A [(oM, .inr (12, fm)), (am_does, .inl (cI, 32, .inl ((upd ((fun _ => (-1))) (ka : Int32).toNatClampNeg wh)))), (am_xs, .inl (cI, 32, .inl (fun _ => 0))), (am_ys, .inl (cI, 32, .inl (fun _ => 0))), (am_zs, .inl (cI, 32, .inl (fun _ => 0)))] := hD
                    generalize (upd ((fun _ => (-1))) (ka : Int32).toNatClampNeg wh) = f78_10 at hP hD
                    refine lv_aload_n hx hb d_Mo_bind_79 rfl (lv_at hl 0 rfl) ?_
                    refine va_get (D := (dC, dI)) (ci := 12) (v := .ref am_xs) (C := R_Mo) (T := F_Mo) (N := 87) hx hb hts (fun w h => List.mem_cons_of_mem _ (in_Mo w h)) hown hK.1 hP 0 rfl rfl 50 (by decide) (hts _ (List.mem_cons_of_mem _ mw_1836)) (fun _ h9 => h9) hm_xs d_Mo_bind_80 ?_
                    refine lv_iload_n hx hb d_Mo_bind_83 rfl (lv_at hl 1 rfl) ?_
                    refine lv_iload_n hx hb d_Mo_bind_84 rfl (lv_at hl 3 rfl) ?_
                    refine va_iast hx hb hK.1 hP hD hS 2 0 rfl rfl (ir_in h1 h7 (by decide) (by decide)) d_Mo_bind_85 (fun H locs hP hD hS => ?_)
                    have hP : va_P (dC, dI) classes [(oM, .inr (12, fm)), (am_does, .inl (cI, 32, .inl f78_10)), (am_xs, .inl (cI, 32, .inl ((upd (fun _ => 0) (ka : Int32).toNatClampNeg xx)))), (am_ys, .inl (cI, 32, .inl (fun _ => 0))), (am_zs, .inl (cI, 32, .inl (fun _ => 0)))] H := hP
                    have hD : va_D A [(oM, .inr (12, fm)), (am_does, .inl (cI, 32, .inl f78_10)), (am_xs, .inl (cI, 32, .inl ((upd (fun _ => 0) (ka : Int32).toNatClampNeg xx)))), (am_ys, .inl (cI, 32, .inl (fun _ => 0))), (am_zs, .inl (cI, 32, .inl (fun _ => 0)))] := hD
                    generalize (upd (fun _ => 0) (ka : Int32).toNatClampNeg xx) = f85_11 at hP hD
                    refine lv_aload_n hx hb d_Mo_bind_86 rfl (lv_at hl 0 rfl) ?_
                    refine va_get (D := (dC, dI)) (ci := 12) (v := .ref am_ys) (C := R_Mo) (T := F_Mo) (N := 87) hx hb hts (fun w h => List.mem_cons_of_mem _ (in_Mo w h)) hown hK.1 hP 0 rfl rfl 51 (by decide) (hts _ (List.mem_cons_of_mem _ mw_1837)) (fun _ h9 => h9) hm_ys d_Mo_bind_87 ?_
                    refine lv_iload_n hx hb d_Mo_bind_90 rfl (lv_at hl 1 rfl) ?_
                    refine lv_iload hx hb d_Mo_bind_91 (lv_at hl 4 rfl) ?_
                    refine va_iast hx hb hK.1 hP hD hS 3 0 rfl rfl (ir_in h1 h7 (by decide) (by decide)) d_Mo_bind_93 (fun H locs hP hD hS => ?_)
                    have hP : va_P (dC, dI) classes [(oM, .inr (12, fm)), (am_does, .inl (cI, 32, .inl f78_10)), (am_xs, .inl (cI, 32, .inl f85_11)), (am_ys, .inl (cI, 32, .inl ((upd (fun _ => 0) (ka : Int32).toNatClampNeg yy)))), (am_zs, .inl (cI, 32, .inl (fun _ => 0)))] H := hP
                    have hD : va_D A [(oM, .inr (12, fm)), (am_does, .inl (cI, 32, .inl f78_10)), (am_xs, .inl (cI, 32, .inl f85_11)), (am_ys, .inl (cI, 32, .inl ((upd (fun _ => 0) (ka : Int32).toNatClampNeg yy)))), (am_zs, .inl (cI, 32, .inl (fun _ => 0)))] := hD
                    generalize (upd (fun _ => 0) (ka : Int32).toNatClampNeg yy) = f93_12 at hP hD
                    refine lv_aload_n hx hb d_Mo_bind_94 rfl (lv_at hl 0 rfl) ?_
                    refine va_get (D := (dC, dI)) (ci := 12) (v := .ref am_zs) (C := R_Mo) (T := F_Mo) (N := 87) hx hb hts (fun w h => List.mem_cons_of_mem _ (in_Mo w h)) hown hK.1 hP 0 rfl rfl 52 (by decide) (hts _ (List.mem_cons_of_mem _ mw_1838)) (fun _ h9 => h9) hm_zs d_Mo_bind_95 ?_
                    refine lv_iload_n hx hb d_Mo_bind_98 rfl (lv_at hl 1 rfl) ?_
                    refine lv_iload hx hb d_Mo_bind_99 (lv_at hl 5 rfl) ?_
                    refine va_iast hx hb hK.1 hP hD hS 4 0 rfl rfl (ir_in h1 h7 (by decide) (by decide)) d_Mo_bind_101 (fun H locs hP hD hS => ?_)
                    have hP : va_P (dC, dI) classes [(oM, .inr (12, fm)), (am_does, .inl (cI, 32, .inl f78_10)), (am_xs, .inl (cI, 32, .inl f85_11)), (am_ys, .inl (cI, 32, .inl f93_12)), (am_zs, .inl (cI, 32, .inl ((upd (fun _ => 0) (ka : Int32).toNatClampNeg zz))))] H := hP
                    have hD : va_D A [(oM, .inr (12, fm)), (am_does, .inl (cI, 32, .inl f78_10)), (am_xs, .inl (cI, 32, .inl f85_11)), (am_ys, .inl (cI, 32, .inl f93_12)), (am_zs, .inl (cI, 32, .inl ((upd (fun _ => 0) (ka : Int32).toNatClampNeg zz))))] := hD
                    generalize (upd (fun _ => 0) (ka : Int32).toNatClampNeg zz) = f101_13 at hP hD
                    refine lv_iconst (v := 1) hx hb d_Mo_bind_102 (by decide) ?_
                    exact W.zret (v := 1) (ty := .boolean) hx hb hr (by decide) (fun t ht hW => ⟨⟨_, (), rfl, (by unfold fn_Mo_bind; rw [if_neg h1, if_neg h7, if_neg h11, if_neg h16, if_neg h20, if_neg h38, if_pos h55, if_neg h61, if_pos h67]), trivial⟩, hS.F ht⟩) hS.2.2 d_Mo_bind_103
                  · refine lv_iconst (v := 0) hx hb d_Mo_bind_70 (by decide) ?_
                    exact W.zret (v := 0) (ty := .boolean) hx hb hr (by decide) (fun t ht hW => ⟨⟨_, (), rfl, (by unfold fn_Mo_bind; rw [if_neg h1, if_neg h7, if_neg h11, if_neg h16, if_neg h20, if_neg h38, if_pos h55, if_neg h61, if_neg h67]), trivial⟩, hS.F ht⟩) hS.2.2 d_Mo_bind_71
            · refine lv_iload hx hb d_Mo_bind_41 (lv_at hl 4 rfl) ?_
              refine lv_if_lt (tgt := 70) hx hb d_Mo_bind_43 (by decide) (fun h43 => ?_) (fun h43 => ?_)
              · refine lv_iconst (v := 0) hx hb d_Mo_bind_70 (by decide) ?_
                exact W.zret (v := 0) (ty := .boolean) hx hb hr (by decide) (fun t ht hW => ⟨⟨_, (), rfl, (by unfold fn_Mo_bind; rw [if_neg h1, if_neg h7, if_neg h11, if_neg h16, if_neg h20, if_pos h38, if_pos h43]), trivial⟩, hS.F ht⟩) hS.2.2 d_Mo_bind_71
              · refine lv_iload hx hb d_Mo_bind_46 (lv_at hl 4 rfl) ?_
                refine lv_bipush (v := 9) hx hb d_Mo_bind_48 (by decide) ?_
                refine lv_icmp_gt (tgt := 70) hx hb d_Mo_bind_50 (by decide) (fun h50 => ?_) (fun h50 => ?_)
                · refine lv_iconst (v := 0) hx hb d_Mo_bind_70 (by decide) ?_
                  exact W.zret (v := 0) (ty := .boolean) hx hb hr (by decide) (fun t ht hW => ⟨⟨_, (), rfl, (by unfold fn_Mo_bind; rw [if_neg h1, if_neg h7, if_neg h11, if_neg h16, if_neg h20, if_pos h38, if_neg h43, if_pos h50]), trivial⟩, hS.F ht⟩) hS.2.2 d_Mo_bind_71
                · refine lv_iload_n hx hb d_Mo_bind_53 rfl (lv_at hl 2 rfl) ?_
                  refine lv_iconst (v := 3) hx hb d_Mo_bind_54 (by decide) ?_
                  refine lv_icmp_ne (tgt := 72) hx hb d_Mo_bind_55 (by decide) (fun h55 => ?_) (fun h55 => ?_)
                  · refine lv_aload_n hx hb d_Mo_bind_72 rfl (lv_at hl 0 rfl) ?_
                    refine va_get (D := (dC, dI)) (ci := 12) (v := .ref am_does) (C := R_Mo) (T := F_Mo) (N := 87) hx hb hts (fun w h => List.mem_cons_of_mem _ (in_Mo w h)) hown hK.1 hP 0 rfl rfl 49 (by decide) (hts _ (List.mem_cons_of_mem _ mw_1835)) (fun _ h9 => h9) hm_does d_Mo_bind_73 ?_
                    refine lv_iload_n hx hb d_Mo_bind_76 rfl (lv_at hl 1 rfl) ?_
                    refine lv_iload_n hx hb d_Mo_bind_77 rfl (lv_at hl 2 rfl) ?_
                    refine va_iast hx hb hK.1 hP hD hS 1 0 rfl rfl (ir_in h1 h7 (by decide) (by decide)) d_Mo_bind_78 (fun H locs hP hD hS => ?_)
                    have hP : va_P (dC, dI) classes [(oM, .inr (12, fm)), (am_does, .inl (cI, 32, .inl ((upd ((fun _ => (-1))) (ka : Int32).toNatClampNeg wh)))), (am_xs, .inl (cI, 32, .inl (fun _ => 0))), (am_ys, .inl (cI, 32, .inl (fun _ => 0))), (am_zs, .inl (cI, 32, .inl (fun _ => 0)))] H := hP
                    have hD : va_D A [(oM, .inr (12, fm)), (am_does, .inl (cI, 32, .inl ((upd ((fun _ => (-1))) (ka : Int32).toNatClampNeg wh)))), (am_xs, .inl (cI, 32, .inl (fun _ => 0))), (am_ys, .inl (cI, 32, .inl (fun _ => 0))), (am_zs, .inl (cI, 32, .inl (fun _ => 0)))] := hD
                    generalize (upd ((fun _ => (-1))) (ka : Int32).toNatClampNeg wh) = f78_10 at hP hD
                    refine lv_aload_n hx hb d_Mo_bind_79 rfl (lv_at hl 0 rfl) ?_
                    refine va_get (D := (dC, dI)) (ci := 12) (v := .ref am_xs) (C := R_Mo) (T := F_Mo) (N := 87) hx hb hts (fun w h => List.mem_cons_of_mem _ (in_Mo w h)) hown hK.1 hP 0 rfl rfl 50 (by decide) (hts _ (List.mem_cons_of_mem _ mw_1836)) (fun _ h9 => h9) hm_xs d_Mo_bind_80 ?_
                    refine lv_iload_n hx hb d_Mo_bind_83 rfl (lv_at hl 1 rfl) ?_
                    refine lv_iload_n hx hb d_Mo_bind_84 rfl (lv_at hl 3 rfl) ?_
                    refine va_iast hx hb hK.1 hP hD hS 2 0 rfl rfl (ir_in h1 h7 (by decide) (by decide)) d_Mo_bind_85 (fun H locs hP hD hS => ?_)
                    have hP : va_P (dC, dI) classes [(oM, .inr (12, fm)), (am_does, .inl (cI, 32, .inl f78_10)), (am_xs, .inl (cI, 32, .inl ((upd (fun _ => 0) (ka : Int32).toNatClampNeg xx)))), (am_ys, .inl (cI, 32, .inl (fun _ => 0))), (am_zs, .inl (cI, 32, .inl (fun _ => 0)))] H := hP
                    have hD : va_D A [(oM, .inr (12, fm)), (am_does, .inl (cI, 32, .inl f78_10)), (am_xs, .inl (cI, 32, .inl ((upd (fun _ => 0) (ka : Int32).toNatClampNeg xx)))), (am_ys, .inl (cI, 32, .inl (fun _ => 0))), (am_zs, .inl (cI, 32, .inl (fun _ => 0)))] := hD
                    generalize (upd (fun _ => 0) (ka : Int32).toNatClampNeg xx) = f85_11 at hP hD
                    refine lv_aload_n hx hb d_Mo_bind_86 rfl (lv_at hl 0 rfl) ?_
                    refine va_get (D := (dC, dI)) (ci := 12) (v := .ref am_ys) (C := R_Mo) (T := F_Mo) (N := 87) hx hb hts (fun w h => List.mem_cons_of_mem _ (in_Mo w h)) hown hK.1 hP 0 rfl rfl 51 (by decide) (hts _ (List.mem_cons_of_mem _ mw_1837)) (fun _ h9 => h9) hm_ys d_Mo_bind_87 ?_
                    refine lv_iload_n hx hb d_Mo_bind_90 rfl (lv_at hl 1 rfl) ?_
                    refine lv_iload hx hb d_Mo_bind_91 (lv_at hl 4 rfl) ?_
                    refine va_iast hx hb hK.1 hP hD hS 3 0 rfl rfl (ir_in h1 h7 (by decide) (by decide)) d_Mo_bind_93 (fun H locs hP hD hS => ?_)
                    have hP : va_P (dC, dI) classes [(oM, .inr (12, fm)), (am_does, .inl (cI, 32, .inl f78_10)), (am_xs, .inl (cI, 32, .inl f85_11)), (am_ys, .inl (cI, 32, .inl ((upd (fun _ => 0) (ka : Int32).toNatClampNeg yy)))), (am_zs, .inl (cI, 32, .inl (fun _ => 0)))] H := hP
                    have hD : va_D A [(oM, .inr (12, fm)), (am_does, .inl (cI, 32, .inl f78_10)), (am_xs, .inl (cI, 32, .inl f85_11)), (am_ys, .inl (cI, 32, .inl ((upd (fun _ => 0) (ka : Int32).toNatClampNeg yy)))), (am_zs, .inl (cI, 32, .inl (fun _ => 0)))] := hD
                    generalize (upd (fun _ => 0) (ka : Int32).toNatClampNeg yy) = f93_12 at hP hD
                    refine lv_aload_n hx hb d_Mo_bind_94 rfl (lv_at hl 0 rfl) ?_
                    refine va_get (D := (dC, dI)) (ci := 12) (v := .ref am_zs) (C := R_Mo) (T := F_Mo) (N := 87) hx hb hts (fun w h => List.mem_cons_of_mem _ (in_Mo w h)) hown hK.1 hP 0 rfl rfl 52 (by decide) (hts _ (List.mem_cons_of_mem _ mw_1838)) (fun _ h9 => h9) hm_zs d_Mo_bind_95 ?_
                    refine lv_iload_n hx hb d_Mo_bind_98 rfl (lv_at hl 1 rfl) ?_
                    refine lv_iload hx hb d_Mo_bind_99 (lv_at hl 5 rfl) ?_
                    refine va_iast hx hb hK.1 hP hD hS 4 0 rfl rfl (ir_in h1 h7 (by decide) (by decide)) d_Mo_bind_101 (fun H locs hP hD hS => ?_)
                    have hP : va_P (dC, dI) classes [(oM, .inr (12, fm)), (am_does, .inl (cI, 32, .inl f78_10)), (am_xs, .inl (cI, 32, .inl f85_11)), (am_ys, .inl (cI, 32, .inl f93_12)), (am_zs, .inl (cI, 32, .inl ((upd (fun _ => 0) (ka : Int32).toNatClampNeg zz))))] H := hP
                    have hD : va_D A [(oM, .inr (12, fm)), (am_does, .inl (cI, 32, .inl f78_10)), (am_xs, .inl (cI, 32, .inl f85_11)), (am_ys, .inl (cI, 32, .inl f93_12)), (am_zs, .inl (cI, 32, .inl ((upd (fun _ => 0) (ka : Int32).toNatClampNeg zz))))] := hD
                    generalize (upd (fun _ => 0) (ka : Int32).toNatClampNeg zz) = f101_13 at hP hD
                    refine lv_iconst (v := 1) hx hb d_Mo_bind_102 (by decide) ?_
                    exact W.zret (v := 1) (ty := .boolean) hx hb hr (by decide) (fun t ht hW => ⟨⟨_, (), rfl, (by unfold fn_Mo_bind; rw [if_neg h1, if_neg h7, if_neg h11, if_neg h16, if_neg h20, if_pos h38, if_neg h43, if_neg h50, if_neg h55]), trivial⟩, hS.F ht⟩) hS.2.2 d_Mo_bind_103
                  · refine lv_iload hx hb d_Mo_bind_58 (lv_at hl 4 rfl) ?_
                    refine lv_iconst (v := 1) hx hb d_Mo_bind_60 (by decide) ?_
                    refine lv_icmp_lt (tgt := 70) hx hb d_Mo_bind_61 (by decide) (fun h61 => ?_) (fun h61 => ?_)
                    · refine lv_iconst (v := 0) hx hb d_Mo_bind_70 (by decide) ?_
                      exact W.zret (v := 0) (ty := .boolean) hx hb hr (by decide) (fun t ht hW => ⟨⟨_, (), rfl, (by unfold fn_Mo_bind; rw [if_neg h1, if_neg h7, if_neg h11, if_neg h16, if_neg h20, if_pos h38, if_neg h43, if_neg h50, if_pos h55, if_pos h61]), trivial⟩, hS.F ht⟩) hS.2.2 d_Mo_bind_71
                    · refine lv_iload hx hb d_Mo_bind_64 (lv_at hl 4 rfl) ?_
                      refine lv_iconst (v := 5) hx hb d_Mo_bind_66 (by decide) ?_
                      refine lv_icmp_le (tgt := 72) hx hb d_Mo_bind_67 (by decide) (fun h67 => ?_) (fun h67 => ?_)
                      · refine lv_aload_n hx hb d_Mo_bind_72 rfl (lv_at hl 0 rfl) ?_
                        refine va_get (D := (dC, dI)) (ci := 12) (v := .ref am_does) (C := R_Mo) (T := F_Mo) (N := 87) hx hb hts (fun w h => List.mem_cons_of_mem _ (in_Mo w h)) hown hK.1 hP 0 rfl rfl 49 (by decide) (hts _ (List.mem_cons_of_mem _ mw_1835)) (fun _ h9 => h9) hm_does d_Mo_bind_73 ?_
                        refine lv_iload_n hx hb d_Mo_bind_76 rfl (lv_at hl 1 rfl) ?_
                        refine lv_iload_n hx hb d_Mo_bind_77 rfl (lv_at hl 2 rfl) ?_
                        refine va_iast hx hb hK.1 hP hD hS 1 0 rfl rfl (ir_in h1 h7 (by decide) (by decide)) d_Mo_bind_78 (fun H locs hP hD hS => ?_)
                        have hP : va_P (dC, dI) classes [(oM, .inr (12, fm)), (am_does, .inl (cI, 32, .inl ((upd ((fun _ => (-1))) (ka : Int32).toNatClampNeg wh)))), (am_xs, .inl (cI, 32, .inl (fun _ => 0))), (am_ys, .inl (cI, 32, .inl (fun _ => 0))), (am_zs, .inl (cI, 32, .inl (fun _ => 0)))] H := hP
                        have hD : va_D A [(oM, .inr (12, fm)), (am_does, .inl (cI, 32, .inl ((upd ((fun _ => (-1))) (ka : Int32).toNatClampNeg wh)))), (am_xs, .inl (cI, 32, .inl (fun _ => 0))), (am_ys, .inl (cI, 32, .inl (fun _ => 0))), (am_zs, .inl (cI, 32, .inl (fun _ => 0)))] := hD
                        generalize (upd ((fun _ => (-1))) (ka : Int32).toNatClampNeg wh) = f78_12 at hP hD
                        refine lv_aload_n hx hb d_Mo_bind_79 rfl (lv_at hl 0 rfl) ?_
                        refine va_get (D := (dC, dI)) (ci := 12) (v := .ref am_xs) (C := R_Mo) (T := F_Mo) (N := 87) hx hb hts (fun w h => List.mem_cons_of_mem _ (in_Mo w h)) hown hK.1 hP 0 rfl rfl 50 (by decide) (hts _ (List.mem_cons_of_mem _ mw_1836)) (fun _ h9 => h9) hm_xs d_Mo_bind_80 ?_
                        refine lv_iload_n hx hb d_Mo_bind_83 rfl (lv_at hl 1 rfl) ?_
                        refine lv_iload_n hx hb d_Mo_bind_84 rfl (lv_at hl 3 rfl) ?_
                        refine va_iast hx hb hK.1 hP hD hS 2 0 rfl rfl (ir_in h1 h7 (by decide) (by decide)) d_Mo_bind_85 (fun H locs hP hD hS => ?_)
                        have hP : va_P (dC, dI) classes [(oM, .inr (12, fm)), (am_does, .inl (cI, 32, .inl f78_12)), (am_xs, .inl (cI, 32, .inl ((upd (fun _ => 0) (ka : Int32).toNatClampNeg xx)))), (am_ys, .inl (cI, 32, .inl (fun _ => 0))), (am_zs, .inl (cI, 32, .inl (fun _ => 0)))] H := hP
                        have hD : va_D A [(oM, .inr (12, fm)), (am_does, .inl (cI, 32, .inl f78_12)), (am_xs, .inl (cI, 32, .inl ((upd (fun _ => 0) (ka : Int32).toNatClampNeg xx)))), (am_ys, .inl (cI, 32, .inl (fun _ => 0))), (am_zs, .inl (cI, 32, .inl (fun _ => 0)))] := hD
                        generalize (upd (fun _ => 0) (ka : Int32).toNatClampNeg xx) = f85_13 at hP hD
                        refine lv_aload_n hx hb d_Mo_bind_86 rfl (lv_at hl 0 rfl) ?_
                        refine va_get (D := (dC, dI)) (ci := 12) (v := .ref am_ys) (C := R_Mo) (T := F_Mo) (N := 87) hx hb hts (fun w h => List.mem_cons_of_mem _ (in_Mo w h)) hown hK.1 hP 0 rfl rfl 51 (by decide) (hts _ (List.mem_cons_of_mem _ mw_1837)) (fun _ h9 => h9) hm_ys d_Mo_bind_87 ?_
                        refine lv_iload_n hx hb d_Mo_bind_90 rfl (lv_at hl 1 rfl) ?_
                        refine lv_iload hx hb d_Mo_bind_91 (lv_at hl 4 rfl) ?_
                        refine va_iast hx hb hK.1 hP hD hS 3 0 rfl rfl (ir_in h1 h7 (by decide) (by decide)) d_Mo_bind_93 (fun H locs hP hD hS => ?_)
                        have hP : va_P (dC, dI) classes [(oM, .inr (12, fm)), (am_does, .inl (cI, 32, .inl f78_12)), (am_xs, .inl (cI, 32, .inl f85_13)), (am_ys, .inl (cI, 32, .inl ((upd (fun _ => 0) (ka : Int32).toNatClampNeg yy)))), (am_zs, .inl (cI, 32, .inl (fun _ => 0)))] H := hP
                        have hD : va_D A [(oM, .inr (12, fm)), (am_does, .inl (cI, 32, .inl f78_12)), (am_xs, .inl (cI, 32, .inl f85_13)), (am_ys, .inl (cI, 32, .inl ((upd (fun _ => 0) (ka : Int32).toNatClampNeg yy)))), (am_zs, .inl (cI, 32, .inl (fun _ => 0)))] := hD
                        generalize (upd (fun _ => 0) (ka : Int32).toNatClampNeg yy) = f93_14 at hP hD
                        refine lv_aload_n hx hb d_Mo_bind_94 rfl (lv_at hl 0 rfl) ?_
                        refine va_get (D := (dC, dI)) (ci := 12) (v := .ref am_zs) (C := R_Mo) (T := F_Mo) (N := 87) hx hb hts (fun w h => List.mem_cons_of_mem _ (in_Mo w h)) hown hK.1 hP 0 rfl rfl 52 (by decide) (hts _ (List.mem_cons_of_mem _ mw_1838)) (fun _ h9 => h9) hm_zs d_Mo_bind_95 ?_
                        refine lv_iload_n hx hb d_Mo_bind_98 rfl (lv_at hl 1 rfl) ?_
                        refine lv_iload hx hb d_Mo_bind_99 (lv_at hl 5 rfl) ?_
                        refine va_iast hx hb hK.1 hP hD hS 4 0 rfl rfl (ir_in h1 h7 (by decide) (by decide)) d_Mo_bind_101 (fun H locs hP hD hS => ?_)
                        have hP : va_P (dC, dI) classes [(oM, .inr (12, fm)), (am_does, .inl (cI, 32, .inl f78_12)), (am_xs, .inl (cI, 32, .inl f85_13)), (am_ys, .inl (cI, 32, .inl f93_14)), (am_zs, .inl (cI, 32, .inl ((upd (fun _ => 0) (ka : Int32).toNatClampNeg zz))))] H := hP
                        have hD : va_D A [(oM, .inr (12, fm)), (am_does, .inl (cI, 32, .inl f78_12)), (am_xs, .inl (cI, 32, .inl f85_13)), (am_ys, .inl (cI, 32, .inl f93_14)), (am_zs, .inl (cI, 32, .inl ((upd (fun _ => 0) (ka : Int32).toNatClampNeg zz))))] := hD
                        generalize (upd (fun _ => 0) (ka : Int32).toNatClampNeg zz) = f101_15 at hP hD
                        refine lv_iconst (v := 1) hx hb d_Mo_bind_102 (by decide) ?_
                        exact W.zret (v := 1) (ty := .boolean) hx hb hr (by decide) (fun t ht hW => ⟨⟨_, (), rfl, (by unfold fn_Mo_bind; rw [if_neg h1, if_neg h7, if_neg h11, if_neg h16, if_neg h20, if_pos h38, if_neg h43, if_neg h50, if_pos h55, if_neg h61, if_pos h67]), trivial⟩, hS.F ht⟩) hS.2.2 d_Mo_bind_103
                      · refine lv_iconst (v := 0) hx hb d_Mo_bind_70 (by decide) ?_
                        exact W.zret (v := 0) (ty := .boolean) hx hb hr (by decide) (fun t ht hW => ⟨⟨_, (), rfl, (by unfold fn_Mo_bind; rw [if_neg h1, if_neg h7, if_neg h11, if_neg h16, if_neg h20, if_pos h38, if_neg h43, if_neg h50, if_pos h55, if_neg h61, if_neg h67]), trivial⟩, hS.F ht⟩) hS.2.2 d_Mo_bind_71
          · refine lv_iload hx hb d_Mo_bind_23 (lv_at hl 5 rfl) ?_
            refine lv_iconst (v := 1) hx hb d_Mo_bind_25 (by decide) ?_
            refine lv_icmp_lt (tgt := 70) hx hb d_Mo_bind_26 (by decide) (fun h26 => ?_) (fun h26 => ?_)
            · refine lv_iconst (v := 0) hx hb d_Mo_bind_70 (by decide) ?_
              exact W.zret (v := 0) (ty := .boolean) hx hb hr (by decide) (fun t ht hW => ⟨⟨_, (), rfl, (by unfold fn_Mo_bind; rw [if_neg h1, if_neg h7, if_neg h11, if_neg h16, if_pos h20, if_pos h26]), trivial⟩, hS.F ht⟩) hS.2.2 d_Mo_bind_71
            · refine lv_iload hx hb d_Mo_bind_29 (lv_at hl 5 rfl) ?_
              refine lv_bipush (v := 100) hx hb d_Mo_bind_31 (by decide) ?_
              refine lv_icmp_gt (tgt := 70) hx hb d_Mo_bind_33 (by decide) (fun h33 => ?_) (fun h33 => ?_)
              · refine lv_iconst (v := 0) hx hb d_Mo_bind_70 (by decide) ?_
                exact W.zret (v := 0) (ty := .boolean) hx hb hr (by decide) (fun t ht hW => ⟨⟨_, (), rfl, (by unfold fn_Mo_bind; rw [if_neg h1, if_neg h7, if_neg h11, if_neg h16, if_pos h20, if_neg h26, if_pos h33]), trivial⟩, hS.F ht⟩) hS.2.2 d_Mo_bind_71
              · refine lv_iload_n hx hb d_Mo_bind_36 rfl (lv_at hl 2 rfl) ?_
                refine lv_iconst (v := 2) hx hb d_Mo_bind_37 (by decide) ?_
                refine lv_icmp_ne (tgt := 53) hx hb d_Mo_bind_38 (by decide) (fun h38 => ?_) (fun h38 => ?_)
                · refine lv_iload_n hx hb d_Mo_bind_53 rfl (lv_at hl 2 rfl) ?_
                  refine lv_iconst (v := 3) hx hb d_Mo_bind_54 (by decide) ?_
                  refine lv_icmp_ne (tgt := 72) hx hb d_Mo_bind_55 (by decide) (fun h55 => ?_) (fun h55 => ?_)
                  · refine lv_aload_n hx hb d_Mo_bind_72 rfl (lv_at hl 0 rfl) ?_
                    refine va_get (D := (dC, dI)) (ci := 12) (v := .ref am_does) (C := R_Mo) (T := F_Mo) (N := 87) hx hb hts (fun w h => List.mem_cons_of_mem _ (in_Mo w h)) hown hK.1 hP 0 rfl rfl 49 (by decide) (hts _ (List.mem_cons_of_mem _ mw_1835)) (fun _ h9 => h9) hm_does d_Mo_bind_73 ?_
                    refine lv_iload_n hx hb d_Mo_bind_76 rfl (lv_at hl 1 rfl) ?_
                    refine lv_iload_n hx hb d_Mo_bind_77 rfl (lv_at hl 2 rfl) ?_
                    refine va_iast hx hb hK.1 hP hD hS 1 0 rfl rfl (ir_in h1 h7 (by decide) (by decide)) d_Mo_bind_78 (fun H locs hP hD hS => ?_)
                    have hP : va_P (dC, dI) classes [(oM, .inr (12, fm)), (am_does, .inl (cI, 32, .inl ((upd ((fun _ => (-1))) (ka : Int32).toNatClampNeg wh)))), (am_xs, .inl (cI, 32, .inl (fun _ => 0))), (am_ys, .inl (cI, 32, .inl (fun _ => 0))), (am_zs, .inl (cI, 32, .inl (fun _ => 0)))] H := hP
                    have hD : va_D A [(oM, .inr (12, fm)), (am_does, .inl (cI, 32, .inl ((upd ((fun _ => (-1))) (ka : Int32).toNatClampNeg wh)))), (am_xs, .inl (cI, 32, .inl (fun _ => 0))), (am_ys, .inl (cI, 32, .inl (fun _ => 0))), (am_zs, .inl (cI, 32, .inl (fun _ => 0)))] := hD
                    generalize (upd ((fun _ => (-1))) (ka : Int32).toNatClampNeg wh) = f78_10 at hP hD
                    refine lv_aload_n hx hb d_Mo_bind_79 rfl (lv_at hl 0 rfl) ?_
                    refine va_get (D := (dC, dI)) (ci := 12) (v := .ref am_xs) (C := R_Mo) (T := F_Mo) (N := 87) hx hb hts (fun w h => List.mem_cons_of_mem _ (in_Mo w h)) hown hK.1 hP 0 rfl rfl 50 (by decide) (hts _ (List.mem_cons_of_mem _ mw_1836)) (fun _ h9 => h9) hm_xs d_Mo_bind_80 ?_
                    refine lv_iload_n hx hb d_Mo_bind_83 rfl (lv_at hl 1 rfl) ?_
                    refine lv_iload_n hx hb d_Mo_bind_84 rfl (lv_at hl 3 rfl) ?_
                    refine va_iast hx hb hK.1 hP hD hS 2 0 rfl rfl (ir_in h1 h7 (by decide) (by decide)) d_Mo_bind_85 (fun H locs hP hD hS => ?_)
                    have hP : va_P (dC, dI) classes [(oM, .inr (12, fm)), (am_does, .inl (cI, 32, .inl f78_10)), (am_xs, .inl (cI, 32, .inl ((upd (fun _ => 0) (ka : Int32).toNatClampNeg xx)))), (am_ys, .inl (cI, 32, .inl (fun _ => 0))), (am_zs, .inl (cI, 32, .inl (fun _ => 0)))] H := hP
                    have hD : va_D A [(oM, .inr (12, fm)), (am_does, .inl (cI, 32, .inl f78_10)), (am_xs, .inl (cI, 32, .inl ((upd (fun _ => 0) (ka : Int32).toNatClampNeg xx)))), (am_ys, .inl (cI, 32, .inl (fun _ => 0))), (am_zs, .inl (cI, 32, .inl (fun _ => 0)))] := hD
                    generalize (upd (fun _ => 0) (ka : Int32).toNatClampNeg xx) = f85_11 at hP hD
                    refine lv_aload_n hx hb d_Mo_bind_86 rfl (lv_at hl 0 rfl) ?_
                    refine va_get (D := (dC, dI)) (ci := 12) (v := .ref am_ys) (C := R_Mo) (T := F_Mo) (N := 87) hx hb hts (fun w h => List.mem_cons_of_mem _ (in_Mo w h)) hown hK.1 hP 0 rfl rfl 51 (by decide) (hts _ (List.mem_cons_of_mem _ mw_1837)) (fun _ h9 => h9) hm_ys d_Mo_bind_87 ?_
                    refine lv_iload_n hx hb d_Mo_bind_90 rfl (lv_at hl 1 rfl) ?_
                    refine lv_iload hx hb d_Mo_bind_91 (lv_at hl 4 rfl) ?_
                    refine va_iast hx hb hK.1 hP hD hS 3 0 rfl rfl (ir_in h1 h7 (by decide) (by decide)) d_Mo_bind_93 (fun H locs hP hD hS => ?_)
                    have hP : va_P (dC, dI) classes [(oM, .inr (12, fm)), (am_does, .inl (cI, 32, .inl f78_10)), (am_xs, .inl (cI, 32, .inl f85_11)), (am_ys, .inl (cI, 32, .inl ((upd (fun _ => 0) (ka : Int32).toNatClampNeg yy)))), (am_zs, .inl (cI, 32, .inl (fun _ => 0)))] H := hP
                    have hD : va_D A [(oM, .inr (12, fm)), (am_does, .inl (cI, 32, .inl f78_10)), (am_xs, .inl (cI, 32, .inl f85_11)), (am_ys, .inl (cI, 32, .inl ((upd (fun _ => 0) (ka : Int32).toNatClampNeg yy)))), (am_zs, .inl (cI, 32, .inl (fun _ => 0)))] := hD
                    generalize (upd (fun _ => 0) (ka : Int32).toNatClampNeg yy) = f93_12 at hP hD
                    refine lv_aload_n hx hb d_Mo_bind_94 rfl (lv_at hl 0 rfl) ?_
                    refine va_get (D := (dC, dI)) (ci := 12) (v := .ref am_zs) (C := R_Mo) (T := F_Mo) (N := 87) hx hb hts (fun w h => List.mem_cons_of_mem _ (in_Mo w h)) hown hK.1 hP 0 rfl rfl 52 (by decide) (hts _ (List.mem_cons_of_mem _ mw_1838)) (fun _ h9 => h9) hm_zs d_Mo_bind_95 ?_
                    refine lv_iload_n hx hb d_Mo_bind_98 rfl (lv_at hl 1 rfl) ?_
                    refine lv_iload hx hb d_Mo_bind_99 (lv_at hl 5 rfl) ?_
                    refine va_iast hx hb hK.1 hP hD hS 4 0 rfl rfl (ir_in h1 h7 (by decide) (by decide)) d_Mo_bind_101 (fun H locs hP hD hS => ?_)
                    have hP : va_P (dC, dI) classes [(oM, .inr (12, fm)), (am_does, .inl (cI, 32, .inl f78_10)), (am_xs, .inl (cI, 32, .inl f85_11)), (am_ys, .inl (cI, 32, .inl f93_12)), (am_zs, .inl (cI, 32, .inl ((upd (fun _ => 0) (ka : Int32).toNatClampNeg zz))))] H := hP
                    have hD : va_D A [(oM, .inr (12, fm)), (am_does, .inl (cI, 32, .inl f78_10)), (am_xs, .inl (cI, 32, .inl f85_11)), (am_ys, .inl (cI, 32, .inl f93_12)), (am_zs, .inl (cI, 32, .inl ((upd (fun _ => 0) (ka : Int32).toNatClampNeg zz))))] := hD
                    generalize (upd (fun _ => 0) (ka : Int32).toNatClampNeg zz) = f101_13 at hP hD
                    refine lv_iconst (v := 1) hx hb d_Mo_bind_102 (by decide) ?_
                    exact W.zret (v := 1) (ty := .boolean) hx hb hr (by decide) (fun t ht hW => ⟨⟨_, (), rfl, (by unfold fn_Mo_bind; rw [if_neg h1, if_neg h7, if_neg h11, if_neg h16, if_pos h20, if_neg h26, if_neg h33, if_neg h38, if_neg h55]), trivial⟩, hS.F ht⟩) hS.2.2 d_Mo_bind_103
                  · refine lv_iload hx hb d_Mo_bind_58 (lv_at hl 4 rfl) ?_
                    refine lv_iconst (v := 1) hx hb d_Mo_bind_60 (by decide) ?_
                    refine lv_icmp_lt (tgt := 70) hx hb d_Mo_bind_61 (by decide) (fun h61 => ?_) (fun h61 => ?_)
                    · refine lv_iconst (v := 0) hx hb d_Mo_bind_70 (by decide) ?_
                      exact W.zret (v := 0) (ty := .boolean) hx hb hr (by decide) (fun t ht hW => ⟨⟨_, (), rfl, (by unfold fn_Mo_bind; rw [if_neg h1, if_neg h7, if_neg h11, if_neg h16, if_pos h20, if_neg h26, if_neg h33, if_neg h38, if_pos h55, if_pos h61]), trivial⟩, hS.F ht⟩) hS.2.2 d_Mo_bind_71
                    · refine lv_iload hx hb d_Mo_bind_64 (lv_at hl 4 rfl) ?_
                      refine lv_iconst (v := 5) hx hb d_Mo_bind_66 (by decide) ?_
                      refine lv_icmp_le (tgt := 72) hx hb d_Mo_bind_67 (by decide) (fun h67 => ?_) (fun h67 => ?_)
                      · refine lv_aload_n hx hb d_Mo_bind_72 rfl (lv_at hl 0 rfl) ?_
                        refine va_get (D := (dC, dI)) (ci := 12) (v := .ref am_does) (C := R_Mo) (T := F_Mo) (N := 87) hx hb hts (fun w h => List.mem_cons_of_mem _ (in_Mo w h)) hown hK.1 hP 0 rfl rfl 49 (by decide) (hts _ (List.mem_cons_of_mem _ mw_1835)) (fun _ h9 => h9) hm_does d_Mo_bind_73 ?_
                        refine lv_iload_n hx hb d_Mo_bind_76 rfl (lv_at hl 1 rfl) ?_
                        refine lv_iload_n hx hb d_Mo_bind_77 rfl (lv_at hl 2 rfl) ?_
                        refine va_iast hx hb hK.1 hP hD hS 1 0 rfl rfl (ir_in h1 h7 (by decide) (by decide)) d_Mo_bind_78 (fun H locs hP hD hS => ?_)
                        have hP : va_P (dC, dI) classes [(oM, .inr (12, fm)), (am_does, .inl (cI, 32, .inl ((upd ((fun _ => (-1))) (ka : Int32).toNatClampNeg wh)))), (am_xs, .inl (cI, 32, .inl (fun _ => 0))), (am_ys, .inl (cI, 32, .inl (fun _ => 0))), (am_zs, .inl (cI, 32, .inl (fun _ => 0)))] H := hP
                        have hD : va_D A [(oM, .inr (12, fm)), (am_does, .inl (cI, 32, .inl ((upd ((fun _ => (-1))) (ka : Int32).toNatClampNeg wh)))), (am_xs, .inl (cI, 32, .inl (fun _ => 0))), (am_ys, .inl (cI, 32, .inl (fun _ => 0))), (am_zs, .inl (cI, 32, .inl (fun _ => 0)))] := hD
                        generalize (upd ((fun _ => (-1))) (ka : Int32).toNatClampNeg wh) = f78_12 at hP hD
                        refine lv_aload_n hx hb d_Mo_bind_79 rfl (lv_at hl 0 rfl) ?_
                        refine va_get (D := (dC, dI)) (ci := 12) (v := .ref am_xs) (C := R_Mo) (T := F_Mo) (N := 87) hx hb hts (fun w h => List.mem_cons_of_mem _ (in_Mo w h)) hown hK.1 hP 0 rfl rfl 50 (by decide) (hts _ (List.mem_cons_of_mem _ mw_1836)) (fun _ h9 => h9) hm_xs d_Mo_bind_80 ?_
                        refine lv_iload_n hx hb d_Mo_bind_83 rfl (lv_at hl 1 rfl) ?_
                        refine lv_iload_n hx hb d_Mo_bind_84 rfl (lv_at hl 3 rfl) ?_
                        refine va_iast hx hb hK.1 hP hD hS 2 0 rfl rfl (ir_in h1 h7 (by decide) (by decide)) d_Mo_bind_85 (fun H locs hP hD hS => ?_)
                        have hP : va_P (dC, dI) classes [(oM, .inr (12, fm)), (am_does, .inl (cI, 32, .inl f78_12)), (am_xs, .inl (cI, 32, .inl ((upd (fun _ => 0) (ka : Int32).toNatClampNeg xx)))), (am_ys, .inl (cI, 32, .inl (fun _ => 0))), (am_zs, .inl (cI, 32, .inl (fun _ => 0)))] H := hP
                        have hD : va_D A [(oM, .inr (12, fm)), (am_does, .inl (cI, 32, .inl f78_12)), (am_xs, .inl (cI, 32, .inl ((upd (fun _ => 0) (ka : Int32).toNatClampNeg xx)))), (am_ys, .inl (cI, 32, .inl (fun _ => 0))), (am_zs, .inl (cI, 32, .inl (fun _ => 0)))] := hD
                        generalize (upd (fun _ => 0) (ka : Int32).toNatClampNeg xx) = f85_13 at hP hD
                        refine lv_aload_n hx hb d_Mo_bind_86 rfl (lv_at hl 0 rfl) ?_
                        refine va_get (D := (dC, dI)) (ci := 12) (v := .ref am_ys) (C := R_Mo) (T := F_Mo) (N := 87) hx hb hts (fun w h => List.mem_cons_of_mem _ (in_Mo w h)) hown hK.1 hP 0 rfl rfl 51 (by decide) (hts _ (List.mem_cons_of_mem _ mw_1837)) (fun _ h9 => h9) hm_ys d_Mo_bind_87 ?_
                        refine lv_iload_n hx hb d_Mo_bind_90 rfl (lv_at hl 1 rfl) ?_
                        refine lv_iload hx hb d_Mo_bind_91 (lv_at hl 4 rfl) ?_
                        refine va_iast hx hb hK.1 hP hD hS 3 0 rfl rfl (ir_in h1 h7 (by decide) (by decide)) d_Mo_bind_93 (fun H locs hP hD hS => ?_)
                        have hP : va_P (dC, dI) classes [(oM, .inr (12, fm)), (am_does, .inl (cI, 32, .inl f78_12)), (am_xs, .inl (cI, 32, .inl f85_13)), (am_ys, .inl (cI, 32, .inl ((upd (fun _ => 0) (ka : Int32).toNatClampNeg yy)))), (am_zs, .inl (cI, 32, .inl (fun _ => 0)))] H := hP
                        have hD : va_D A [(oM, .inr (12, fm)), (am_does, .inl (cI, 32, .inl f78_12)), (am_xs, .inl (cI, 32, .inl f85_13)), (am_ys, .inl (cI, 32, .inl ((upd (fun _ => 0) (ka : Int32).toNatClampNeg yy)))), (am_zs, .inl (cI, 32, .inl (fun _ => 0)))] := hD
                        generalize (upd (fun _ => 0) (ka : Int32).toNatClampNeg yy) = f93_14 at hP hD
                        refine lv_aload_n hx hb d_Mo_bind_94 rfl (lv_at hl 0 rfl) ?_
                        refine va_get (D := (dC, dI)) (ci := 12) (v := .ref am_zs) (C := R_Mo) (T := F_Mo) (N := 87) hx hb hts (fun w h => List.mem_cons_of_mem _ (in_Mo w h)) hown hK.1 hP 0 rfl rfl 52 (by decide) (hts _ (List.mem_cons_of_mem _ mw_1838)) (fun _ h9 => h9) hm_zs d_Mo_bind_95 ?_
                        refine lv_iload_n hx hb d_Mo_bind_98 rfl (lv_at hl 1 rfl) ?_
                        refine lv_iload hx hb d_Mo_bind_99 (lv_at hl 5 rfl) ?_
                        refine va_iast hx hb hK.1 hP hD hS 4 0 rfl rfl (ir_in h1 h7 (by decide) (by decide)) d_Mo_bind_101 (fun H locs hP hD hS => ?_)
                        have hP : va_P (dC, dI) classes [(oM, .inr (12, fm)), (am_does, .inl (cI, 32, .inl f78_12)), (am_xs, .inl (cI, 32, .inl f85_13)), (am_ys, .inl (cI, 32, .inl f93_14)), (am_zs, .inl (cI, 32, .inl ((upd (fun _ => 0) (ka : Int32).toNatClampNeg zz))))] H := hP
                        have hD : va_D A [(oM, .inr (12, fm)), (am_does, .inl (cI, 32, .inl f78_12)), (am_xs, .inl (cI, 32, .inl f85_13)), (am_ys, .inl (cI, 32, .inl f93_14)), (am_zs, .inl (cI, 32, .inl ((upd (fun _ => 0) (ka : Int32).toNatClampNeg zz))))] := hD
                        generalize (upd (fun _ => 0) (ka : Int32).toNatClampNeg zz) = f101_15 at hP hD
                        refine lv_iconst (v := 1) hx hb d_Mo_bind_102 (by decide) ?_
                        exact W.zret (v := 1) (ty := .boolean) hx hb hr (by decide) (fun t ht hW => ⟨⟨_, (), rfl, (by unfold fn_Mo_bind; rw [if_neg h1, if_neg h7, if_neg h11, if_neg h16, if_pos h20, if_neg h26, if_neg h33, if_neg h38, if_pos h55, if_neg h61, if_pos h67]), trivial⟩, hS.F ht⟩) hS.2.2 d_Mo_bind_103
                      · refine lv_iconst (v := 0) hx hb d_Mo_bind_70 (by decide) ?_
                        exact W.zret (v := 0) (ty := .boolean) hx hb hr (by decide) (fun t ht hW => ⟨⟨_, (), rfl, (by unfold fn_Mo_bind; rw [if_neg h1, if_neg h7, if_neg h11, if_neg h16, if_pos h20, if_neg h26, if_neg h33, if_neg h38, if_pos h55, if_neg h61, if_neg h67]), trivial⟩, hS.F ht⟩) hS.2.2 d_Mo_bind_71
                · refine lv_iload hx hb d_Mo_bind_41 (lv_at hl 4 rfl) ?_
                  refine lv_if_lt (tgt := 70) hx hb d_Mo_bind_43 (by decide) (fun h43 => ?_) (fun h43 => ?_)
                  · refine lv_iconst (v := 0) hx hb d_Mo_bind_70 (by decide) ?_
                    exact W.zret (v := 0) (ty := .boolean) hx hb hr (by decide) (fun t ht hW => ⟨⟨_, (), rfl, (by unfold fn_Mo_bind; rw [if_neg h1, if_neg h7, if_neg h11, if_neg h16, if_pos h20, if_neg h26, if_neg h33, if_pos h38, if_pos h43]), trivial⟩, hS.F ht⟩) hS.2.2 d_Mo_bind_71
                  · refine lv_iload hx hb d_Mo_bind_46 (lv_at hl 4 rfl) ?_
                    refine lv_bipush (v := 9) hx hb d_Mo_bind_48 (by decide) ?_
                    refine lv_icmp_gt (tgt := 70) hx hb d_Mo_bind_50 (by decide) (fun h50 => ?_) (fun h50 => ?_)
                    · refine lv_iconst (v := 0) hx hb d_Mo_bind_70 (by decide) ?_
                      exact W.zret (v := 0) (ty := .boolean) hx hb hr (by decide) (fun t ht hW => ⟨⟨_, (), rfl, (by unfold fn_Mo_bind; rw [if_neg h1, if_neg h7, if_neg h11, if_neg h16, if_pos h20, if_neg h26, if_neg h33, if_pos h38, if_neg h43, if_pos h50]), trivial⟩, hS.F ht⟩) hS.2.2 d_Mo_bind_71
                    · refine lv_iload_n hx hb d_Mo_bind_53 rfl (lv_at hl 2 rfl) ?_
                      refine lv_iconst (v := 3) hx hb d_Mo_bind_54 (by decide) ?_
                      refine lv_icmp_ne (tgt := 72) hx hb d_Mo_bind_55 (by decide) (fun h55 => ?_) (fun h55 => ?_)
                      · refine lv_aload_n hx hb d_Mo_bind_72 rfl (lv_at hl 0 rfl) ?_
                        refine va_get (D := (dC, dI)) (ci := 12) (v := .ref am_does) (C := R_Mo) (T := F_Mo) (N := 87) hx hb hts (fun w h => List.mem_cons_of_mem _ (in_Mo w h)) hown hK.1 hP 0 rfl rfl 49 (by decide) (hts _ (List.mem_cons_of_mem _ mw_1835)) (fun _ h9 => h9) hm_does d_Mo_bind_73 ?_
                        refine lv_iload_n hx hb d_Mo_bind_76 rfl (lv_at hl 1 rfl) ?_
                        refine lv_iload_n hx hb d_Mo_bind_77 rfl (lv_at hl 2 rfl) ?_
                        refine va_iast hx hb hK.1 hP hD hS 1 0 rfl rfl (ir_in h1 h7 (by decide) (by decide)) d_Mo_bind_78 (fun H locs hP hD hS => ?_)
                        have hP : va_P (dC, dI) classes [(oM, .inr (12, fm)), (am_does, .inl (cI, 32, .inl ((upd ((fun _ => (-1))) (ka : Int32).toNatClampNeg wh)))), (am_xs, .inl (cI, 32, .inl (fun _ => 0))), (am_ys, .inl (cI, 32, .inl (fun _ => 0))), (am_zs, .inl (cI, 32, .inl (fun _ => 0)))] H := hP
                        have hD : va_D A [(oM, .inr (12, fm)), (am_does, .inl (cI, 32, .inl ((upd ((fun _ => (-1))) (ka : Int32).toNatClampNeg wh)))), (am_xs, .inl (cI, 32, .inl (fun _ => 0))), (am_ys, .inl (cI, 32, .inl (fun _ => 0))), (am_zs, .inl (cI, 32, .inl (fun _ => 0)))] := hD
                        generalize (upd ((fun _ => (-1))) (ka : Int32).toNatClampNeg wh) = f78_12 at hP hD
                        refine lv_aload_n hx hb d_Mo_bind_79 rfl (lv_at hl 0 rfl) ?_
                        refine va_get (D := (dC, dI)) (ci := 12) (v := .ref am_xs) (C := R_Mo) (T := F_Mo) (N := 87) hx hb hts (fun w h => List.mem_cons_of_mem _ (in_Mo w h)) hown hK.1 hP 0 rfl rfl 50 (by decide) (hts _ (List.mem_cons_of_mem _ mw_1836)) (fun _ h9 => h9) hm_xs d_Mo_bind_80 ?_
                        refine lv_iload_n hx hb d_Mo_bind_83 rfl (lv_at hl 1 rfl) ?_
                        refine lv_iload_n hx hb d_Mo_bind_84 rfl (lv_at hl 3 rfl) ?_
                        refine va_iast hx hb hK.1 hP hD hS 2 0 rfl rfl (ir_in h1 h7 (by decide) (by decide)) d_Mo_bind_85 (fun H locs hP hD hS => ?_)
                        have hP : va_P (dC, dI) classes [(oM, .inr (12, fm)), (am_does, .inl (cI, 32, .inl f78_12)), (am_xs, .inl (cI, 32, .inl ((upd (fun _ => 0) (ka : Int32).toNatClampNeg xx)))), (am_ys, .inl (cI, 32, .inl (fun _ => 0))), (am_zs, .inl (cI, 32, .inl (fun _ => 0)))] H := hP
                        have hD : va_D A [(oM, .inr (12, fm)), (am_does, .inl (cI, 32, .inl f78_12)), (am_xs, .inl (cI, 32, .inl ((upd (fun _ => 0) (ka : Int32).toNatClampNeg xx)))), (am_ys, .inl (cI, 32, .inl (fun _ => 0))), (am_zs, .inl (cI, 32, .inl (fun _ => 0)))] := hD
                        generalize (upd (fun _ => 0) (ka : Int32).toNatClampNeg xx) = f85_13 at hP hD
                        refine lv_aload_n hx hb d_Mo_bind_86 rfl (lv_at hl 0 rfl) ?_
                        refine va_get (D := (dC, dI)) (ci := 12) (v := .ref am_ys) (C := R_Mo) (T := F_Mo) (N := 87) hx hb hts (fun w h => List.mem_cons_of_mem _ (in_Mo w h)) hown hK.1 hP 0 rfl rfl 51 (by decide) (hts _ (List.mem_cons_of_mem _ mw_1837)) (fun _ h9 => h9) hm_ys d_Mo_bind_87 ?_
                        refine lv_iload_n hx hb d_Mo_bind_90 rfl (lv_at hl 1 rfl) ?_
                        refine lv_iload hx hb d_Mo_bind_91 (lv_at hl 4 rfl) ?_
                        refine va_iast hx hb hK.1 hP hD hS 3 0 rfl rfl (ir_in h1 h7 (by decide) (by decide)) d_Mo_bind_93 (fun H locs hP hD hS => ?_)
                        have hP : va_P (dC, dI) classes [(oM, .inr (12, fm)), (am_does, .inl (cI, 32, .inl f78_12)), (am_xs, .inl (cI, 32, .inl f85_13)), (am_ys, .inl (cI, 32, .inl ((upd (fun _ => 0) (ka : Int32).toNatClampNeg yy)))), (am_zs, .inl (cI, 32, .inl (fun _ => 0)))] H := hP
                        have hD : va_D A [(oM, .inr (12, fm)), (am_does, .inl (cI, 32, .inl f78_12)), (am_xs, .inl (cI, 32, .inl f85_13)), (am_ys, .inl (cI, 32, .inl ((upd (fun _ => 0) (ka : Int32).toNatClampNeg yy)))), (am_zs, .inl (cI, 32, .inl (fun _ => 0)))] := hD
                        generalize (upd (fun _ => 0) (ka : Int32).toNatClampNeg yy) = f93_14 at hP hD
                        refine lv_aload_n hx hb d_Mo_bind_94 rfl (lv_at hl 0 rfl) ?_
                        refine va_get (D := (dC, dI)) (ci := 12) (v := .ref am_zs) (C := R_Mo) (T := F_Mo) (N := 87) hx hb hts (fun w h => List.mem_cons_of_mem _ (in_Mo w h)) hown hK.1 hP 0 rfl rfl 52 (by decide) (hts _ (List.mem_cons_of_mem _ mw_1838)) (fun _ h9 => h9) hm_zs d_Mo_bind_95 ?_
                        refine lv_iload_n hx hb d_Mo_bind_98 rfl (lv_at hl 1 rfl) ?_
                        refine lv_iload hx hb d_Mo_bind_99 (lv_at hl 5 rfl) ?_
                        refine va_iast hx hb hK.1 hP hD hS 4 0 rfl rfl (ir_in h1 h7 (by decide) (by decide)) d_Mo_bind_101 (fun H locs hP hD hS => ?_)
                        have hP : va_P (dC, dI) classes [(oM, .inr (12, fm)), (am_does, .inl (cI, 32, .inl f78_12)), (am_xs, .inl (cI, 32, .inl f85_13)), (am_ys, .inl (cI, 32, .inl f93_14)), (am_zs, .inl (cI, 32, .inl ((upd (fun _ => 0) (ka : Int32).toNatClampNeg zz))))] H := hP
                        have hD : va_D A [(oM, .inr (12, fm)), (am_does, .inl (cI, 32, .inl f78_12)), (am_xs, .inl (cI, 32, .inl f85_13)), (am_ys, .inl (cI, 32, .inl f93_14)), (am_zs, .inl (cI, 32, .inl ((upd (fun _ => 0) (ka : Int32).toNatClampNeg zz))))] := hD
                        generalize (upd (fun _ => 0) (ka : Int32).toNatClampNeg zz) = f101_15 at hP hD
                        refine lv_iconst (v := 1) hx hb d_Mo_bind_102 (by decide) ?_
                        exact W.zret (v := 1) (ty := .boolean) hx hb hr (by decide) (fun t ht hW => ⟨⟨_, (), rfl, (by unfold fn_Mo_bind; rw [if_neg h1, if_neg h7, if_neg h11, if_neg h16, if_pos h20, if_neg h26, if_neg h33, if_pos h38, if_neg h43, if_neg h50, if_neg h55]), trivial⟩, hS.F ht⟩) hS.2.2 d_Mo_bind_103
                      · refine lv_iload hx hb d_Mo_bind_58 (lv_at hl 4 rfl) ?_
                        refine lv_iconst (v := 1) hx hb d_Mo_bind_60 (by decide) ?_
                        refine lv_icmp_lt (tgt := 70) hx hb d_Mo_bind_61 (by decide) (fun h61 => ?_) (fun h61 => ?_)
                        · refine lv_iconst (v := 0) hx hb d_Mo_bind_70 (by decide) ?_
                          exact W.zret (v := 0) (ty := .boolean) hx hb hr (by decide) (fun t ht hW => ⟨⟨_, (), rfl, (by unfold fn_Mo_bind; rw [if_neg h1, if_neg h7, if_neg h11, if_neg h16, if_pos h20, if_neg h26, if_neg h33, if_pos h38, if_neg h43, if_neg h50, if_pos h55, if_pos h61]), trivial⟩, hS.F ht⟩) hS.2.2 d_Mo_bind_71
                        · refine lv_iload hx hb d_Mo_bind_64 (lv_at hl 4 rfl) ?_
                          refine lv_iconst (v := 5) hx hb d_Mo_bind_66 (by decide) ?_
                          refine lv_icmp_le (tgt := 72) hx hb d_Mo_bind_67 (by decide) (fun h67 => ?_) (fun h67 => ?_)
                          · refine lv_aload_n hx hb d_Mo_bind_72 rfl (lv_at hl 0 rfl) ?_
                            refine va_get (D := (dC, dI)) (ci := 12) (v := .ref am_does) (C := R_Mo) (T := F_Mo) (N := 87) hx hb hts (fun w h => List.mem_cons_of_mem _ (in_Mo w h)) hown hK.1 hP 0 rfl rfl 49 (by decide) (hts _ (List.mem_cons_of_mem _ mw_1835)) (fun _ h9 => h9) hm_does d_Mo_bind_73 ?_
                            refine lv_iload_n hx hb d_Mo_bind_76 rfl (lv_at hl 1 rfl) ?_
                            refine lv_iload_n hx hb d_Mo_bind_77 rfl (lv_at hl 2 rfl) ?_
                            refine va_iast hx hb hK.1 hP hD hS 1 0 rfl rfl (ir_in h1 h7 (by decide) (by decide)) d_Mo_bind_78 (fun H locs hP hD hS => ?_)
                            have hP : va_P (dC, dI) classes [(oM, .inr (12, fm)), (am_does, .inl (cI, 32, .inl ((upd ((fun _ => (-1))) (ka : Int32).toNatClampNeg wh)))), (am_xs, .inl (cI, 32, .inl (fun _ => 0))), (am_ys, .inl (cI, 32, .inl (fun _ => 0))), (am_zs, .inl (cI, 32, .inl (fun _ => 0)))] H := hP
                            have hD : va_D A [(oM, .inr (12, fm)), (am_does, .inl (cI, 32, .inl ((upd ((fun _ => (-1))) (ka : Int32).toNatClampNeg wh)))), (am_xs, .inl (cI, 32, .inl (fun _ => 0))), (am_ys, .inl (cI, 32, .inl (fun _ => 0))), (am_zs, .inl (cI, 32, .inl (fun _ => 0)))] := hD
                            generalize (upd ((fun _ => (-1))) (ka : Int32).toNatClampNeg wh) = f78_14 at hP hD
                            refine lv_aload_n hx hb d_Mo_bind_79 rfl (lv_at hl 0 rfl) ?_
                            refine va_get (D := (dC, dI)) (ci := 12) (v := .ref am_xs) (C := R_Mo) (T := F_Mo) (N := 87) hx hb hts (fun w h => List.mem_cons_of_mem _ (in_Mo w h)) hown hK.1 hP 0 rfl rfl 50 (by decide) (hts _ (List.mem_cons_of_mem _ mw_1836)) (fun _ h9 => h9) hm_xs d_Mo_bind_80 ?_
                            refine lv_iload_n hx hb d_Mo_bind_83 rfl (lv_at hl 1 rfl) ?_
                            refine lv_iload_n hx hb d_Mo_bind_84 rfl (lv_at hl 3 rfl) ?_
                            refine va_iast hx hb hK.1 hP hD hS 2 0 rfl rfl (ir_in h1 h7 (by decide) (by decide)) d_Mo_bind_85 (fun H locs hP hD hS => ?_)
                            have hP : va_P (dC, dI) classes [(oM, .inr (12, fm)), (am_does, .inl (cI, 32, .inl f78_14)), (am_xs, .inl (cI, 32, .inl ((upd (fun _ => 0) (ka : Int32).toNatClampNeg xx)))), (am_ys, .inl (cI, 32, .inl (fun _ => 0))), (am_zs, .inl (cI, 32, .inl (fun _ => 0)))] H := hP
                            have hD : va_D A [(oM, .inr (12, fm)), (am_does, .inl (cI, 32, .inl f78_14)), (am_xs, .inl (cI, 32, .inl ((upd (fun _ => 0) (ka : Int32).toNatClampNeg xx)))), (am_ys, .inl (cI, 32, .inl (fun _ => 0))), (am_zs, .inl (cI, 32, .inl (fun _ => 0)))] := hD
                            generalize (upd (fun _ => 0) (ka : Int32).toNatClampNeg xx) = f85_15 at hP hD
                            refine lv_aload_n hx hb d_Mo_bind_86 rfl (lv_at hl 0 rfl) ?_
                            refine va_get (D := (dC, dI)) (ci := 12) (v := .ref am_ys) (C := R_Mo) (T := F_Mo) (N := 87) hx hb hts (fun w h => List.mem_cons_of_mem _ (in_Mo w h)) hown hK.1 hP 0 rfl rfl 51 (by decide) (hts _ (List.mem_cons_of_mem _ mw_1837)) (fun _ h9 => h9) hm_ys d_Mo_bind_87 ?_
                            refine lv_iload_n hx hb d_Mo_bind_90 rfl (lv_at hl 1 rfl) ?_
                            refine lv_iload hx hb d_Mo_bind_91 (lv_at hl 4 rfl) ?_
                            refine va_iast hx hb hK.1 hP hD hS 3 0 rfl rfl (ir_in h1 h7 (by decide) (by decide)) d_Mo_bind_93 (fun H locs hP hD hS => ?_)
                            have hP : va_P (dC, dI) classes [(oM, .inr (12, fm)), (am_does, .inl (cI, 32, .inl f78_14)), (am_xs, .inl (cI, 32, .inl f85_15)), (am_ys, .inl (cI, 32, .inl ((upd (fun _ => 0) (ka : Int32).toNatClampNeg yy)))), (am_zs, .inl (cI, 32, .inl (fun _ => 0)))] H := hP
                            have hD : va_D A [(oM, .inr (12, fm)), (am_does, .inl (cI, 32, .inl f78_14)), (am_xs, .inl (cI, 32, .inl f85_15)), (am_ys, .inl (cI, 32, .inl ((upd (fun _ => 0) (ka : Int32).toNatClampNeg yy)))), (am_zs, .inl (cI, 32, .inl (fun _ => 0)))] := hD
                            generalize (upd (fun _ => 0) (ka : Int32).toNatClampNeg yy) = f93_16 at hP hD
                            refine lv_aload_n hx hb d_Mo_bind_94 rfl (lv_at hl 0 rfl) ?_
                            refine va_get (D := (dC, dI)) (ci := 12) (v := .ref am_zs) (C := R_Mo) (T := F_Mo) (N := 87) hx hb hts (fun w h => List.mem_cons_of_mem _ (in_Mo w h)) hown hK.1 hP 0 rfl rfl 52 (by decide) (hts _ (List.mem_cons_of_mem _ mw_1838)) (fun _ h9 => h9) hm_zs d_Mo_bind_95 ?_
                            refine lv_iload_n hx hb d_Mo_bind_98 rfl (lv_at hl 1 rfl) ?_
                            refine lv_iload hx hb d_Mo_bind_99 (lv_at hl 5 rfl) ?_
                            refine va_iast hx hb hK.1 hP hD hS 4 0 rfl rfl (ir_in h1 h7 (by decide) (by decide)) d_Mo_bind_101 (fun H locs hP hD hS => ?_)
                            have hP : va_P (dC, dI) classes [(oM, .inr (12, fm)), (am_does, .inl (cI, 32, .inl f78_14)), (am_xs, .inl (cI, 32, .inl f85_15)), (am_ys, .inl (cI, 32, .inl f93_16)), (am_zs, .inl (cI, 32, .inl ((upd (fun _ => 0) (ka : Int32).toNatClampNeg zz))))] H := hP
                            have hD : va_D A [(oM, .inr (12, fm)), (am_does, .inl (cI, 32, .inl f78_14)), (am_xs, .inl (cI, 32, .inl f85_15)), (am_ys, .inl (cI, 32, .inl f93_16)), (am_zs, .inl (cI, 32, .inl ((upd (fun _ => 0) (ka : Int32).toNatClampNeg zz))))] := hD
                            generalize (upd (fun _ => 0) (ka : Int32).toNatClampNeg zz) = f101_17 at hP hD
                            refine lv_iconst (v := 1) hx hb d_Mo_bind_102 (by decide) ?_
                            exact W.zret (v := 1) (ty := .boolean) hx hb hr (by decide) (fun t ht hW => ⟨⟨_, (), rfl, (by unfold fn_Mo_bind; rw [if_neg h1, if_neg h7, if_neg h11, if_neg h16, if_pos h20, if_neg h26, if_neg h33, if_pos h38, if_neg h43, if_neg h50, if_pos h55, if_neg h61, if_pos h67]), trivial⟩, hS.F ht⟩) hS.2.2 d_Mo_bind_103
                          · refine lv_iconst (v := 0) hx hb d_Mo_bind_70 (by decide) ?_
                            exact W.zret (v := 0) (ty := .boolean) hx hb hr (by decide) (fun t ht hW => ⟨⟨_, (), rfl, (by unfold fn_Mo_bind; rw [if_neg h1, if_neg h7, if_neg h11, if_neg h16, if_pos h20, if_neg h26, if_neg h33, if_pos h38, if_neg h43, if_neg h50, if_pos h55, if_neg h61, if_neg h67]), trivial⟩, hS.F ht⟩) hS.2.2 d_Mo_bind_71
theorem d_Mo_lasts_0 : decode b_Mo_lasts 0 = .ok (.iload_n 1, 1) := by decide +kernel
theorem d_Mo_lasts_1 : decode b_Mo_lasts 1 = .ok (.iconst 1, 1) := by decide +kernel
theorem d_Mo_lasts_2 : decode b_Mo_lasts 2 = .ok (.if_icmp .lt 19, 3) := by decide +kernel
theorem d_Mo_lasts_5 : decode b_Mo_lasts 5 = .ok (.iload_n 1, 1) := by decide +kernel
theorem d_Mo_lasts_6 : decode b_Mo_lasts 6 = .ok (.iconst 5, 1) := by decide +kernel
theorem d_Mo_lasts_7 : decode b_Mo_lasts 7 = .ok (.if_icmp .gt 14, 3) := by decide +kernel
theorem d_Mo_lasts_10 : decode b_Mo_lasts 10 = .ok (.iload_n 2, 1) := by decide +kernel
theorem d_Mo_lasts_11 : decode b_Mo_lasts 11 = .ok (.ifCond .lt 10, 3) := by decide +kernel
theorem d_Mo_lasts_14 : decode b_Mo_lasts 14 = .ok (.iload_n 2, 1) := by decide +kernel
theorem d_Mo_lasts_15 : decode b_Mo_lasts 15 = .ok (.ldc_w 423, 3) := by decide +kernel
theorem d_Mo_lasts_18 : decode b_Mo_lasts 18 = .ok (.if_icmp .le 5, 3) := by decide +kernel
theorem d_Mo_lasts_21 : decode b_Mo_lasts 21 = .ok (.iconst 0, 1) := by decide +kernel
theorem d_Mo_lasts_22 : decode b_Mo_lasts 22 = .ok (.ireturn, 1) := by decide +kernel
theorem d_Mo_lasts_23 : decode b_Mo_lasts 23 = .ok (.aload_n 0, 1) := by decide +kernel
theorem d_Mo_lasts_24 : decode b_Mo_lasts 24 = .ok (.getfield 71, 3) := by decide +kernel
theorem d_Mo_lasts_27 : decode b_Mo_lasts 27 = .ok (.iload_n 1, 1) := by decide +kernel
theorem d_Mo_lasts_28 : decode b_Mo_lasts 28 = .ok (.iload_n 2, 1) := by decide +kernel
theorem d_Mo_lasts_29 : decode b_Mo_lasts 29 = .ok (.iastore, 1) := by decide +kernel
theorem d_Mo_lasts_30 : decode b_Mo_lasts 30 = .ok (.iconst 1, 1) := by decide +kernel
theorem d_Mo_lasts_31 : decode b_Mo_lasts 31 = .ok (.ireturn, 1) := by decide +kernel
def fn_Mo_lasts (lv : Int32) (se : Int32) : Int32 := (if lv < 1 then 0 else (if 5 < lv then 0 else (if se < 0 then 0 else (if se ≤ 1000000 then 1 else 0))))
set_option maxHeartbeats 4000000 in
set_option maxRecDepth 100000 in
theorem c_Mo_lasts (l : Launch) (dC : Nat → ClassId) (dI : Nat → Nat → Nat) (cI cB cZ cJ : ClassId) (lv : Int32) (se : Int32) (oM : Nat) (am_lasting : Nat) (fm : List Value) (hm_lasting : fm[20]? = some (.ref am_lasting)) (sz : Nat) : Met l y_Mo_lasts w_Mo_lasts ({ frames := 0, cells := 0, slots := 0, locals := 0 }) (va_Pc [.ref oM, .int lv, .int se] (PW dC dI cI cB cZ cJ [(oM, .inr (12, fm)), (am_lasting, .inl (cI, 6, .inl (fun _ => 86400)))] sz)) (va_Qi (fun (r : Int32) (_ : Unit) => r = fn_Mo_lasts lv se) (fun _ _ => True) (va_A [(oM, .inr (12, fm)), (am_lasting, .inl (cI, 6, .inl (fun _ => 86400)))] sz)) 0 0 (va_A [(oM, .inr (12, fm)), (am_lasting, .inl (cI, 6, .inl (fun _ => 86400)))] sz) := by
  refine Met.ofW (cc := b_Mo_lasts) (maxL := 3) (ret := (some .boolean)) (by decide) rfl ?_
  intro p e s m args below meth c s₁ B hml hv
  obtain ⟨rfl, hsz, hP, hK, hD⟩ := hv
  have hx := B.exec
  have hb := B.bytes
  have hr := B.returns
  have hts := atoms_spec (ws := w_Mo_lasts) B.pre
  have hown : s.vm.findClass R_Mo = some m.cls := findClass_of_methodNamed B.named
  have hlocks := B.notSynchronized
  subst hsz
  have hD := hD.self (sz := s.heap.size)
  generalize hAe : va_A [(oM, .inr (12, fm)), (am_lasting, .inl (cI, 6, .inl (fun _ => 86400)))] s.heap.size = A at hD ⊢
  have hA : ∀ q : Nat, s.heap.size ≤ q → A q := fun q h => by rw [← hAe]; exact Or.inr h
  have hS : va_S A s.heap s.heap [] := va_S.rf
  have hP : va_P (dC, dI) classes [(oM, .inr (12, fm)), (am_lasting, .inl (cI, 6, .inl (fun _ => 86400)))] s.heap := hP
  have hl := lv_entry ([.ref oM, .int lv, .int se]) (n := 3) (Nat.le_of_ble_eq_true rfl)
  rw [lg_entry_eq]
  generalize (lg_sl ([.ref oM, .int lv, .int se]) ++ List.replicate (3 - (lg_sl ([.ref oM, .int lv, .int se])).length) Slot.unset).toArray = ls at hl ⊢
  have hl : lv_has ls 3 [(0, .ref oM), (1, .int lv), (2, .int se)] := hl
  refine lv_iload_n hx hb d_Mo_lasts_0 rfl (lv_at hl 1 rfl) ?_
  refine lv_iconst (v := 1) hx hb d_Mo_lasts_1 (by decide) ?_
  refine lv_icmp_lt (tgt := 21) hx hb d_Mo_lasts_2 (by decide) (fun h2 => ?_) (fun h2 => ?_)
  · refine lv_iconst (v := 0) hx hb d_Mo_lasts_21 (by decide) ?_
    exact W.zret (v := 0) (ty := .boolean) hx hb hr (by decide) (fun t ht hW => ⟨⟨_, (), rfl, (by unfold fn_Mo_lasts; rw [if_pos h2]), trivial⟩, hS.F ht⟩) hS.2.2 d_Mo_lasts_22
  · refine lv_iload_n hx hb d_Mo_lasts_5 rfl (lv_at hl 1 rfl) ?_
    refine lv_iconst (v := 5) hx hb d_Mo_lasts_6 (by decide) ?_
    refine lv_icmp_gt (tgt := 21) hx hb d_Mo_lasts_7 (by decide) (fun h7 => ?_) (fun h7 => ?_)
    · refine lv_iconst (v := 0) hx hb d_Mo_lasts_21 (by decide) ?_
      exact W.zret (v := 0) (ty := .boolean) hx hb hr (by decide) (fun t ht hW => ⟨⟨_, (), rfl, (by unfold fn_Mo_lasts; rw [if_neg h2, if_pos h7]), trivial⟩, hS.F ht⟩) hS.2.2 d_Mo_lasts_22
    · refine lv_iload_n hx hb d_Mo_lasts_10 rfl (lv_at hl 2 rfl) ?_
      refine lv_if_lt (tgt := 21) hx hb d_Mo_lasts_11 (by decide) (fun h11 => ?_) (fun h11 => ?_)
      · refine lv_iconst (v := 0) hx hb d_Mo_lasts_21 (by decide) ?_
        exact W.zret (v := 0) (ty := .boolean) hx hb hr (by decide) (fun t ht hW => ⟨⟨_, (), rfl, (by unfold fn_Mo_lasts; rw [if_neg h2, if_neg h7, if_pos h11]), trivial⟩, hS.F ht⟩) hS.2.2 d_Mo_lasts_22
      · refine lv_iload_n hx hb d_Mo_lasts_14 rfl (lv_at hl 2 rfl) ?_
        refine lv_ldcw (v := 1000000) hx hb hown (hts _ (List.mem_cons_of_mem _ mw_2457)) d_Mo_lasts_15 ?_
        refine lv_icmp_le (tgt := 23) hx hb d_Mo_lasts_18 (by decide) (fun h18 => ?_) (fun h18 => ?_)
        · refine lv_aload_n hx hb d_Mo_lasts_23 rfl (lv_at hl 0 rfl) ?_
          refine va_get (D := (dC, dI)) (ci := 12) (v := .ref am_lasting) (C := R_Mo) (T := F_Mo) (N := 87) hx hb hts (fun w h => List.mem_cons_of_mem _ (in_Mo w h)) hown hK.1 hP 0 rfl rfl 20 (by decide) (hts _ (List.mem_cons_of_mem _ mw_1806)) (fun _ h9 => h9) hm_lasting d_Mo_lasts_24 ?_
          refine lv_iload_n hx hb d_Mo_lasts_27 rfl (lv_at hl 1 rfl) ?_
          refine lv_iload_n hx hb d_Mo_lasts_28 rfl (lv_at hl 2 rfl) ?_
          refine va_iast hx hb hK.1 hP hD hS 1 0 rfl rfl (ir_in h2 h7 (by decide) (by decide)) d_Mo_lasts_29 (fun H locs hP hD hS => ?_)
          have hP : va_P (dC, dI) classes [(oM, .inr (12, fm)), (am_lasting, .inl (cI, 6, .inl ((upd (fun _ => 86400) (lv : Int32).toNatClampNeg se))))] H := hP
          have hD : va_D A [(oM, .inr (12, fm)), (am_lasting, .inl (cI, 6, .inl ((upd (fun _ => 86400) (lv : Int32).toNatClampNeg se))))] := hD
          generalize (upd (fun _ => 86400) (lv : Int32).toNatClampNeg se) = f29_5 at hP hD
          refine lv_iconst (v := 1) hx hb d_Mo_lasts_30 (by decide) ?_
          exact W.zret (v := 1) (ty := .boolean) hx hb hr (by decide) (fun t ht hW => ⟨⟨_, (), rfl, (by unfold fn_Mo_lasts; rw [if_neg h2, if_neg h7, if_neg h11, if_pos h18]), trivial⟩, hS.F ht⟩) hS.2.2 d_Mo_lasts_31
        · refine lv_iconst (v := 0) hx hb d_Mo_lasts_21 (by decide) ?_
          exact W.zret (v := 0) (ty := .boolean) hx hb hr (by decide) (fun t ht hW => ⟨⟨_, (), rfl, (by unfold fn_Mo_lasts; rw [if_neg h2, if_neg h7, if_neg h11, if_neg h18]), trivial⟩, hS.F ht⟩) hS.2.2 d_Mo_lasts_22
theorem d_Mo_need_0 : decode b_Mo_need 0 = .ok (.iload_n 1, 1) := by decide +kernel
theorem d_Mo_need_1 : decode b_Mo_need 1 = .ok (.iconst 1, 1) := by decide +kernel
theorem d_Mo_need_2 : decode b_Mo_need 2 = .ok (.if_icmp .lt 29, 3) := by decide +kernel
theorem d_Mo_need_5 : decode b_Mo_need 5 = .ok (.iload_n 1, 1) := by decide +kernel
theorem d_Mo_need_6 : decode b_Mo_need 6 = .ok (.bipush 14, 2) := by decide +kernel
theorem d_Mo_need_8 : decode b_Mo_need 8 = .ok (.if_icmp .gt 23, 3) := by decide +kernel
theorem d_Mo_need_11 : decode b_Mo_need 11 = .ok (.iload_n 2, 1) := by decide +kernel
theorem d_Mo_need_12 : decode b_Mo_need 12 = .ok (.iconst 1, 1) := by decide +kernel
theorem d_Mo_need_13 : decode b_Mo_need 13 = .ok (.if_icmp .lt 18, 3) := by decide +kernel
theorem d_Mo_need_16 : decode b_Mo_need 16 = .ok (.iload_n 2, 1) := by decide +kernel
theorem d_Mo_need_17 : decode b_Mo_need 17 = .ok (.bipush 14, 2) := by decide +kernel
theorem d_Mo_need_19 : decode b_Mo_need 19 = .ok (.if_icmp .gt 12, 3) := by decide +kernel
theorem d_Mo_need_22 : decode b_Mo_need 22 = .ok (.iload_n 3, 1) := by decide +kernel
theorem d_Mo_need_23 : decode b_Mo_need 23 = .ok (.ifCond .lt 8, 3) := by decide +kernel
theorem d_Mo_need_26 : decode b_Mo_need 26 = .ok (.iload_n 3, 1) := by decide +kernel
theorem d_Mo_need_27 : decode b_Mo_need 27 = .ok (.iconst 5, 1) := by decide +kernel
theorem d_Mo_need_28 : decode b_Mo_need 28 = .ok (.if_icmp .le 5, 3) := by decide +kernel
theorem d_Mo_need_31 : decode b_Mo_need 31 = .ok (.iconst 0, 1) := by decide +kernel
theorem d_Mo_need_32 : decode b_Mo_need 32 = .ok (.ireturn, 1) := by decide +kernel
theorem d_Mo_need_33 : decode b_Mo_need 33 = .ok (.aload_n 0, 1) := by decide +kernel
theorem d_Mo_need_34 : decode b_Mo_need 34 = .ok (.getfield 68, 3) := by decide +kernel
theorem d_Mo_need_37 : decode b_Mo_need 37 = .ok (.bipush 16, 2) := by decide +kernel
theorem d_Mo_need_39 : decode b_Mo_need 39 = .ok (.iload_n 1, 1) := by decide +kernel
theorem d_Mo_need_40 : decode b_Mo_need 40 = .ok (.imul, 1) := by decide +kernel
theorem d_Mo_need_41 : decode b_Mo_need 41 = .ok (.iload_n 2, 1) := by decide +kernel
theorem d_Mo_need_42 : decode b_Mo_need 42 = .ok (.iadd, 1) := by decide +kernel
theorem d_Mo_need_43 : decode b_Mo_need 43 = .ok (.iload_n 3, 1) := by decide +kernel
theorem d_Mo_need_44 : decode b_Mo_need 44 = .ok (.iastore, 1) := by decide +kernel
theorem d_Mo_need_45 : decode b_Mo_need 45 = .ok (.iconst 1, 1) := by decide +kernel
theorem d_Mo_need_46 : decode b_Mo_need 46 = .ok (.ireturn, 1) := by decide +kernel
def fn_Mo_need (la : Int32) (li : Int32) (lv : Int32) : Int32 := (if la < 1 then 0 else (if 14 < la then 0 else (if li < 1 then 0 else (if 14 < li then 0 else (if lv < 0 then 0 else (if lv ≤ 5 then 1 else 0))))))
set_option maxHeartbeats 4000000 in
set_option maxRecDepth 100000 in
theorem c_Mo_need (l : Launch) (dC : Nat → ClassId) (dI : Nat → Nat → Nat) (cI cB cZ cJ : ClassId) (la : Int32) (li : Int32) (lv : Int32) (oM : Nat) (am_needs : Nat) (fm : List Value) (hm_needs : fm[19]? = some (.ref am_needs)) (sz : Nat) : Met l y_Mo_need w_Mo_need ({ frames := 0, cells := 0, slots := 0, locals := 0 }) (va_Pc [.ref oM, .int la, .int li, .int lv] (PW dC dI cI cB cZ cJ [(oM, .inr (12, fm)), (am_needs, .inl (cI, 256, .inl (fun _ => 5)))] sz)) (va_Qi (fun (r : Int32) (_ : Unit) => r = fn_Mo_need la li lv) (fun _ _ => True) (va_A [(oM, .inr (12, fm)), (am_needs, .inl (cI, 256, .inl (fun _ => 5)))] sz)) 0 0 (va_A [(oM, .inr (12, fm)), (am_needs, .inl (cI, 256, .inl (fun _ => 5)))] sz) := by
  refine Met.ofW (cc := b_Mo_need) (maxL := 4) (ret := (some .boolean)) (by decide) rfl ?_
  intro p e s m args below meth c s₁ B hml hv
  obtain ⟨rfl, hsz, hP, hK, hD⟩ := hv
  have hx := B.exec
  have hb := B.bytes
  have hr := B.returns
  have hts := atoms_spec (ws := w_Mo_need) B.pre
  have hown : s.vm.findClass R_Mo = some m.cls := findClass_of_methodNamed B.named
  have hlocks := B.notSynchronized
  subst hsz
  have hD := hD.self (sz := s.heap.size)
  generalize hAe : va_A [(oM, .inr (12, fm)), (am_needs, .inl (cI, 256, .inl (fun _ => 5)))] s.heap.size = A at hD ⊢
  have hA : ∀ q : Nat, s.heap.size ≤ q → A q := fun q h => by rw [← hAe]; exact Or.inr h
  have hS : va_S A s.heap s.heap [] := va_S.rf
  have hP : va_P (dC, dI) classes [(oM, .inr (12, fm)), (am_needs, .inl (cI, 256, .inl (fun _ => 5)))] s.heap := hP
  have hl := lv_entry ([.ref oM, .int la, .int li, .int lv]) (n := 4) (Nat.le_of_ble_eq_true rfl)
  rw [lg_entry_eq]
  generalize (lg_sl ([.ref oM, .int la, .int li, .int lv]) ++ List.replicate (4 - (lg_sl ([.ref oM, .int la, .int li, .int lv])).length) Slot.unset).toArray = ls at hl ⊢
  have hl : lv_has ls 4 [(0, .ref oM), (1, .int la), (2, .int li), (3, .int lv)] := hl
  refine lv_iload_n hx hb d_Mo_need_0 rfl (lv_at hl 1 rfl) ?_
  refine lv_iconst (v := 1) hx hb d_Mo_need_1 (by decide) ?_
  refine lv_icmp_lt (tgt := 31) hx hb d_Mo_need_2 (by decide) (fun h2 => ?_) (fun h2 => ?_)
  · refine lv_iconst (v := 0) hx hb d_Mo_need_31 (by decide) ?_
    exact W.zret (v := 0) (ty := .boolean) hx hb hr (by decide) (fun t ht hW => ⟨⟨_, (), rfl, (by unfold fn_Mo_need; rw [if_pos h2]), trivial⟩, hS.F ht⟩) hS.2.2 d_Mo_need_32
  · refine lv_iload_n hx hb d_Mo_need_5 rfl (lv_at hl 1 rfl) ?_
    refine lv_bipush (v := 14) hx hb d_Mo_need_6 (by decide) ?_
    refine lv_icmp_gt (tgt := 31) hx hb d_Mo_need_8 (by decide) (fun h8 => ?_) (fun h8 => ?_)
    · refine lv_iconst (v := 0) hx hb d_Mo_need_31 (by decide) ?_
      exact W.zret (v := 0) (ty := .boolean) hx hb hr (by decide) (fun t ht hW => ⟨⟨_, (), rfl, (by unfold fn_Mo_need; rw [if_neg h2, if_pos h8]), trivial⟩, hS.F ht⟩) hS.2.2 d_Mo_need_32
    · refine lv_iload_n hx hb d_Mo_need_11 rfl (lv_at hl 2 rfl) ?_
      refine lv_iconst (v := 1) hx hb d_Mo_need_12 (by decide) ?_
      refine lv_icmp_lt (tgt := 31) hx hb d_Mo_need_13 (by decide) (fun h13 => ?_) (fun h13 => ?_)
      · refine lv_iconst (v := 0) hx hb d_Mo_need_31 (by decide) ?_
        exact W.zret (v := 0) (ty := .boolean) hx hb hr (by decide) (fun t ht hW => ⟨⟨_, (), rfl, (by unfold fn_Mo_need; rw [if_neg h2, if_neg h8, if_pos h13]), trivial⟩, hS.F ht⟩) hS.2.2 d_Mo_need_32
      · refine lv_iload_n hx hb d_Mo_need_16 rfl (lv_at hl 2 rfl) ?_
        refine lv_bipush (v := 14) hx hb d_Mo_need_17 (by decide) ?_
        refine lv_icmp_gt (tgt := 31) hx hb d_Mo_need_19 (by decide) (fun h19 => ?_) (fun h19 => ?_)
        · refine lv_iconst (v := 0) hx hb d_Mo_need_31 (by decide) ?_
          exact W.zret (v := 0) (ty := .boolean) hx hb hr (by decide) (fun t ht hW => ⟨⟨_, (), rfl, (by unfold fn_Mo_need; rw [if_neg h2, if_neg h8, if_neg h13, if_pos h19]), trivial⟩, hS.F ht⟩) hS.2.2 d_Mo_need_32
        · refine lv_iload_n hx hb d_Mo_need_22 rfl (lv_at hl 3 rfl) ?_
          refine lv_if_lt (tgt := 31) hx hb d_Mo_need_23 (by decide) (fun h23 => ?_) (fun h23 => ?_)
          · refine lv_iconst (v := 0) hx hb d_Mo_need_31 (by decide) ?_
            exact W.zret (v := 0) (ty := .boolean) hx hb hr (by decide) (fun t ht hW => ⟨⟨_, (), rfl, (by unfold fn_Mo_need; rw [if_neg h2, if_neg h8, if_neg h13, if_neg h19, if_pos h23]), trivial⟩, hS.F ht⟩) hS.2.2 d_Mo_need_32
          · refine lv_iload_n hx hb d_Mo_need_26 rfl (lv_at hl 3 rfl) ?_
            refine lv_iconst (v := 5) hx hb d_Mo_need_27 (by decide) ?_
            refine lv_icmp_le (tgt := 33) hx hb d_Mo_need_28 (by decide) (fun h28 => ?_) (fun h28 => ?_)
            · refine lv_aload_n hx hb d_Mo_need_33 rfl (lv_at hl 0 rfl) ?_
              refine va_get (D := (dC, dI)) (ci := 12) (v := .ref am_needs) (C := R_Mo) (T := F_Mo) (N := 87) hx hb hts (fun w h => List.mem_cons_of_mem _ (in_Mo w h)) hown hK.1 hP 0 rfl rfl 19 (by decide) (hts _ (List.mem_cons_of_mem _ mw_1805)) (fun _ h9 => h9) hm_needs d_Mo_need_34 ?_
              refine lv_bipush (v := 16) hx hb d_Mo_need_37 (by decide) ?_
              refine lv_iload_n hx hb d_Mo_need_39 rfl (lv_at hl 1 rfl) ?_
              refine lv_imul hx hb d_Mo_need_40 ?_
              refine lv_iload_n hx hb d_Mo_need_41 rfl (lv_at hl 2 rfl) ?_
              refine lv_iadd hx hb d_Mo_need_42 ?_
              refine lv_iload_n hx hb d_Mo_need_43 rfl (lv_at hl 3 rfl) ?_
              refine va_iast hx hb hK.1 hP hD hS 1 0 rfl rfl (ir_16 h2 h8 h13 h19) d_Mo_need_44 (fun H locs hP hD hS => ?_)
              have hP : va_P (dC, dI) classes [(oM, .inr (12, fm)), (am_needs, .inl (cI, 256, .inl ((upd (fun _ => 5) (((16 * la) + li) : Int32).toNatClampNeg lv))))] H := hP
              have hD : va_D A [(oM, .inr (12, fm)), (am_needs, .inl (cI, 256, .inl ((upd (fun _ => 5) (((16 * la) + li) : Int32).toNatClampNeg lv))))] := hD
              generalize (upd (fun _ => 5) (((16 * la) + li) : Int32).toNatClampNeg lv) = f44_7 at hP hD
              refine lv_iconst (v := 1) hx hb d_Mo_need_45 (by decide) ?_
              exact W.zret (v := 1) (ty := .boolean) hx hb hr (by decide) (fun t ht hW => ⟨⟨_, (), rfl, (by unfold fn_Mo_need; rw [if_neg h2, if_neg h8, if_neg h13, if_neg h19, if_neg h23, if_pos h28]), trivial⟩, hS.F ht⟩) hS.2.2 d_Mo_need_46
            · refine lv_iconst (v := 0) hx hb d_Mo_need_31 (by decide) ?_
              exact W.zret (v := 0) (ty := .boolean) hx hb hr (by decide) (fun t ht hW => ⟨⟨_, (), rfl, (by unfold fn_Mo_need; rw [if_neg h2, if_neg h8, if_neg h13, if_neg h19, if_neg h23, if_neg h28]), trivial⟩, hS.F ht⟩) hS.2.2 d_Mo_need_32
theorem d_Mo_may_0 : decode b_Mo_may 0 = .ok (.iload_n 1, 1) := by decide +kernel
theorem d_Mo_may_1 : decode b_Mo_may 1 = .ok (.iconst 1, 1) := by decide +kernel
theorem d_Mo_may_2 : decode b_Mo_may 2 = .ok (.if_icmp .lt 43, 3) := by decide +kernel
theorem d_Mo_may_5 : decode b_Mo_may 5 = .ok (.iload_n 1, 1) := by decide +kernel
theorem d_Mo_may_6 : decode b_Mo_may 6 = .ok (.bipush 14, 2) := by decide +kernel
theorem d_Mo_may_8 : decode b_Mo_may 8 = .ok (.if_icmp .gt 37, 3) := by decide +kernel
theorem d_Mo_may_11 : decode b_Mo_may 11 = .ok (.iload_n 2, 1) := by decide +kernel
theorem d_Mo_may_12 : decode b_Mo_may 12 = .ok (.iconst 1, 1) := by decide +kernel
theorem d_Mo_may_13 : decode b_Mo_may 13 = .ok (.if_icmp .lt 32, 3) := by decide +kernel
theorem d_Mo_may_16 : decode b_Mo_may 16 = .ok (.iload_n 2, 1) := by decide +kernel
theorem d_Mo_may_17 : decode b_Mo_may 17 = .ok (.bipush 14, 2) := by decide +kernel
theorem d_Mo_may_19 : decode b_Mo_may 19 = .ok (.if_icmp .gt 26, 3) := by decide +kernel
theorem d_Mo_may_22 : decode b_Mo_may 22 = .ok (.iload_n 1, 1) := by decide +kernel
theorem d_Mo_may_23 : decode b_Mo_may 23 = .ok (.iload_n 2, 1) := by decide +kernel
theorem d_Mo_may_24 : decode b_Mo_may 24 = .ok (.if_icmp .eq 21, 3) := by decide +kernel
theorem d_Mo_may_27 : decode b_Mo_may 27 = .ok (.aload_n 0, 1) := by decide +kernel
theorem d_Mo_may_28 : decode b_Mo_may 28 = .ok (.getfield 64, 3) := by decide +kernel
theorem d_Mo_may_31 : decode b_Mo_may 31 = .ok (.bipush 16, 2) := by decide +kernel
theorem d_Mo_may_33 : decode b_Mo_may 33 = .ok (.iload_n 1, 1) := by decide +kernel
theorem d_Mo_may_34 : decode b_Mo_may 34 = .ok (.imul, 1) := by decide +kernel
theorem d_Mo_may_35 : decode b_Mo_may 35 = .ok (.iload_n 2, 1) := by decide +kernel
theorem d_Mo_may_36 : decode b_Mo_may 36 = .ok (.iadd, 1) := by decide +kernel
theorem d_Mo_may_37 : decode b_Mo_may 37 = .ok (.baload, 1) := by decide +kernel
theorem d_Mo_may_38 : decode b_Mo_may 38 = .ok (.ifCond .ne 7, 3) := by decide +kernel
theorem d_Mo_may_41 : decode b_Mo_may 41 = .ok (.iconst 1, 1) := by decide +kernel
theorem d_Mo_may_42 : decode b_Mo_may 42 = .ok (.goto 4, 3) := by decide +kernel
theorem d_Mo_may_45 : decode b_Mo_may 45 = .ok (.iconst 0, 1) := by decide +kernel
theorem d_Mo_may_46 : decode b_Mo_may 46 = .ok (.istore_n 3, 1) := by decide +kernel
theorem d_Mo_may_47 : decode b_Mo_may 47 = .ok (.iload_n 3, 1) := by decide +kernel
theorem d_Mo_may_48 : decode b_Mo_may 48 = .ok (.ifCond .eq 27, 3) := by decide +kernel
theorem d_Mo_may_51 : decode b_Mo_may 51 = .ok (.aload_n 0, 1) := by decide +kernel
theorem d_Mo_may_52 : decode b_Mo_may 52 = .ok (.getfield 64, 3) := by decide +kernel
theorem d_Mo_may_55 : decode b_Mo_may 55 = .ok (.bipush 16, 2) := by decide +kernel
theorem d_Mo_may_57 : decode b_Mo_may 57 = .ok (.iload_n 1, 1) := by decide +kernel
theorem d_Mo_may_58 : decode b_Mo_may 58 = .ok (.imul, 1) := by decide +kernel
theorem d_Mo_may_59 : decode b_Mo_may 59 = .ok (.iload_n 2, 1) := by decide +kernel
theorem d_Mo_may_60 : decode b_Mo_may 60 = .ok (.iadd, 1) := by decide +kernel
theorem d_Mo_may_61 : decode b_Mo_may 61 = .ok (.iconst 1, 1) := by decide +kernel
theorem d_Mo_may_62 : decode b_Mo_may 62 = .ok (.bastore, 1) := by decide +kernel
theorem d_Mo_may_63 : decode b_Mo_may 63 = .ok (.aload_n 0, 1) := by decide +kernel
theorem d_Mo_may_64 : decode b_Mo_may 64 = .ok (.getfield 64, 3) := by decide +kernel
theorem d_Mo_may_67 : decode b_Mo_may 67 = .ok (.bipush 16, 2) := by decide +kernel
theorem d_Mo_may_69 : decode b_Mo_may 69 = .ok (.iload_n 2, 1) := by decide +kernel
theorem d_Mo_may_70 : decode b_Mo_may 70 = .ok (.imul, 1) := by decide +kernel
theorem d_Mo_may_71 : decode b_Mo_may 71 = .ok (.iload_n 1, 1) := by decide +kernel
theorem d_Mo_may_72 : decode b_Mo_may 72 = .ok (.iadd, 1) := by decide +kernel
theorem d_Mo_may_73 : decode b_Mo_may 73 = .ok (.iconst 1, 1) := by decide +kernel
theorem d_Mo_may_74 : decode b_Mo_may 74 = .ok (.bastore, 1) := by decide +kernel
theorem d_Mo_may_75 : decode b_Mo_may 75 = .ok (.iload_n 3, 1) := by decide +kernel
theorem d_Mo_may_76 : decode b_Mo_may 76 = .ok (.ireturn, 1) := by decide +kernel
def fn_Mo_may (li : Int32) (ot : Int32) : Int32 := (if li < 1 then 0 else (if 14 < li then 0 else (if ot < 1 then 0 else (if 14 < ot then 0 else (if li = ot then 0 else 1)))))
set_option maxHeartbeats 4000000 in
set_option maxRecDepth 100000 in
theorem c_Mo_may (l : Launch) (dC : Nat → ClassId) (dI : Nat → Nat → Nat) (cI cB cZ cJ : ClassId) (li : Int32) (ot : Int32) (oM : Nat) (am_meet : Nat) (fm : List Value) (hm_meet : fm[18]? = some (.ref am_meet)) (sz : Nat) : Met l y_Mo_may w_Mo_may ({ frames := 0, cells := 0, slots := 0, locals := 0 }) (va_Pc [.ref oM, .int li, .int ot] (PW dC dI cI cB cZ cJ [(oM, .inr (12, fm)), (am_meet, .inl (cZ, 256, .inl (fun _ => 0)))] sz)) (va_Qi (fun (r : Int32) (_ : Unit) => r = fn_Mo_may li ot) (fun _ _ => True) (va_A [(oM, .inr (12, fm)), (am_meet, .inl (cZ, 256, .inl (fun _ => 0)))] sz)) 0 0 (va_A [(oM, .inr (12, fm)), (am_meet, .inl (cZ, 256, .inl (fun _ => 0)))] sz) := by
  refine Met.ofW (cc := b_Mo_may) (maxL := 4) (ret := (some .boolean)) (by decide) rfl ?_
  intro p e s m args below meth c s₁ B hml hv
  obtain ⟨rfl, hsz, hP, hK, hD⟩ := hv
  have hx := B.exec
  have hb := B.bytes
  have hr := B.returns
  have hts := atoms_spec (ws := w_Mo_may) B.pre
  have hown : s.vm.findClass R_Mo = some m.cls := findClass_of_methodNamed B.named
  have hlocks := B.notSynchronized
  subst hsz
  have hD := hD.self (sz := s.heap.size)
  generalize hAe : va_A [(oM, .inr (12, fm)), (am_meet, .inl (cZ, 256, .inl (fun _ => 0)))] s.heap.size = A at hD ⊢
  have hA : ∀ q : Nat, s.heap.size ≤ q → A q := fun q h => by rw [← hAe]; exact Or.inr h
  have hS : va_S A s.heap s.heap [] := va_S.rf
  have hP : va_P (dC, dI) classes [(oM, .inr (12, fm)), (am_meet, .inl (cZ, 256, .inl (fun _ => 0)))] s.heap := hP
  have hl := lv_entry ([.ref oM, .int li, .int ot]) (n := 4) (Nat.le_of_ble_eq_true rfl)
  rw [lg_entry_eq]
  generalize (lg_sl ([.ref oM, .int li, .int ot]) ++ List.replicate (4 - (lg_sl ([.ref oM, .int li, .int ot])).length) Slot.unset).toArray = ls at hl ⊢
  have hl : lv_has ls 4 [(0, .ref oM), (1, .int li), (2, .int ot)] := hl
  refine lv_iload_n hx hb d_Mo_may_0 rfl (lv_at hl 1 rfl) ?_
  refine lv_iconst (v := 1) hx hb d_Mo_may_1 (by decide) ?_
  refine lv_icmp_lt (tgt := 45) hx hb d_Mo_may_2 (by decide) (fun h2 => ?_) (fun h2 => ?_)
  · refine lv_iconst (v := 0) hx hb d_Mo_may_45 (by decide) ?_
    refine lv_istore_n hx hb d_Mo_may_46 rfl hl (by decide) rfl (fun ls hl => ?_)
    have hl : lv_has ls 4 [(3, .int 0), (0, .ref oM), (1, .int li), (2, .int ot)] := hl
    refine lv_iload_n hx hb d_Mo_may_47 rfl (lv_at hl 0 rfl) ?_
    refine lv_if_eq (tgt := 75) hx hb d_Mo_may_48 (by decide) (fun _ => ?_) (fun h => absurd (by decide) h)
    refine lv_iload_n hx hb d_Mo_may_75 rfl (lv_at hl 0 rfl) ?_
    exact W.zret (v := 0) (ty := .boolean) hx hb hr (by decide) (fun t ht hW => ⟨⟨_, (), rfl, (by unfold fn_Mo_may; rw [if_pos h2]), trivial⟩, hS.F ht⟩) hS.2.2 d_Mo_may_76
  · refine lv_iload_n hx hb d_Mo_may_5 rfl (lv_at hl 1 rfl) ?_
    refine lv_bipush (v := 14) hx hb d_Mo_may_6 (by decide) ?_
    refine lv_icmp_gt (tgt := 45) hx hb d_Mo_may_8 (by decide) (fun h8 => ?_) (fun h8 => ?_)
    · refine lv_iconst (v := 0) hx hb d_Mo_may_45 (by decide) ?_
      refine lv_istore_n hx hb d_Mo_may_46 rfl hl (by decide) rfl (fun ls hl => ?_)
      have hl : lv_has ls 4 [(3, .int 0), (0, .ref oM), (1, .int li), (2, .int ot)] := hl
      refine lv_iload_n hx hb d_Mo_may_47 rfl (lv_at hl 0 rfl) ?_
      refine lv_if_eq (tgt := 75) hx hb d_Mo_may_48 (by decide) (fun _ => ?_) (fun h => absurd (by decide) h)
      refine lv_iload_n hx hb d_Mo_may_75 rfl (lv_at hl 0 rfl) ?_
      exact W.zret (v := 0) (ty := .boolean) hx hb hr (by decide) (fun t ht hW => ⟨⟨_, (), rfl, (by unfold fn_Mo_may; rw [if_neg h2, if_pos h8]), trivial⟩, hS.F ht⟩) hS.2.2 d_Mo_may_76
    · refine lv_iload_n hx hb d_Mo_may_11 rfl (lv_at hl 2 rfl) ?_
      refine lv_iconst (v := 1) hx hb d_Mo_may_12 (by decide) ?_
      refine lv_icmp_lt (tgt := 45) hx hb d_Mo_may_13 (by decide) (fun h13 => ?_) (fun h13 => ?_)
      · refine lv_iconst (v := 0) hx hb d_Mo_may_45 (by decide) ?_
        refine lv_istore_n hx hb d_Mo_may_46 rfl hl (by decide) rfl (fun ls hl => ?_)
        have hl : lv_has ls 4 [(3, .int 0), (0, .ref oM), (1, .int li), (2, .int ot)] := hl
        refine lv_iload_n hx hb d_Mo_may_47 rfl (lv_at hl 0 rfl) ?_
        refine lv_if_eq (tgt := 75) hx hb d_Mo_may_48 (by decide) (fun _ => ?_) (fun h => absurd (by decide) h)
        refine lv_iload_n hx hb d_Mo_may_75 rfl (lv_at hl 0 rfl) ?_
        exact W.zret (v := 0) (ty := .boolean) hx hb hr (by decide) (fun t ht hW => ⟨⟨_, (), rfl, (by unfold fn_Mo_may; rw [if_neg h2, if_neg h8, if_pos h13]), trivial⟩, hS.F ht⟩) hS.2.2 d_Mo_may_76
      · refine lv_iload_n hx hb d_Mo_may_16 rfl (lv_at hl 2 rfl) ?_
        refine lv_bipush (v := 14) hx hb d_Mo_may_17 (by decide) ?_
        refine lv_icmp_gt (tgt := 45) hx hb d_Mo_may_19 (by decide) (fun h19 => ?_) (fun h19 => ?_)
        · refine lv_iconst (v := 0) hx hb d_Mo_may_45 (by decide) ?_
          refine lv_istore_n hx hb d_Mo_may_46 rfl hl (by decide) rfl (fun ls hl => ?_)
          have hl : lv_has ls 4 [(3, .int 0), (0, .ref oM), (1, .int li), (2, .int ot)] := hl
          refine lv_iload_n hx hb d_Mo_may_47 rfl (lv_at hl 0 rfl) ?_
          refine lv_if_eq (tgt := 75) hx hb d_Mo_may_48 (by decide) (fun _ => ?_) (fun h => absurd (by decide) h)
          refine lv_iload_n hx hb d_Mo_may_75 rfl (lv_at hl 0 rfl) ?_
          exact W.zret (v := 0) (ty := .boolean) hx hb hr (by decide) (fun t ht hW => ⟨⟨_, (), rfl, (by unfold fn_Mo_may; rw [if_neg h2, if_neg h8, if_neg h13, if_pos h19]), trivial⟩, hS.F ht⟩) hS.2.2 d_Mo_may_76
        · refine lv_iload_n hx hb d_Mo_may_22 rfl (lv_at hl 1 rfl) ?_
          refine lv_iload_n hx hb d_Mo_may_23 rfl (lv_at hl 2 rfl) ?_
          refine lv_icmp_eq (tgt := 45) hx hb d_Mo_may_24 (by decide) (fun h24 => ?_) (fun h24 => ?_)
          · refine lv_iconst (v := 0) hx hb d_Mo_may_45 (by decide) ?_
            refine lv_istore_n hx hb d_Mo_may_46 rfl hl (by decide) rfl (fun ls hl => ?_)
            have hl : lv_has ls 4 [(3, .int 0), (0, .ref oM), (1, .int li), (2, .int ot)] := hl
            refine lv_iload_n hx hb d_Mo_may_47 rfl (lv_at hl 0 rfl) ?_
            refine lv_if_eq (tgt := 75) hx hb d_Mo_may_48 (by decide) (fun _ => ?_) (fun h => absurd (by decide) h)
            refine lv_iload_n hx hb d_Mo_may_75 rfl (lv_at hl 0 rfl) ?_
            exact W.zret (v := 0) (ty := .boolean) hx hb hr (by decide) (fun t ht hW => ⟨⟨_, (), rfl, (by unfold fn_Mo_may; rw [if_neg h2, if_neg h8, if_neg h13, if_neg h19, if_pos h24]), trivial⟩, hS.F ht⟩) hS.2.2 d_Mo_may_76
          · refine lv_aload_n hx hb d_Mo_may_27 rfl (lv_at hl 0 rfl) ?_
            refine va_get (D := (dC, dI)) (ci := 12) (v := .ref am_meet) (C := R_Mo) (T := F_Mo) (N := 87) hx hb hts (fun w h => List.mem_cons_of_mem _ (in_Mo w h)) hown hK.1 hP 0 rfl rfl 18 (by decide) (hts _ (List.mem_cons_of_mem _ mw_1804)) (fun _ h9 => h9) hm_meet d_Mo_may_28 ?_
            refine lv_bipush (v := 16) hx hb d_Mo_may_31 (by decide) ?_
            refine lv_iload_n hx hb d_Mo_may_33 rfl (lv_at hl 1 rfl) ?_
            refine lv_imul hx hb d_Mo_may_34 ?_
            refine lv_iload_n hx hb d_Mo_may_35 rfl (lv_at hl 2 rfl) ?_
            refine lv_iadd hx hb d_Mo_may_36 ?_
            refine va_zald hx hb hK.1 hP 1 2 rfl rfl (ir_16 h2 h8 h13 h19) d_Mo_may_37 ?_
            refine lv_if_ne (tgt := 45) hx hb d_Mo_may_38 (by decide) (fun h => absurd rfl h) (fun _ => ?_)
            refine lv_iconst (v := 1) hx hb d_Mo_may_41 (by decide) ?_
            refine lv_goto (tgt := 46) hx hb d_Mo_may_42 (by decide) ?_
            refine lv_istore_n hx hb d_Mo_may_46 rfl hl (by decide) rfl (fun ls hl => ?_)
            have hl : lv_has ls 4 [(3, .int 1), (0, .ref oM), (1, .int li), (2, .int ot)] := hl
            refine lv_iload_n hx hb d_Mo_may_47 rfl (lv_at hl 0 rfl) ?_
            refine lv_if_eq (tgt := 75) hx hb d_Mo_may_48 (by decide) (fun h => absurd h (by decide)) (fun _ => ?_)
            refine lv_aload_n hx hb d_Mo_may_51 rfl (lv_at hl 1 rfl) ?_
            refine va_get (D := (dC, dI)) (ci := 12) (v := .ref am_meet) (C := R_Mo) (T := F_Mo) (N := 87) hx hb hts (fun w h => List.mem_cons_of_mem _ (in_Mo w h)) hown hK.1 hP 0 rfl rfl 18 (by decide) (hts _ (List.mem_cons_of_mem _ mw_1804)) (fun _ h9 => h9) hm_meet d_Mo_may_52 ?_
            refine lv_bipush (v := 16) hx hb d_Mo_may_55 (by decide) ?_
            refine lv_iload_n hx hb d_Mo_may_57 rfl (lv_at hl 2 rfl) ?_
            refine lv_imul hx hb d_Mo_may_58 ?_
            refine lv_iload_n hx hb d_Mo_may_59 rfl (lv_at hl 3 rfl) ?_
            refine lv_iadd hx hb d_Mo_may_60 ?_
            refine lv_iconst (v := 1) hx hb d_Mo_may_61 (by decide) ?_
            refine va_zast hx hb hK.1 hP hD hS 1 2 rfl rfl (ir_16 h2 h8 h13 h19) d_Mo_may_62 (fun H locs hP hD hS => ?_)
            have hP : va_P (dC, dI) classes [(oM, .inr (12, fm)), (am_meet, .inl (cZ, 256, .inl ((upd (fun _ => 0) (((16 * li) + ot) : Int32).toNatClampNeg (vp_nar .boolean 1)))))] H := hP
            have hD : va_D A [(oM, .inr (12, fm)), (am_meet, .inl (cZ, 256, .inl ((upd (fun _ => 0) (((16 * li) + ot) : Int32).toNatClampNeg (vp_nar .boolean 1)))))] := hD
            generalize (upd (fun _ => 0) (((16 * li) + ot) : Int32).toNatClampNeg (vp_nar .boolean 1)) = f62_6 at hP hD
            refine lv_aload_n hx hb d_Mo_may_63 rfl (lv_at hl 1 rfl) ?_
            refine va_get (D := (dC, dI)) (ci := 12) (v := .ref am_meet) (C := R_Mo) (T := F_Mo) (N := 87) hx hb hts (fun w h => List.mem_cons_of_mem _ (in_Mo w h)) hown hK.1 hP 0 rfl rfl 18 (by decide) (hts _ (List.mem_cons_of_mem _ mw_1804)) (fun _ h9 => h9) hm_meet d_Mo_may_64 ?_
            refine lv_bipush (v := 16) hx hb d_Mo_may_67 (by decide) ?_
            refine lv_iload_n hx hb d_Mo_may_69 rfl (lv_at hl 3 rfl) ?_
            refine lv_imul hx hb d_Mo_may_70 ?_
            refine lv_iload_n hx hb d_Mo_may_71 rfl (lv_at hl 2 rfl) ?_
            refine lv_iadd hx hb d_Mo_may_72 ?_
            refine lv_iconst (v := 1) hx hb d_Mo_may_73 (by decide) ?_
            refine va_zast hx hb hK.1 hP hD hS 1 2 rfl rfl (ir_16 h13 h19 h2 h8) d_Mo_may_74 (fun H locs hP hD hS => ?_)
            have hP : va_P (dC, dI) classes [(oM, .inr (12, fm)), (am_meet, .inl (cZ, 256, .inl ((upd f62_6 (((16 * ot) + li) : Int32).toNatClampNeg (vp_nar .boolean 1)))))] H := hP
            have hD : va_D A [(oM, .inr (12, fm)), (am_meet, .inl (cZ, 256, .inl ((upd f62_6 (((16 * ot) + li) : Int32).toNatClampNeg (vp_nar .boolean 1)))))] := hD
            generalize (upd f62_6 (((16 * ot) + li) : Int32).toNatClampNeg (vp_nar .boolean 1)) = f74_7 at hP hD
            refine lv_iload_n hx hb d_Mo_may_75 rfl (lv_at hl 0 rfl) ?_
            exact W.zret (v := 1) (ty := .boolean) hx hb hr (by decide) (fun t ht hW => ⟨⟨_, (), rfl, (by unfold fn_Mo_may; rw [if_neg h2, if_neg h8, if_neg h13, if_neg h19, if_neg h24]), trivial⟩, hS.F ht⟩) hS.2.2 d_Mo_may_76
theorem d_Mo_answer_0 : decode b_Mo_answer 0 = .ok (.aload_n 0, 1) := by decide +kernel
theorem d_Mo_answer_1 : decode b_Mo_answer 1 = .ok (.iconst 0, 1) := by decide +kernel
theorem d_Mo_answer_2 : decode b_Mo_answer 2 = .ok (.putfield 576, 3) := by decide +kernel
theorem d_Mo_answer_5 : decode b_Mo_answer 5 = .ok (.aload_n 0, 1) := by decide +kernel
theorem d_Mo_answer_6 : decode b_Mo_answer 6 = .ok (.getfield 162, 3) := by decide +kernel
theorem d_Mo_answer_9 : decode b_Mo_answer 9 = .ok (.ifCond .ne 12, 3) := by decide +kernel
theorem d_Mo_answer_21 : decode b_Mo_answer 21 = .ok (.iconst (-1), 1) := by decide +kernel
theorem d_Mo_answer_22 : decode b_Mo_answer 22 = .ok (.istore_n 3, 1) := by decide +kernel
theorem d_Mo_answer_23 : decode b_Mo_answer 23 = .ok (.iload_n 3, 1) := by decide +kernel
theorem d_Mo_answer_24 : decode b_Mo_answer 24 = .ok (.iconst (-1), 1) := by decide +kernel
theorem d_Mo_answer_25 : decode b_Mo_answer 25 = .ok (.if_icmp .ne 5, 3) := by decide +kernel
theorem d_Mo_answer_28 : decode b_Mo_answer 28 = .ok (.iconst 0, 1) := by decide +kernel
theorem d_Mo_answer_29 : decode b_Mo_answer 29 = .ok (.ireturn, 1) := by decide +kernel
set_option maxHeartbeats 4000000 in
set_option maxRecDepth 100000 in
theorem c_Mo_answer (l : Launch) (dC : Nat → ClassId) (dI : Nat → Nat → Nat) (cI cB cZ cJ : ClassId) (vv : Int64) (oM : Nat) (fm : List Value) (hm_state : fm[59]? = some (.int 4)) (hm_left : fm[77]? = some (.int 0)) (sz : Nat) : Met l y_Mo_answer w_Mo_answer ({ frames := 0, cells := 0, slots := 0, locals := 0 }) (va_Pc [.ref oM, .long vv] (PW dC dI cI cB cZ cJ [(oM, .inr (12, fm))] sz)) (va_Qi (fun (r : Int32) (_ : Unit) => r = 0) (fun _ _ => True) (va_A [(oM, .inr (12, fm))] sz)) 0 0 (va_A [(oM, .inr (12, fm))] sz) := by
  refine Met.ofW (cc := b_Mo_answer) (maxL := 4) (ret := (some .boolean)) (by decide) rfl ?_
  intro p e s m args below meth c s₁ B hml hv
  obtain ⟨rfl, hsz, hP, hK, hD⟩ := hv
  have hx := B.exec
  have hb := B.bytes
  have hr := B.returns
  have hts := atoms_spec (ws := w_Mo_answer) B.pre
  have hown : s.vm.findClass R_Mo = some m.cls := findClass_of_methodNamed B.named
  have hlocks := B.notSynchronized
  subst hsz
  have hD := hD.self (sz := s.heap.size)
  generalize hAe : va_A [(oM, .inr (12, fm))] s.heap.size = A at hD ⊢
  have hA : ∀ q : Nat, s.heap.size ≤ q → A q := fun q h => by rw [← hAe]; exact Or.inr h
  have hS : va_S A s.heap s.heap [] := va_S.rf
  have hP : va_P (dC, dI) classes [(oM, .inr (12, fm))] s.heap := hP
  have hl := lv_entry ([.ref oM, .long vv]) (n := 4) (Nat.le_of_ble_eq_true rfl)
  rw [lg_entry_eq]
  generalize (lg_sl ([.ref oM, .long vv]) ++ List.replicate (4 - (lg_sl ([.ref oM, .long vv])).length) Slot.unset).toArray = ls at hl ⊢
  have hl : lv_has ls 4 [(0, .ref oM), (1, .long vv)] := hl
  refine lv_aload_n hx hb d_Mo_answer_0 rfl (lv_at hl 0 rfl) ?_
  refine lv_iconst (v := 0) hx hb d_Mo_answer_1 (by decide) ?_
  refine va_put (D := (dC, dI)) (ci := 12) (v := .int 0) (ty := .int) (C := R_Mo) (T := F_Mo) (N := 87) hx hb hts (fun w h => List.mem_cons_of_mem _ (in_Mo w h)) t_Mo t_Mo_ok n_Mo hown hK.1 hP hD hS 0 rfl rfl 77 (by decide) (hts _ (List.mem_cons_of_mem _ mw_1863)) (fun _ h9 => h9) rfl (by decide +kernel) rfl rfl (st_lt hm_left) d_Mo_answer_2 (fun H locs hP hD hS => ?_)
  have g2_77 : (fm.set 77 (.int 0))[77]? = some (.int 0) := (st_eq hm_left)
  have g2_59 : (fm.set 77 (.int 0))[59]? = some (.int 4) := (st_ne hm_state (by decide))
  have hP : va_P (dC, dI) classes [(oM, .inr (12, (fm.set 77 (.int 0))))] H := hP
  have hD : va_D A [(oM, .inr (12, (fm.set 77 (.int 0))))] := hD
  refine lv_aload_n hx hb d_Mo_answer_5 rfl (lv_at hl 0 rfl) ?_
  refine va_get (D := (dC, dI)) (ci := 12) (v := .int 4) (C := R_Mo) (T := F_Mo) (N := 87) hx hb hts (fun w h => List.mem_cons_of_mem _ (in_Mo w h)) hown hK.1 hP 0 rfl rfl 59 (by decide) (hts _ (List.mem_cons_of_mem _ mw_1845)) (fun _ h9 => h9) g2_59 d_Mo_answer_6 ?_
  refine lv_if_ne (tgt := 21) hx hb d_Mo_answer_9 (by decide) (fun _ => ?_) (fun h => absurd h (by decide))
  refine lv_iconst (v := (-1)) hx hb d_Mo_answer_21 (by decide) ?_
  refine lv_istore_n hx hb d_Mo_answer_22 rfl hl (by decide) rfl (fun ls hl => ?_)
  have hl : lv_has ls 4 [(3, .int (-1)), (0, .ref oM), (1, .long vv)] := hl
  refine lv_iload_n hx hb d_Mo_answer_23 rfl (lv_at hl 0 rfl) ?_
  refine lv_iconst (v := (-1)) hx hb d_Mo_answer_24 (by decide) ?_
  refine lv_icmp_ne (tgt := 30) hx hb d_Mo_answer_25 (by decide) (fun h => absurd rfl h) (fun _ => ?_)
  refine lv_iconst (v := 0) hx hb d_Mo_answer_28 (by decide) ?_
  exact W.zret (v := 0) (ty := .boolean) hx hb hr (by decide) (fun t ht hW => ⟨⟨_, (), rfl, (rfl), trivial⟩, hS.F ht⟩) hS.2.2 d_Mo_answer_29
theorem d_Mo_still_0 : decode b_Mo_still 0 = .ok (.aload_n 0, 1) := by decide +kernel
theorem d_Mo_still_1 : decode b_Mo_still 1 = .ok (.iload_n 1, 1) := by decide +kernel
theorem d_Mo_still_2 : decode b_Mo_still 2 = .ok (.putfield 576, 3) := by decide +kernel
theorem d_Mo_still_5 : decode b_Mo_still 5 = .ok (.iload_n 1, 1) := by decide +kernel
theorem d_Mo_still_6 : decode b_Mo_still 6 = .ok (.ifCond .lt 27, 3) := by decide +kernel
theorem d_Mo_still_9 : decode b_Mo_still 9 = .ok (.aload_n 0, 1) := by decide +kernel
theorem d_Mo_still_10 : decode b_Mo_still 10 = .ok (.getfield 162, 3) := by decide +kernel
theorem d_Mo_still_13 : decode b_Mo_still 13 = .ok (.ifCond .eq 11, 3) := by decide +kernel
theorem d_Mo_still_16 : decode b_Mo_still 16 = .ok (.aload_n 0, 1) := by decide +kernel
theorem d_Mo_still_17 : decode b_Mo_still 17 = .ok (.getfield 162, 3) := by decide +kernel
theorem d_Mo_still_20 : decode b_Mo_still 20 = .ok (.iconst 2, 1) := by decide +kernel
theorem d_Mo_still_21 : decode b_Mo_still 21 = .ok (.if_icmp .ne 12, 3) := by decide +kernel
theorem d_Mo_still_33 : decode b_Mo_still 33 = .ok (.iconst (-1), 1) := by decide +kernel
theorem d_Mo_still_34 : decode b_Mo_still 34 = .ok (.istore_n 2, 1) := by decide +kernel
theorem d_Mo_still_35 : decode b_Mo_still 35 = .ok (.iload_n 2, 1) := by decide +kernel
theorem d_Mo_still_36 : decode b_Mo_still 36 = .ok (.iconst (-1), 1) := by decide +kernel
theorem d_Mo_still_37 : decode b_Mo_still 37 = .ok (.if_icmp .ne 7, 3) := by decide +kernel
theorem d_Mo_still_40 : decode b_Mo_still 40 = .ok (.iconst (-1), 1) := by decide +kernel
theorem d_Mo_still_41 : decode b_Mo_still 41 = .ok (.goto 9, 3) := by decide +kernel
theorem d_Mo_still_50 : decode b_Mo_still 50 = .ok (.ireturn, 1) := by decide +kernel
set_option maxHeartbeats 4000000 in
set_option maxRecDepth 100000 in
theorem c_Mo_still (l : Launch) (dC : Nat → ClassId) (dI : Nat → Nat → Nat) (cI cB cZ cJ : ClassId) (kk : Int32) (oM : Nat) (fm : List Value) (hm_state : fm[59]? = some (.int 4)) (hm_left : fm[77]? = some (.int 0)) (sz : Nat) : Met l y_Mo_still w_Mo_still ({ frames := 0, cells := 0, slots := 0, locals := 0 }) (va_Pc [.ref oM, .int kk] (PW dC dI cI cB cZ cJ [(oM, .inr (12, fm))] sz)) (va_Qi (fun (r : Int32) (_ : Unit) => r = (-1)) (fun _ _ => True) (va_A [(oM, .inr (12, fm))] sz)) 0 0 (va_A [(oM, .inr (12, fm))] sz) := by
  refine Met.ofW (cc := b_Mo_still) (maxL := 3) (ret := (some .int)) (by decide) rfl ?_
  intro p e s m args below meth c s₁ B hml hv
  obtain ⟨rfl, hsz, hP, hK, hD⟩ := hv
  have hx := B.exec
  have hb := B.bytes
  have hr := B.returns
  have hts := atoms_spec (ws := w_Mo_still) B.pre
  have hown : s.vm.findClass R_Mo = some m.cls := findClass_of_methodNamed B.named
  have hlocks := B.notSynchronized
  subst hsz
  have hD := hD.self (sz := s.heap.size)
  generalize hAe : va_A [(oM, .inr (12, fm))] s.heap.size = A at hD ⊢
  have hA : ∀ q : Nat, s.heap.size ≤ q → A q := fun q h => by rw [← hAe]; exact Or.inr h
  have hS : va_S A s.heap s.heap [] := va_S.rf
  have hP : va_P (dC, dI) classes [(oM, .inr (12, fm))] s.heap := hP
  have hl := lv_entry ([.ref oM, .int kk]) (n := 3) (Nat.le_of_ble_eq_true rfl)
  rw [lg_entry_eq]
  generalize (lg_sl ([.ref oM, .int kk]) ++ List.replicate (3 - (lg_sl ([.ref oM, .int kk])).length) Slot.unset).toArray = ls at hl ⊢
  have hl : lv_has ls 3 [(0, .ref oM), (1, .int kk)] := hl
  refine lv_aload_n hx hb d_Mo_still_0 rfl (lv_at hl 0 rfl) ?_
  refine lv_iload_n hx hb d_Mo_still_1 rfl (lv_at hl 1 rfl) ?_
  refine va_put (D := (dC, dI)) (ci := 12) (v := .int kk) (ty := .int) (C := R_Mo) (T := F_Mo) (N := 87) hx hb hts (fun w h => List.mem_cons_of_mem _ (in_Mo w h)) t_Mo t_Mo_ok n_Mo hown hK.1 hP hD hS 0 rfl rfl 77 (by decide) (hts _ (List.mem_cons_of_mem _ mw_1863)) (fun _ h9 => h9) rfl (by decide +kernel) rfl rfl (st_lt hm_left) d_Mo_still_2 (fun H locs hP hD hS => ?_)
  have g2_77 : (fm.set 77 (.int kk))[77]? = some (.int kk) := (st_eq hm_left)
  have g2_59 : (fm.set 77 (.int kk))[59]? = some (.int 4) := (st_ne hm_state (by decide))
  have hP : va_P (dC, dI) classes [(oM, .inr (12, (fm.set 77 (.int kk))))] H := hP
  have hD : va_D A [(oM, .inr (12, (fm.set 77 (.int kk))))] := hD
  refine lv_iload_n hx hb d_Mo_still_5 rfl (lv_at hl 1 rfl) ?_
  refine lv_if_lt (tgt := 33) hx hb d_Mo_still_6 (by decide) (fun h6 => ?_) (fun h6 => ?_)
  · refine lv_iconst (v := (-1)) hx hb d_Mo_still_33 (by decide) ?_
    refine lv_istore_n hx hb d_Mo_still_34 rfl hl (by decide) rfl (fun ls hl => ?_)
    have hl : lv_has ls 3 [(2, .int (-1)), (0, .ref oM), (1, .int kk)] := hl
    refine lv_iload_n hx hb d_Mo_still_35 rfl (lv_at hl 0 rfl) ?_
    refine lv_iconst (v := (-1)) hx hb d_Mo_still_36 (by decide) ?_
    refine lv_icmp_ne (tgt := 44) hx hb d_Mo_still_37 (by decide) (fun h => absurd rfl h) (fun _ => ?_)
    refine lv_iconst (v := (-1)) hx hb d_Mo_still_40 (by decide) ?_
    refine lv_goto (tgt := 50) hx hb d_Mo_still_41 (by decide) ?_
    exact W.iret (v := (-1)) hx hb hr (fun t ht hW => ⟨⟨_, (), rfl, (rfl), trivial⟩, hS.F ht⟩) hS.2.2 d_Mo_still_50
  · refine lv_aload_n hx hb d_Mo_still_9 rfl (lv_at hl 0 rfl) ?_
    refine va_get (D := (dC, dI)) (ci := 12) (v := .int 4) (C := R_Mo) (T := F_Mo) (N := 87) hx hb hts (fun w h => List.mem_cons_of_mem _ (in_Mo w h)) hown hK.1 hP 0 rfl rfl 59 (by decide) (hts _ (List.mem_cons_of_mem _ mw_1845)) (fun _ h9 => h9) g2_59 d_Mo_still_10 ?_
    refine lv_if_eq (tgt := 24) hx hb d_Mo_still_13 (by decide) (fun h => absurd h (by decide)) (fun _ => ?_)
    refine lv_aload_n hx hb d_Mo_still_16 rfl (lv_at hl 0 rfl) ?_
    refine va_get (D := (dC, dI)) (ci := 12) (v := .int 4) (C := R_Mo) (T := F_Mo) (N := 87) hx hb hts (fun w h => List.mem_cons_of_mem _ (in_Mo w h)) hown hK.1 hP 0 rfl rfl 59 (by decide) (hts _ (List.mem_cons_of_mem _ mw_1845)) (fun _ h9 => h9) g2_59 d_Mo_still_17 ?_
    refine lv_iconst (v := 2) hx hb d_Mo_still_20 (by decide) ?_
    refine lv_icmp_ne (tgt := 33) hx hb d_Mo_still_21 (by decide) (fun _ => ?_) (fun h => absurd h (by decide))
    refine lv_iconst (v := (-1)) hx hb d_Mo_still_33 (by decide) ?_
    refine lv_istore_n hx hb d_Mo_still_34 rfl hl (by decide) rfl (fun ls hl => ?_)
    have hl : lv_has ls 3 [(2, .int (-1)), (0, .ref oM), (1, .int kk)] := hl
    refine lv_iload_n hx hb d_Mo_still_35 rfl (lv_at hl 0 rfl) ?_
    refine lv_iconst (v := (-1)) hx hb d_Mo_still_36 (by decide) ?_
    refine lv_icmp_ne (tgt := 44) hx hb d_Mo_still_37 (by decide) (fun h => absurd rfl h) (fun _ => ?_)
    refine lv_iconst (v := (-1)) hx hb d_Mo_still_40 (by decide) ?_
    refine lv_goto (tgt := 50) hx hb d_Mo_still_41 (by decide) ?_
    exact W.iret (v := (-1)) hx hb hr (fun t ht hW => ⟨⟨_, (), rfl, (rfl), trivial⟩, hS.F ht⟩) hS.2.2 d_Mo_still_50
theorem d_Mo_write_0 : decode b_Mo_write 0 = .ok (.aload_n 0, 1) := by decide +kernel
theorem d_Mo_write_1 : decode b_Mo_write 1 = .ok (.iload_n 1, 1) := by decide +kernel
theorem d_Mo_write_2 : decode b_Mo_write 2 = .ok (.putfield 294, 3) := by decide +kernel
theorem d_Mo_write_5 : decode b_Mo_write 5 = .ok (.aload_n 0, 1) := by decide +kernel
theorem d_Mo_write_6 : decode b_Mo_write 6 = .ok (.iconst (-1), 1) := by decide +kernel
theorem d_Mo_write_7 : decode b_Mo_write 7 = .ok (.putfield 297, 3) := by decide +kernel
theorem d_Mo_write_10 : decode b_Mo_write 10 = .ok (.iconst 0, 1) := by decide +kernel
theorem d_Mo_write_11 : decode b_Mo_write 11 = .ok (.istore_n 2, 1) := by decide +kernel
theorem d_Mo_write_12 : decode b_Mo_write 12 = .ok (.iload_n 2, 1) := by decide +kernel
theorem d_Mo_write_13 : decode b_Mo_write 13 = .ok (.aload_n 0, 1) := by decide +kernel
theorem d_Mo_write_14 : decode b_Mo_write 14 = .ok (.getfield 278, 3) := by decide +kernel
theorem d_Mo_write_17 : decode b_Mo_write 17 = .ok (.if_icmp .ge 97, 3) := by decide +kernel
theorem d_Mo_write_114 : decode b_Mo_write 114 = .ok (.iconst 0, 1) := by decide +kernel
theorem d_Mo_write_115 : decode b_Mo_write 115 = .ok (.istore_n 2, 1) := by decide +kernel
theorem d_Mo_write_116 : decode b_Mo_write 116 = .ok (.iload_n 2, 1) := by decide +kernel
theorem d_Mo_write_117 : decode b_Mo_write 117 = .ok (.aload_n 0, 1) := by decide +kernel
theorem d_Mo_write_118 : decode b_Mo_write 118 = .ok (.getfield 281, 3) := by decide +kernel
theorem d_Mo_write_121 : decode b_Mo_write 121 = .ok (.if_icmp .ge 62, 3) := by decide +kernel
theorem d_Mo_write_183 : decode b_Mo_write 183 = .ok (.aload_n 0, 1) := by decide +kernel
theorem d_Mo_write_184 : decode b_Mo_write 184 = .ok (.getfield 297, 3) := by decide +kernel
theorem d_Mo_write_187 : decode b_Mo_write 187 = .ok (.ireturn, 1) := by decide +kernel
set_option maxHeartbeats 4000000 in
set_option maxRecDepth 100000 in
theorem c_Mo_write (l : Launch) (dC : Nat → ClassId) (dI : Nat → Nat → Nat) (cI cB cZ cJ : ClassId) (ii : Int32) (oM : Nat) (fm : List Value) (hm_things : fm[4]? = some (.int 0)) (hm_pipes : fm[11]? = some (.int 0)) (hm_wish : fm[83]? = some (.int 0)) (hm_found : fm[84]? = some (.int 0)) (sz : Nat) : Met l y_Mo_write w_Mo_write ({ frames := 0, cells := 0, slots := 0, locals := 0 }) (va_Pc [.ref oM, .int ii] (PW dC dI cI cB cZ cJ [(oM, .inr (12, fm))] sz)) (va_Qi (fun (r : Int32) (_ : Unit) => r = (-1)) (fun _ _ => True) (va_A [(oM, .inr (12, fm))] sz)) 0 0 (va_A [(oM, .inr (12, fm))] sz) := by
  refine Met.ofW (cc := b_Mo_write) (maxL := 3) (ret := (some .int)) (by decide) rfl ?_
  intro p e s m args below meth c s₁ B hml hv
  obtain ⟨rfl, hsz, hP, hK, hD⟩ := hv
  have hx := B.exec
  have hb := B.bytes
  have hr := B.returns
  have hts := atoms_spec (ws := w_Mo_write) B.pre
  have hown : s.vm.findClass R_Mo = some m.cls := findClass_of_methodNamed B.named
  have hlocks := B.notSynchronized
  subst hsz
  have hD := hD.self (sz := s.heap.size)
  generalize hAe : va_A [(oM, .inr (12, fm))] s.heap.size = A at hD ⊢
  have hA : ∀ q : Nat, s.heap.size ≤ q → A q := fun q h => by rw [← hAe]; exact Or.inr h
  have hS : va_S A s.heap s.heap [] := va_S.rf
  have hP : va_P (dC, dI) classes [(oM, .inr (12, fm))] s.heap := hP
  have hl := lv_entry ([.ref oM, .int ii]) (n := 3) (Nat.le_of_ble_eq_true rfl)
  rw [lg_entry_eq]
  generalize (lg_sl ([.ref oM, .int ii]) ++ List.replicate (3 - (lg_sl ([.ref oM, .int ii])).length) Slot.unset).toArray = ls at hl ⊢
  have hl : lv_has ls 3 [(0, .ref oM), (1, .int ii)] := hl
  refine lv_aload_n hx hb d_Mo_write_0 rfl (lv_at hl 0 rfl) ?_
  refine lv_iload_n hx hb d_Mo_write_1 rfl (lv_at hl 1 rfl) ?_
  refine va_put (D := (dC, dI)) (ci := 12) (v := .int ii) (ty := .int) (C := R_Mo) (T := F_Mo) (N := 87) hx hb hts (fun w h => List.mem_cons_of_mem _ (in_Mo w h)) t_Mo t_Mo_ok n_Mo hown hK.1 hP hD hS 0 rfl rfl 83 (by decide) (hts _ (List.mem_cons_of_mem _ mw_1869)) (fun _ h9 => h9) rfl (by decide +kernel) rfl rfl (st_lt hm_wish) d_Mo_write_2 (fun H locs hP hD hS => ?_)
  have g2_84 : (fm.set 83 (.int ii))[84]? = some (.int 0) := (st_ne hm_found (by decide))
  have g2_11 : (fm.set 83 (.int ii))[11]? = some (.int 0) := (st_ne hm_pipes (by decide))
  have g2_4 : (fm.set 83 (.int ii))[4]? = some (.int 0) := (st_ne hm_things (by decide))
  have g2_83 : (fm.set 83 (.int ii))[83]? = some (.int ii) := (st_eq hm_wish)
  have hP : va_P (dC, dI) classes [(oM, .inr (12, (fm.set 83 (.int ii))))] H := hP
  have hD : va_D A [(oM, .inr (12, (fm.set 83 (.int ii))))] := hD
  refine lv_aload_n hx hb d_Mo_write_5 rfl (lv_at hl 0 rfl) ?_
  refine lv_iconst (v := (-1)) hx hb d_Mo_write_6 (by decide) ?_
  refine va_put (D := (dC, dI)) (ci := 12) (v := .int (-1)) (ty := .int) (C := R_Mo) (T := F_Mo) (N := 87) hx hb hts (fun w h => List.mem_cons_of_mem _ (in_Mo w h)) t_Mo t_Mo_ok n_Mo hown hK.1 hP hD hS 0 rfl rfl 84 (by decide) (hts _ (List.mem_cons_of_mem _ mw_1870)) (fun _ h9 => h9) rfl (by decide +kernel) rfl rfl (st_lt g2_84) d_Mo_write_7 (fun H locs hP hD hS => ?_)
  have g7_84 : ((fm.set 83 (.int ii)).set 84 (.int (-1)))[84]? = some (.int (-1)) := (st_eq g2_84)
  have g7_11 : ((fm.set 83 (.int ii)).set 84 (.int (-1)))[11]? = some (.int 0) := (st_ne g2_11 (by decide))
  have g7_4 : ((fm.set 83 (.int ii)).set 84 (.int (-1)))[4]? = some (.int 0) := (st_ne g2_4 (by decide))
  have g7_83 : ((fm.set 83 (.int ii)).set 84 (.int (-1)))[83]? = some (.int ii) := (st_ne g2_83 (by decide))
  have hP : va_P (dC, dI) classes [(oM, .inr (12, ((fm.set 83 (.int ii)).set 84 (.int (-1)))))] H := hP
  have hD : va_D A [(oM, .inr (12, ((fm.set 83 (.int ii)).set 84 (.int (-1)))))] := hD
  refine lv_iconst (v := 0) hx hb d_Mo_write_10 (by decide) ?_
  refine lv_istore_n hx hb d_Mo_write_11 rfl hl (by decide) rfl (fun ls hl => ?_)
  have hl : lv_has ls 3 [(2, .int 0), (0, .ref oM), (1, .int ii)] := hl
  refine lv_iload_n hx hb d_Mo_write_12 rfl (lv_at hl 0 rfl) ?_
  refine lv_aload_n hx hb d_Mo_write_13 rfl (lv_at hl 1 rfl) ?_
  refine va_get (D := (dC, dI)) (ci := 12) (v := .int 0) (C := R_Mo) (T := F_Mo) (N := 87) hx hb hts (fun w h => List.mem_cons_of_mem _ (in_Mo w h)) hown hK.1 hP 0 rfl rfl 4 (by decide) (hts _ (List.mem_cons_of_mem _ mw_1790)) (fun _ h9 => h9) g7_4 d_Mo_write_14 ?_
  refine lv_icmp_ge (tgt := 114) hx hb d_Mo_write_17 (by decide) (fun _ => ?_) (fun h => absurd (by decide) h)
  refine lv_iconst (v := 0) hx hb d_Mo_write_114 (by decide) ?_
  refine lv_istore_n hx hb d_Mo_write_115 rfl hl (by decide) rfl (fun ls hl => ?_)
  have hl : lv_has ls 3 [(2, .int 0), (0, .ref oM), (1, .int ii)] := hl
  refine lv_iload_n hx hb d_Mo_write_116 rfl (lv_at hl 0 rfl) ?_
  refine lv_aload_n hx hb d_Mo_write_117 rfl (lv_at hl 1 rfl) ?_
  refine va_get (D := (dC, dI)) (ci := 12) (v := .int 0) (C := R_Mo) (T := F_Mo) (N := 87) hx hb hts (fun w h => List.mem_cons_of_mem _ (in_Mo w h)) hown hK.1 hP 0 rfl rfl 11 (by decide) (hts _ (List.mem_cons_of_mem _ mw_1797)) (fun _ h9 => h9) g7_11 d_Mo_write_118 ?_
  refine lv_icmp_ge (tgt := 183) hx hb d_Mo_write_121 (by decide) (fun _ => ?_) (fun h => absurd (by decide) h)
  refine lv_aload_n hx hb d_Mo_write_183 rfl (lv_at hl 1 rfl) ?_
  refine va_get (D := (dC, dI)) (ci := 12) (v := .int (-1)) (C := R_Mo) (T := F_Mo) (N := 87) hx hb hts (fun w h => List.mem_cons_of_mem _ (in_Mo w h)) hown hK.1 hP 0 rfl rfl 84 (by decide) (hts _ (List.mem_cons_of_mem _ mw_1870)) (fun _ h9 => h9) g7_84 d_Mo_write_184 ?_
  exact W.iret (v := (-1)) hx hb hr (fun t ht hW => ⟨⟨_, (), rfl, (rfl), trivial⟩, hS.F ht⟩) hS.2.2 d_Mo_write_187
