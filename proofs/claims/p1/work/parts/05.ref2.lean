abbrev b_Mo_raise : ByteArray := prog_14_method_56_code
def y_Mo_raise : MethodName := ⟨R_Mo, "raise", "(II)V"⟩
abbrev w_Mo_raise : List Cond := .code y_Mo_raise b_Mo_raise 3 none :: lw_gd
abbrev b_Mo_perform : ByteArray := prog_14_method_55_code
def y_Mo_perform : MethodName := ⟨R_Mo, "perform", "(I)I"⟩
abbrev w_Mo_perform : List Cond := .code y_Mo_perform b_Mo_perform 7 (some .int) :: lw_gd
abbrev b_Mo_act : ByteArray := prog_14_method_57_code
def y_Mo_act : MethodName := ⟨R_Mo, "act", "(I)I"⟩
abbrev w_Mo_act : List Cond := .code y_Mo_act b_Mo_act 3 (some .int) :: lw_gd
abbrev b_Mo_watch : ByteArray := prog_14_method_60_code
def y_Mo_watch : MethodName := ⟨R_Mo, "watch", "(IIIJ)Z"⟩
abbrev w_Mo_watch : List Cond := .code y_Mo_watch b_Mo_watch 6 (some .boolean) :: lw_gd
abbrev b_Mo_bind : ByteArray := prog_14_method_54_code
def y_Mo_bind : MethodName := ⟨R_Mo, "bind", "(IIIII)Z"⟩
abbrev w_Mo_bind : List Cond := .code y_Mo_bind b_Mo_bind 6 (some .boolean) :: lw_gd
abbrev b_Mo_lasts : ByteArray := prog_14_method_53_code
def y_Mo_lasts : MethodName := ⟨R_Mo, "lasts", "(II)Z"⟩
abbrev w_Mo_lasts : List Cond := .code y_Mo_lasts b_Mo_lasts 3 (some .boolean) :: lw_gd
abbrev b_Mo_need : ByteArray := prog_14_method_52_code
def y_Mo_need : MethodName := ⟨R_Mo, "need", "(III)Z"⟩
abbrev w_Mo_need : List Cond := .code y_Mo_need b_Mo_need 4 (some .boolean) :: lw_gd
abbrev b_Mo_may : ByteArray := prog_14_method_51_code
def y_Mo_may : MethodName := ⟨R_Mo, "may", "(II)Z"⟩
abbrev w_Mo_may : List Cond := .code y_Mo_may b_Mo_may 4 (some .boolean) :: lw_gd
abbrev b_Mo_answer : ByteArray := prog_14_method_85_code
def y_Mo_answer : MethodName := ⟨R_Mo, "answer", "(J)Z"⟩
abbrev w_Mo_answer : List Cond := .code y_Mo_answer b_Mo_answer 4 (some .boolean) :: lw_gd
abbrev b_Mo_still : ByteArray := prog_14_method_89_code
def y_Mo_still : MethodName := ⟨R_Mo, "still", "(I)I"⟩
abbrev w_Mo_still : List Cond := .code y_Mo_still b_Mo_still 3 (some .int) :: lw_gd
abbrev b_Mo_write : ByteArray := prog_14_method_15_code
def y_Mo_write : MethodName := ⟨R_Mo, "write", "(I)I"⟩
abbrev w_Mo_write : List Cond := .code y_Mo_write b_Mo_write 3 (some .int) :: lw_gd
theorem mw_1812 : (.fieldLink "BreweryHouseModel" 64 "BreweryHouseModel" "meet" "[Z" : Cond) ∈ lw_gd := tb_mem (i := 1812) (by decide +kernel) (by decide +kernel)
theorem mw_1813 : (.fieldLink "BreweryHouseModel" 68 "BreweryHouseModel" "needs" "[I" : Cond) ∈ lw_gd := tb_mem (i := 1813) (by decide +kernel) (by decide +kernel)
theorem mw_1814 : (.fieldLink "BreweryHouseModel" 71 "BreweryHouseModel" "lasting" "[I" : Cond) ∈ lw_gd := tb_mem (i := 1814) (by decide +kernel) (by decide +kernel)
theorem mw_1843 : (.fieldLink "BreweryHouseModel" 132 "BreweryHouseModel" "does" "[I" : Cond) ∈ lw_gd := tb_mem (i := 1843) (by decide +kernel) (by decide +kernel)
theorem mw_1844 : (.fieldLink "BreweryHouseModel" 135 "BreweryHouseModel" "xs" "[I" : Cond) ∈ lw_gd := tb_mem (i := 1844) (by decide +kernel) (by decide +kernel)
theorem mw_1845 : (.fieldLink "BreweryHouseModel" 138 "BreweryHouseModel" "ys" "[I" : Cond) ∈ lw_gd := tb_mem (i := 1845) (by decide +kernel) (by decide +kernel)
theorem mw_1846 : (.fieldLink "BreweryHouseModel" 141 "BreweryHouseModel" "zs" "[I" : Cond) ∈ lw_gd := tb_mem (i := 1846) (by decide +kernel) (by decide +kernel)
theorem mw_1849 : (.fieldLink "BreweryHouseModel" 150 "BreweryHouseModel" "watchWhat" "[I" : Cond) ∈ lw_gd := tb_mem (i := 1849) (by decide +kernel) (by decide +kernel)
theorem mw_1850 : (.fieldLink "BreweryHouseModel" 153 "BreweryHouseModel" "watchOf" "[I" : Cond) ∈ lw_gd := tb_mem (i := 1850) (by decide +kernel) (by decide +kernel)
theorem mw_1851 : (.fieldLink "BreweryHouseModel" 156 "BreweryHouseModel" "watchLeast" "[J" : Cond) ∈ lw_gd := tb_mem (i := 1851) (by decide +kernel) (by decide +kernel)
theorem mw_1871 : (.fieldLink "BreweryHouseModel" 576 "BreweryHouseModel" "left" "I" : Cond) ∈ lw_gd := tb_mem (i := 1871) (by decide +kernel) (by decide +kernel)
theorem mw_1874 : (.fieldLink "BreweryHouseModel" 202 "BreweryHouseModel" "alarmSeconds" "[I" : Cond) ∈ lw_gd := tb_mem (i := 1874) (by decide +kernel) (by decide +kernel)
theorem mw_1875 : (.fieldLink "BreweryHouseModel" 205 "BreweryHouseModel" "alarmNodes" "[I" : Cond) ∈ lw_gd := tb_mem (i := 1875) (by decide +kernel) (by decide +kernel)
theorem mw_1876 : (.fieldLink "BreweryHouseModel" 208 "BreweryHouseModel" "alarmKinds" "[I" : Cond) ∈ lw_gd := tb_mem (i := 1876) (by decide +kernel) (by decide +kernel)
theorem mw_1877 : (.fieldLink "BreweryHouseModel" 294 "BreweryHouseModel" "wish" "I" : Cond) ∈ lw_gd := tb_mem (i := 1877) (by decide +kernel) (by decide +kernel)
theorem mw_1878 : (.fieldLink "BreweryHouseModel" 297 "BreweryHouseModel" "found" "I" : Cond) ∈ lw_gd := tb_mem (i := 1878) (by decide +kernel) (by decide +kernel)
theorem mw_2465 : (.constant "BreweryHouseModel" 423 1000000 : Cond) ∈ lw_gd := tb_mem (i := 2465) (by decide +kernel) (by decide +kernel)
theorem mw_2474 : (.methodLink "BreweryHouseModel" 436 y_Mo_perform : Cond) ∈ lw_gd := tb_mem (i := 2474) (by decide +kernel) (by decide +kernel)
theorem mw_2476 : (.instanceMethod y_Mo_perform : Cond) ∈ lw_gd := tb_mem (i := 2476) (by decide +kernel) (by decide +kernel)
theorem mw_2477 : (.code y_Mo_perform b_Mo_perform 7 (some .int) : Cond) ∈ lw_gd := tb_mem (i := 2477) (by decide +kernel) (by decide +kernel)
theorem mw_2521 : (.methodLink "BreweryHouseModel" 439 y_Mo_raise : Cond) ∈ lw_gd := tb_mem (i := 2521) (by decide +kernel) (by decide +kernel)
theorem mw_2523 : (.instanceMethod y_Mo_raise : Cond) ∈ lw_gd := tb_mem (i := 2523) (by decide +kernel) (by decide +kernel)
theorem mw_2524 : (.code y_Mo_raise b_Mo_raise 3 none : Cond) ∈ lw_gd := tb_mem (i := 2524) (by decide +kernel) (by decide +kernel)
theorem sl_162 : (.selects "BreweryHouseModel" y_Mo_perform y_Mo_perform : Cond) ∈ lw_gd := List.mem_filter.mpr ⟨List.mem_append_left _ (List.mem_of_getElem? (i := 162) (by decide +kernel)), by decide +kernel⟩
theorem sl_172 : (.selects "BreweryHouseModel" y_Mo_raise y_Mo_raise : Cond) ∈ lw_gd := List.mem_filter.mpr ⟨List.mem_append_left _ (List.mem_of_getElem? (i := 172) (by decide +kernel)), by decide +kernel⟩
abbrev t_Mo_raise_53 : List UInt8 := 177 :: []
abbrev t_Mo_raise_50 : List UInt8 := 181 :: 1 :: 177 :: t_Mo_raise_53
abbrev t_Mo_raise_49 : List UInt8 := 96 :: t_Mo_raise_50
abbrev t_Mo_raise_48 : List UInt8 := 4 :: t_Mo_raise_49
abbrev t_Mo_raise_45 : List UInt8 := 180 :: 1 :: 177 :: t_Mo_raise_48
abbrev t_Mo_raise_44 : List UInt8 := 89 :: t_Mo_raise_45
abbrev t_Mo_raise_43 : List UInt8 := 42 :: t_Mo_raise_44
abbrev t_Mo_raise_42 : List UInt8 := 79 :: t_Mo_raise_43
abbrev t_Mo_raise_41 : List UInt8 := 28 :: t_Mo_raise_42
abbrev t_Mo_raise_38 : List UInt8 := 180 :: 1 :: 177 :: t_Mo_raise_41
abbrev t_Mo_raise_37 : List UInt8 := 42 :: t_Mo_raise_38
abbrev t_Mo_raise_34 : List UInt8 := 180 :: 0 :: 208 :: t_Mo_raise_37
abbrev t_Mo_raise_33 : List UInt8 := 42 :: t_Mo_raise_34
abbrev t_Mo_raise_32 : List UInt8 := 79 :: t_Mo_raise_33
abbrev t_Mo_raise_31 : List UInt8 := 27 :: t_Mo_raise_32
abbrev t_Mo_raise_28 : List UInt8 := 180 :: 1 :: 177 :: t_Mo_raise_31
abbrev t_Mo_raise_27 : List UInt8 := 42 :: t_Mo_raise_28
abbrev t_Mo_raise_24 : List UInt8 := 180 :: 0 :: 205 :: t_Mo_raise_27
abbrev t_Mo_raise_23 : List UInt8 := 42 :: t_Mo_raise_24
abbrev t_Mo_raise_22 : List UInt8 := 79 :: t_Mo_raise_23
abbrev t_Mo_raise_19 : List UInt8 := 180 :: 1 :: 70 :: t_Mo_raise_22
abbrev t_Mo_raise_18 : List UInt8 := 42 :: t_Mo_raise_19
abbrev t_Mo_raise_15 : List UInt8 := 180 :: 1 :: 177 :: t_Mo_raise_18
abbrev t_Mo_raise_14 : List UInt8 := 42 :: t_Mo_raise_15
abbrev t_Mo_raise_11 : List UInt8 := 180 :: 0 :: 202 :: t_Mo_raise_14
abbrev t_Mo_raise_10 : List UInt8 := 42 :: t_Mo_raise_11
abbrev t_Mo_raise_7 : List UInt8 := 162 :: 0 :: 46 :: t_Mo_raise_10
abbrev t_Mo_raise_4 : List UInt8 := 17 :: 0 :: 200 :: t_Mo_raise_7
abbrev t_Mo_raise_1 : List UInt8 := 180 :: 1 :: 177 :: t_Mo_raise_4
abbrev t_Mo_raise_0 : List UInt8 := 42 :: t_Mo_raise_1
theorem a_Mo_raise_0 : dk_at b_Mo_raise 0 t_Mo_raise_0 := dk_start (by decide +kernel)
theorem a_Mo_raise_1 : dk_at b_Mo_raise 1 t_Mo_raise_1 := dk_go 1 a_Mo_raise_0 rfl
theorem a_Mo_raise_4 : dk_at b_Mo_raise 4 t_Mo_raise_4 := dk_go 3 a_Mo_raise_1 rfl
theorem a_Mo_raise_7 : dk_at b_Mo_raise 7 t_Mo_raise_7 := dk_go 3 a_Mo_raise_4 rfl
theorem a_Mo_raise_10 : dk_at b_Mo_raise 10 t_Mo_raise_10 := dk_go 3 a_Mo_raise_7 rfl
theorem a_Mo_raise_11 : dk_at b_Mo_raise 11 t_Mo_raise_11 := dk_go 1 a_Mo_raise_10 rfl
theorem a_Mo_raise_14 : dk_at b_Mo_raise 14 t_Mo_raise_14 := dk_go 3 a_Mo_raise_11 rfl
theorem a_Mo_raise_15 : dk_at b_Mo_raise 15 t_Mo_raise_15 := dk_go 1 a_Mo_raise_14 rfl
theorem a_Mo_raise_18 : dk_at b_Mo_raise 18 t_Mo_raise_18 := dk_go 3 a_Mo_raise_15 rfl
theorem a_Mo_raise_19 : dk_at b_Mo_raise 19 t_Mo_raise_19 := dk_go 1 a_Mo_raise_18 rfl
theorem a_Mo_raise_22 : dk_at b_Mo_raise 22 t_Mo_raise_22 := dk_go 3 a_Mo_raise_19 rfl
theorem a_Mo_raise_23 : dk_at b_Mo_raise 23 t_Mo_raise_23 := dk_go 1 a_Mo_raise_22 rfl
theorem a_Mo_raise_24 : dk_at b_Mo_raise 24 t_Mo_raise_24 := dk_go 1 a_Mo_raise_23 rfl
theorem a_Mo_raise_27 : dk_at b_Mo_raise 27 t_Mo_raise_27 := dk_go 3 a_Mo_raise_24 rfl
theorem a_Mo_raise_28 : dk_at b_Mo_raise 28 t_Mo_raise_28 := dk_go 1 a_Mo_raise_27 rfl
theorem a_Mo_raise_31 : dk_at b_Mo_raise 31 t_Mo_raise_31 := dk_go 3 a_Mo_raise_28 rfl
theorem a_Mo_raise_32 : dk_at b_Mo_raise 32 t_Mo_raise_32 := dk_go 1 a_Mo_raise_31 rfl
theorem a_Mo_raise_33 : dk_at b_Mo_raise 33 t_Mo_raise_33 := dk_go 1 a_Mo_raise_32 rfl
theorem a_Mo_raise_34 : dk_at b_Mo_raise 34 t_Mo_raise_34 := dk_go 1 a_Mo_raise_33 rfl
theorem a_Mo_raise_37 : dk_at b_Mo_raise 37 t_Mo_raise_37 := dk_go 3 a_Mo_raise_34 rfl
theorem a_Mo_raise_38 : dk_at b_Mo_raise 38 t_Mo_raise_38 := dk_go 1 a_Mo_raise_37 rfl
theorem a_Mo_raise_41 : dk_at b_Mo_raise 41 t_Mo_raise_41 := dk_go 3 a_Mo_raise_38 rfl
theorem a_Mo_raise_42 : dk_at b_Mo_raise 42 t_Mo_raise_42 := dk_go 1 a_Mo_raise_41 rfl
theorem a_Mo_raise_43 : dk_at b_Mo_raise 43 t_Mo_raise_43 := dk_go 1 a_Mo_raise_42 rfl
theorem a_Mo_raise_44 : dk_at b_Mo_raise 44 t_Mo_raise_44 := dk_go 1 a_Mo_raise_43 rfl
theorem a_Mo_raise_45 : dk_at b_Mo_raise 45 t_Mo_raise_45 := dk_go 1 a_Mo_raise_44 rfl
theorem a_Mo_raise_48 : dk_at b_Mo_raise 48 t_Mo_raise_48 := dk_go 3 a_Mo_raise_45 rfl
theorem a_Mo_raise_49 : dk_at b_Mo_raise 49 t_Mo_raise_49 := dk_go 1 a_Mo_raise_48 rfl
theorem a_Mo_raise_50 : dk_at b_Mo_raise 50 t_Mo_raise_50 := dk_go 1 a_Mo_raise_49 rfl
theorem a_Mo_raise_53 : dk_at b_Mo_raise 53 t_Mo_raise_53 := dk_go 3 a_Mo_raise_50 rfl
theorem d_Mo_raise_0 : decode b_Mo_raise 0 = .ok (.aload_n 0, 1) := dk_0 a_Mo_raise_0 (dko_42 _)
theorem d_Mo_raise_1 : decode b_Mo_raise 1 = .ok (.getfield 433, 3) := dk_U2 a_Mo_raise_1 (dko_180 _) rfl
theorem d_Mo_raise_4 : decode b_Mo_raise 4 = .ok (.sipush 200, 3) := dk_S2 a_Mo_raise_4 (dko_17 _) (by decide +kernel)
theorem d_Mo_raise_7 : decode b_Mo_raise 7 = .ok (.if_icmp .ge 46, 3) := dk_S2 a_Mo_raise_7 (dko_162 _) (by decide +kernel)
theorem d_Mo_raise_10 : decode b_Mo_raise 10 = .ok (.aload_n 0, 1) := dk_0 a_Mo_raise_10 (dko_42 _)
theorem d_Mo_raise_11 : decode b_Mo_raise 11 = .ok (.getfield 202, 3) := dk_U2 a_Mo_raise_11 (dko_180 _) rfl
theorem d_Mo_raise_14 : decode b_Mo_raise 14 = .ok (.aload_n 0, 1) := dk_0 a_Mo_raise_14 (dko_42 _)
theorem d_Mo_raise_15 : decode b_Mo_raise 15 = .ok (.getfield 433, 3) := dk_U2 a_Mo_raise_15 (dko_180 _) rfl
theorem d_Mo_raise_18 : decode b_Mo_raise 18 = .ok (.aload_n 0, 1) := dk_0 a_Mo_raise_18 (dko_42 _)
theorem d_Mo_raise_19 : decode b_Mo_raise 19 = .ok (.getfield 326, 3) := dk_U2 a_Mo_raise_19 (dko_180 _) rfl
theorem d_Mo_raise_22 : decode b_Mo_raise 22 = .ok (.iastore, 1) := dk_0 a_Mo_raise_22 (dko_79 _)
theorem d_Mo_raise_23 : decode b_Mo_raise 23 = .ok (.aload_n 0, 1) := dk_0 a_Mo_raise_23 (dko_42 _)
theorem d_Mo_raise_24 : decode b_Mo_raise 24 = .ok (.getfield 205, 3) := dk_U2 a_Mo_raise_24 (dko_180 _) rfl
theorem d_Mo_raise_27 : decode b_Mo_raise 27 = .ok (.aload_n 0, 1) := dk_0 a_Mo_raise_27 (dko_42 _)
theorem d_Mo_raise_28 : decode b_Mo_raise 28 = .ok (.getfield 433, 3) := dk_U2 a_Mo_raise_28 (dko_180 _) rfl
theorem d_Mo_raise_31 : decode b_Mo_raise 31 = .ok (.iload_n 1, 1) := dk_0 a_Mo_raise_31 (dko_27 _)
theorem d_Mo_raise_32 : decode b_Mo_raise 32 = .ok (.iastore, 1) := dk_0 a_Mo_raise_32 (dko_79 _)
theorem d_Mo_raise_33 : decode b_Mo_raise 33 = .ok (.aload_n 0, 1) := dk_0 a_Mo_raise_33 (dko_42 _)
theorem d_Mo_raise_34 : decode b_Mo_raise 34 = .ok (.getfield 208, 3) := dk_U2 a_Mo_raise_34 (dko_180 _) rfl
theorem d_Mo_raise_37 : decode b_Mo_raise 37 = .ok (.aload_n 0, 1) := dk_0 a_Mo_raise_37 (dko_42 _)
theorem d_Mo_raise_38 : decode b_Mo_raise 38 = .ok (.getfield 433, 3) := dk_U2 a_Mo_raise_38 (dko_180 _) rfl
theorem d_Mo_raise_41 : decode b_Mo_raise 41 = .ok (.iload_n 2, 1) := dk_0 a_Mo_raise_41 (dko_28 _)
theorem d_Mo_raise_42 : decode b_Mo_raise 42 = .ok (.iastore, 1) := dk_0 a_Mo_raise_42 (dko_79 _)
theorem d_Mo_raise_43 : decode b_Mo_raise 43 = .ok (.aload_n 0, 1) := dk_0 a_Mo_raise_43 (dko_42 _)
theorem d_Mo_raise_44 : decode b_Mo_raise 44 = .ok (.dup, 1) := dk_0 a_Mo_raise_44 (dko_89 _)
theorem d_Mo_raise_45 : decode b_Mo_raise 45 = .ok (.getfield 433, 3) := dk_U2 a_Mo_raise_45 (dko_180 _) rfl
theorem d_Mo_raise_48 : decode b_Mo_raise 48 = .ok (.iconst 1, 1) := dk_0 a_Mo_raise_48 (dko_4 _)
theorem d_Mo_raise_49 : decode b_Mo_raise 49 = .ok (.iadd, 1) := dk_0 a_Mo_raise_49 (dko_96 _)
theorem d_Mo_raise_50 : decode b_Mo_raise 50 = .ok (.putfield 433, 3) := dk_U2 a_Mo_raise_50 (dko_181 _) rfl
theorem d_Mo_raise_53 : decode b_Mo_raise 53 = .ok (.return_, 1) := dk_0 a_Mo_raise_53 (dko_177 _)
set_option maxHeartbeats 4000000 in
set_option maxRecDepth 100000 in
theorem c_Mo_raise (l : Launch) (dC : Nat → ClassId) (dI : Nat → Nat → Nat) (cI cB cZ cJ : ClassId) (no : Int32) (ki : Int32) (oM : Nat) (am_alarmSeconds : Nat) (am_alarmNodes : Nat) (am_alarmKinds : Nat) (fm : List Value) (hm_now : fx fm 78 (.int 0)) (hm_alarms : fx fm 79 (.int 0)) (hm_alarmSeconds : fx fm 80 (.ref am_alarmSeconds)) (hm_alarmNodes : fx fm 81 (.ref am_alarmNodes)) (hm_alarmKinds : fx fm 82 (.ref am_alarmKinds)) (sz : Nat) : Met l y_Mo_raise w_Mo_raise ({ frames := 0, cells := 0, slots := 0, locals := 0 }) (va_Pc [.ref oM, .int no, .int ki] (PW dC dI cI cB cZ cJ [(oM, .inr (12, fm)), (am_alarmSeconds, .inl (cI, 200, .inl (fun _ => 0))), (am_alarmNodes, .inl (cI, 200, .inl (fun _ => 0))), (am_alarmKinds, .inl (cI, 200, .inl (fun _ => 0)))] sz)) (va_Qv (fun _ : Unit => True) (fun _ _ => True) (va_A [(oM, .inr (12, fm)), (am_alarmSeconds, .inl (cI, 200, .inl (fun _ => 0))), (am_alarmNodes, .inl (cI, 200, .inl (fun _ => 0))), (am_alarmKinds, .inl (cI, 200, .inl (fun _ => 0)))] sz)) 0 0 (va_A [(oM, .inr (12, fm)), (am_alarmSeconds, .inl (cI, 200, .inl (fun _ => 0))), (am_alarmNodes, .inl (cI, 200, .inl (fun _ => 0))), (am_alarmKinds, .inl (cI, 200, .inl (fun _ => 0)))] sz) := by
  refine Met.ofW (cc := b_Mo_raise) (maxL := 3) (ret := none) (by decide) rfl ?_
  intro p e s m args below meth c s₁ B hml hv
  obtain ⟨rfl, hsz, hP, hK, hD⟩ := hv
  have hx := B.exec
  have hb := B.bytes
  have hr := B.returns
  have hts := atoms_spec (ws := w_Mo_raise) B.pre
  have hown : s.vm.findClass R_Mo = some m.cls := findClass_of_methodNamed B.named
  have hlocks := B.notSynchronized
  subst hsz
  have hD := hD.self (sz := s.heap.size)
  generalize hAe : va_A [(oM, .inr (12, fm)), (am_alarmSeconds, .inl (cI, 200, .inl (fun _ => 0))), (am_alarmNodes, .inl (cI, 200, .inl (fun _ => 0))), (am_alarmKinds, .inl (cI, 200, .inl (fun _ => 0)))] s.heap.size = A at hD ⊢
  have hA : ∀ q : Nat, s.heap.size ≤ q → A q := fun q h => by rw [← hAe]; exact Or.inr h
  have hS : va_S A s.heap s.heap [] := va_S.rf
  have hP : va_P (dC, dI) classes [(oM, .inr (12, fm)), (am_alarmSeconds, .inl (cI, 200, .inl (fun _ => 0))), (am_alarmNodes, .inl (cI, 200, .inl (fun _ => 0))), (am_alarmKinds, .inl (cI, 200, .inl (fun _ => 0)))] s.heap := hP
  have hl := lv_entry ([.ref oM, .int no, .int ki]) (n := 3) (Nat.le_of_ble_eq_true rfl)
  rw [lg_entry_eq]
  generalize (lg_sl ([.ref oM, .int no, .int ki]) ++ List.replicate (3 - (lg_sl ([.ref oM, .int no, .int ki])).length) Slot.unset).toArray = ls at hl ⊢
  have hl : lv_has ls 3 [(0, .ref oM), (1, .int no), (2, .int ki)] := hl
  refine lv_aload_n hx hb d_Mo_raise_0 rfl (lv_at hl 0 rfl) ?_
  refine va_get (D := (dC, dI)) (ci := 12) (v := .int 0) (C := R_Mo) (T := F_Mo) (N := 87) hx hb hts (fun w h => List.mem_cons_of_mem _ (in_Mo w h)) hown hK.1 hP 0 rfl rfl 79 (by decide) (hts _ (List.mem_cons_of_mem _ mw_1873)) (fun _ h9 => h9) hm_alarms d_Mo_raise_1 ?_
  refine lv_sipush (v := 200) hx hb d_Mo_raise_4 (by decide) ?_
  refine lv_icmp_ge (tgt := 53) hx hb d_Mo_raise_7 (by decide) (fun h => absurd h (by decide)) (fun _ => ?_)
  refine lv_aload_n hx hb d_Mo_raise_10 rfl (lv_at hl 0 rfl) ?_
  refine va_get (D := (dC, dI)) (ci := 12) (v := .ref am_alarmSeconds) (C := R_Mo) (T := F_Mo) (N := 87) hx hb hts (fun w h => List.mem_cons_of_mem _ (in_Mo w h)) hown hK.1 hP 0 rfl rfl 80 (by decide) (hts _ (List.mem_cons_of_mem _ mw_1874)) (fun _ h9 => h9) hm_alarmSeconds d_Mo_raise_11 ?_
  refine lv_aload_n hx hb d_Mo_raise_14 rfl (lv_at hl 0 rfl) ?_
  refine va_get (D := (dC, dI)) (ci := 12) (v := .int 0) (C := R_Mo) (T := F_Mo) (N := 87) hx hb hts (fun w h => List.mem_cons_of_mem _ (in_Mo w h)) hown hK.1 hP 0 rfl rfl 79 (by decide) (hts _ (List.mem_cons_of_mem _ mw_1873)) (fun _ h9 => h9) hm_alarms d_Mo_raise_15 ?_
  refine lv_aload_n hx hb d_Mo_raise_18 rfl (lv_at hl 0 rfl) ?_
  refine va_get (D := (dC, dI)) (ci := 12) (v := .int 0) (C := R_Mo) (T := F_Mo) (N := 87) hx hb hts (fun w h => List.mem_cons_of_mem _ (in_Mo w h)) hown hK.1 hP 0 rfl rfl 78 (by decide) (hts _ (List.mem_cons_of_mem _ mw_1872)) (fun _ h9 => h9) hm_now d_Mo_raise_19 ?_
  refine va_iast hx hb hK.1 hP hD hS 1 0 rfl rfl (vp_in_iff.mpr (by decide)) d_Mo_raise_22 (fun H locs hP hD hS => ?_)
  have hP : va_P (dC, dI) classes [(oM, .inr (12, fm)), (am_alarmSeconds, .inl (cI, 200, .inl ((upd (fun _ => 0) (0 : Int32).toNatClampNeg 0)))), (am_alarmNodes, .inl (cI, 200, .inl (fun _ => 0))), (am_alarmKinds, .inl (cI, 200, .inl (fun _ => 0)))] H := hP
  have hD : va_D A [(oM, .inr (12, fm)), (am_alarmSeconds, .inl (cI, 200, .inl ((upd (fun _ => 0) (0 : Int32).toNatClampNeg 0)))), (am_alarmNodes, .inl (cI, 200, .inl (fun _ => 0))), (am_alarmKinds, .inl (cI, 200, .inl (fun _ => 0)))] := hD
  generalize (upd (fun _ => 0) (0 : Int32).toNatClampNeg 0) = f22_1 at hP hD
  refine lv_aload_n hx hb d_Mo_raise_23 rfl (lv_at hl 0 rfl) ?_
  refine va_get (D := (dC, dI)) (ci := 12) (v := .ref am_alarmNodes) (C := R_Mo) (T := F_Mo) (N := 87) hx hb hts (fun w h => List.mem_cons_of_mem _ (in_Mo w h)) hown hK.1 hP 0 rfl rfl 81 (by decide) (hts _ (List.mem_cons_of_mem _ mw_1875)) (fun _ h9 => h9) hm_alarmNodes d_Mo_raise_24 ?_
  refine lv_aload_n hx hb d_Mo_raise_27 rfl (lv_at hl 0 rfl) ?_
  refine va_get (D := (dC, dI)) (ci := 12) (v := .int 0) (C := R_Mo) (T := F_Mo) (N := 87) hx hb hts (fun w h => List.mem_cons_of_mem _ (in_Mo w h)) hown hK.1 hP 0 rfl rfl 79 (by decide) (hts _ (List.mem_cons_of_mem _ mw_1873)) (fun _ h9 => h9) hm_alarms d_Mo_raise_28 ?_
  refine lv_iload_n hx hb d_Mo_raise_31 rfl (lv_at hl 1 rfl) ?_
  refine va_iast hx hb hK.1 hP hD hS 2 0 rfl rfl (vp_in_iff.mpr (by decide)) d_Mo_raise_32 (fun H locs hP hD hS => ?_)
  have hP : va_P (dC, dI) classes [(oM, .inr (12, fm)), (am_alarmSeconds, .inl (cI, 200, .inl f22_1)), (am_alarmNodes, .inl (cI, 200, .inl ((upd (fun _ => 0) (0 : Int32).toNatClampNeg no)))), (am_alarmKinds, .inl (cI, 200, .inl (fun _ => 0)))] H := hP
  have hD : va_D A [(oM, .inr (12, fm)), (am_alarmSeconds, .inl (cI, 200, .inl f22_1)), (am_alarmNodes, .inl (cI, 200, .inl ((upd (fun _ => 0) (0 : Int32).toNatClampNeg no)))), (am_alarmKinds, .inl (cI, 200, .inl (fun _ => 0)))] := hD
  generalize (upd (fun _ => 0) (0 : Int32).toNatClampNeg no) = f32_2 at hP hD
  refine lv_aload_n hx hb d_Mo_raise_33 rfl (lv_at hl 0 rfl) ?_
  refine va_get (D := (dC, dI)) (ci := 12) (v := .ref am_alarmKinds) (C := R_Mo) (T := F_Mo) (N := 87) hx hb hts (fun w h => List.mem_cons_of_mem _ (in_Mo w h)) hown hK.1 hP 0 rfl rfl 82 (by decide) (hts _ (List.mem_cons_of_mem _ mw_1876)) (fun _ h9 => h9) hm_alarmKinds d_Mo_raise_34 ?_
  refine lv_aload_n hx hb d_Mo_raise_37 rfl (lv_at hl 0 rfl) ?_
  refine va_get (D := (dC, dI)) (ci := 12) (v := .int 0) (C := R_Mo) (T := F_Mo) (N := 87) hx hb hts (fun w h => List.mem_cons_of_mem _ (in_Mo w h)) hown hK.1 hP 0 rfl rfl 79 (by decide) (hts _ (List.mem_cons_of_mem _ mw_1873)) (fun _ h9 => h9) hm_alarms d_Mo_raise_38 ?_
  refine lv_iload_n hx hb d_Mo_raise_41 rfl (lv_at hl 2 rfl) ?_
  refine va_iast hx hb hK.1 hP hD hS 3 0 rfl rfl (vp_in_iff.mpr (by decide)) d_Mo_raise_42 (fun H locs hP hD hS => ?_)
  have hP : va_P (dC, dI) classes [(oM, .inr (12, fm)), (am_alarmSeconds, .inl (cI, 200, .inl f22_1)), (am_alarmNodes, .inl (cI, 200, .inl f32_2)), (am_alarmKinds, .inl (cI, 200, .inl ((upd (fun _ => 0) (0 : Int32).toNatClampNeg ki))))] H := hP
  have hD : va_D A [(oM, .inr (12, fm)), (am_alarmSeconds, .inl (cI, 200, .inl f22_1)), (am_alarmNodes, .inl (cI, 200, .inl f32_2)), (am_alarmKinds, .inl (cI, 200, .inl ((upd (fun _ => 0) (0 : Int32).toNatClampNeg ki))))] := hD
  generalize (upd (fun _ => 0) (0 : Int32).toNatClampNeg ki) = f42_3 at hP hD
  refine lv_aload_n hx hb d_Mo_raise_43 rfl (lv_at hl 0 rfl) ?_
  refine lv_dup hx hb d_Mo_raise_44 rfl ?_
  refine va_get (D := (dC, dI)) (ci := 12) (v := .int 0) (C := R_Mo) (T := F_Mo) (N := 87) hx hb hts (fun w h => List.mem_cons_of_mem _ (in_Mo w h)) hown hK.1 hP 0 rfl rfl 79 (by decide) (hts _ (List.mem_cons_of_mem _ mw_1873)) (fun _ h9 => h9) hm_alarms d_Mo_raise_45 ?_
  refine lv_iconst (v := 1) hx hb d_Mo_raise_48 (by decide) ?_
  refine lv_iadd hx hb d_Mo_raise_49 ?_
  refine lv_topi (fun x0 e0 => ?_)
  obtain rfl : x0 = 1 := e0.trans (by decide)
  refine va_put (D := (dC, dI)) (ci := 12) (v := .int 1) (ty := .int) (C := R_Mo) (T := F_Mo) (N := 87) hx hb hts (fun w h => List.mem_cons_of_mem _ (in_Mo w h)) t_Mo t_Mo_ok n_Mo hown hK.1 hP hD hS 0 rfl rfl 79 (by decide) (hts _ (List.mem_cons_of_mem _ mw_1873)) (fun _ h9 => h9) rfl (by decide +kernel) rfl rfl (st_lt hm_alarms) d_Mo_raise_50 (fun H locs hP hD hS => ?_)
  have g50_82 : fx (fm.set 79 (.int 1)) 82 (.ref am_alarmKinds) := (st_ne hm_alarmKinds (by decide))
  have g50_81 : fx (fm.set 79 (.int 1)) 81 (.ref am_alarmNodes) := (st_ne hm_alarmNodes (by decide))
  have g50_80 : fx (fm.set 79 (.int 1)) 80 (.ref am_alarmSeconds) := (st_ne hm_alarmSeconds (by decide))
  have g50_79 : fx (fm.set 79 (.int 1)) 79 (.int 1) := (st_eq hm_alarms)
  have g50_78 : fx (fm.set 79 (.int 1)) 78 (.int 0) := (st_ne hm_now (by decide))
  have hP : va_P (dC, dI) classes [(oM, .inr (12, (fm.set 79 (.int 1)))), (am_alarmSeconds, .inl (cI, 200, .inl f22_1)), (am_alarmNodes, .inl (cI, 200, .inl f32_2)), (am_alarmKinds, .inl (cI, 200, .inl f42_3))] H := hP
  have hD : va_D A [(oM, .inr (12, (fm.set 79 (.int 1)))), (am_alarmSeconds, .inl (cI, 200, .inl f22_1)), (am_alarmNodes, .inl (cI, 200, .inl f32_2)), (am_alarmKinds, .inl (cI, 200, .inl f42_3))] := hD
  exact W.vret hx hb hr (fun t ht hW => ⟨⟨(), rfl, trivial, trivial⟩, hS.F ht⟩) hS.2.2 d_Mo_raise_53
abbrev t_Mo_perform_330 : List UInt8 := 172 :: []
abbrev t_Mo_perform_329 : List UInt8 := 3 :: t_Mo_perform_330
abbrev t_Mo_perform_326 : List UInt8 := 167 :: 255 :: 226 :: t_Mo_perform_329
abbrev t_Mo_perform_323 : List UInt8 := 132 :: 6 :: 1 :: t_Mo_perform_326
abbrev t_Mo_perform_322 : List UInt8 := 84 :: t_Mo_perform_323
abbrev t_Mo_perform_321 : List UInt8 := 3 :: t_Mo_perform_322
abbrev t_Mo_perform_320 : List UInt8 := 96 :: t_Mo_perform_321
abbrev t_Mo_perform_318 : List UInt8 := 21 :: 6 :: t_Mo_perform_320
abbrev t_Mo_perform_317 : List UInt8 := 104 :: t_Mo_perform_318
abbrev t_Mo_perform_316 : List UInt8 := 100 :: t_Mo_perform_317
abbrev t_Mo_perform_313 : List UInt8 := 180 :: 1 :: 22 :: t_Mo_perform_316
abbrev t_Mo_perform_312 : List UInt8 := 42 :: t_Mo_perform_313
abbrev t_Mo_perform_311 : List UInt8 := 28 :: t_Mo_perform_312
abbrev t_Mo_perform_308 : List UInt8 := 17 :: 0 :: 200 :: t_Mo_perform_311
abbrev t_Mo_perform_305 : List UInt8 := 180 :: 0 :: 55 :: t_Mo_perform_308
abbrev t_Mo_perform_304 : List UInt8 := 42 :: t_Mo_perform_305
abbrev t_Mo_perform_301 : List UInt8 := 162 :: 0 :: 28 :: t_Mo_perform_304
abbrev t_Mo_perform_298 : List UInt8 := 17 :: 0 :: 200 :: t_Mo_perform_301
abbrev t_Mo_perform_296 : List UInt8 := 21 :: 6 :: t_Mo_perform_298
abbrev t_Mo_perform_294 : List UInt8 := 54 :: 6 :: t_Mo_perform_296
abbrev t_Mo_perform_293 : List UInt8 := 3 :: t_Mo_perform_294
abbrev t_Mo_perform_290 : List UInt8 := 167 :: 0 :: 39 :: t_Mo_perform_293
abbrev t_Mo_perform_289 : List UInt8 := 79 :: t_Mo_perform_290
abbrev t_Mo_perform_288 : List UInt8 := 3 :: t_Mo_perform_289
abbrev t_Mo_perform_287 : List UInt8 := 28 :: t_Mo_perform_288
abbrev t_Mo_perform_284 : List UInt8 := 180 :: 0 :: 37 :: t_Mo_perform_287
abbrev t_Mo_perform_283 : List UInt8 := 42 :: t_Mo_perform_284
abbrev t_Mo_perform_282 : List UInt8 := 79 :: t_Mo_perform_283
abbrev t_Mo_perform_281 : List UInt8 := 3 :: t_Mo_perform_282
abbrev t_Mo_perform_280 : List UInt8 := 28 :: t_Mo_perform_281
abbrev t_Mo_perform_277 : List UInt8 := 180 :: 0 :: 34 :: t_Mo_perform_280
abbrev t_Mo_perform_276 : List UInt8 := 42 :: t_Mo_perform_277
abbrev t_Mo_perform_273 : List UInt8 := 162 :: 0 :: 20 :: t_Mo_perform_276
abbrev t_Mo_perform_270 : List UInt8 := 180 :: 1 :: 22 :: t_Mo_perform_273
abbrev t_Mo_perform_269 : List UInt8 := 42 :: t_Mo_perform_270
abbrev t_Mo_perform_268 : List UInt8 := 28 :: t_Mo_perform_269
abbrev t_Mo_perform_267 : List UInt8 := 172 :: t_Mo_perform_268
abbrev t_Mo_perform_266 : List UInt8 := 3 :: t_Mo_perform_267
abbrev t_Mo_perform_265 : List UInt8 := 79 :: t_Mo_perform_266
abbrev t_Mo_perform_262 : List UInt8 := 180 :: 1 :: 70 :: t_Mo_perform_265
abbrev t_Mo_perform_261 : List UInt8 := 42 :: t_Mo_perform_262
abbrev t_Mo_perform_260 : List UInt8 := 96 :: t_Mo_perform_261
abbrev t_Mo_perform_259 : List UInt8 := 29 :: t_Mo_perform_260
abbrev t_Mo_perform_258 : List UInt8 := 104 :: t_Mo_perform_259
abbrev t_Mo_perform_257 : List UInt8 := 28 :: t_Mo_perform_258
abbrev t_Mo_perform_255 : List UInt8 := 16 :: 6 :: t_Mo_perform_257
abbrev t_Mo_perform_252 : List UInt8 := 180 :: 0 :: 61 :: t_Mo_perform_255
abbrev t_Mo_perform_251 : List UInt8 := 42 :: t_Mo_perform_252
abbrev t_Mo_perform_248 : List UInt8 := 160 :: 0 :: 20 :: t_Mo_perform_251
abbrev t_Mo_perform_247 : List UInt8 := 6 :: t_Mo_perform_248
abbrev t_Mo_perform_245 : List UInt8 := 21 :: 4 :: t_Mo_perform_247
abbrev t_Mo_perform_244 : List UInt8 := 172 :: t_Mo_perform_245
abbrev t_Mo_perform_243 : List UInt8 := 6 :: t_Mo_perform_244
abbrev t_Mo_perform_240 : List UInt8 := 158 :: 0 :: 5 :: t_Mo_perform_243
abbrev t_Mo_perform_237 : List UInt8 := 182 :: 1 :: 67 :: t_Mo_perform_240
abbrev t_Mo_perform_236 : List UInt8 := 28 :: t_Mo_perform_237
abbrev t_Mo_perform_235 : List UInt8 := 42 :: t_Mo_perform_236
abbrev t_Mo_perform_232 : List UInt8 := 160 :: 0 :: 13 :: t_Mo_perform_235
abbrev t_Mo_perform_231 : List UInt8 := 6 :: t_Mo_perform_232
abbrev t_Mo_perform_229 : List UInt8 := 21 :: 4 :: t_Mo_perform_231
abbrev t_Mo_perform_226 : List UInt8 := 154 :: 0 :: 17 :: t_Mo_perform_229
abbrev t_Mo_perform_223 : List UInt8 := 182 :: 1 :: 174 :: t_Mo_perform_226
abbrev t_Mo_perform_222 : List UInt8 := 28 :: t_Mo_perform_223
abbrev t_Mo_perform_221 : List UInt8 := 42 :: t_Mo_perform_222
abbrev t_Mo_perform_220 : List UInt8 := 172 :: t_Mo_perform_221
abbrev t_Mo_perform_219 : List UInt8 := 3 :: t_Mo_perform_220
abbrev t_Mo_perform_218 : List UInt8 := 172 :: t_Mo_perform_219
abbrev t_Mo_perform_216 : List UInt8 := 16 :: 7 :: t_Mo_perform_218
abbrev t_Mo_perform_215 : List UInt8 := 79 :: t_Mo_perform_216
abbrev t_Mo_perform_213 : List UInt8 := 21 :: 6 :: t_Mo_perform_215
abbrev t_Mo_perform_212 : List UInt8 := 28 :: t_Mo_perform_213
abbrev t_Mo_perform_209 : List UInt8 := 180 :: 0 :: 40 :: t_Mo_perform_212
abbrev t_Mo_perform_208 : List UInt8 := 42 :: t_Mo_perform_209
abbrev t_Mo_perform_205 : List UInt8 := 154 :: 0 :: 14 :: t_Mo_perform_208
abbrev t_Mo_perform_202 : List UInt8 := 182 :: 1 :: 113 :: t_Mo_perform_205
abbrev t_Mo_perform_201 : List UInt8 := 42 :: t_Mo_perform_202
abbrev t_Mo_perform_198 : List UInt8 := 182 :: 1 :: 110 :: t_Mo_perform_201
abbrev t_Mo_perform_197 : List UInt8 := 42 :: t_Mo_perform_198
abbrev t_Mo_perform_196 : List UInt8 := 79 :: t_Mo_perform_197
abbrev t_Mo_perform_195 : List UInt8 := 29 :: t_Mo_perform_196
abbrev t_Mo_perform_194 : List UInt8 := 28 :: t_Mo_perform_195
abbrev t_Mo_perform_191 : List UInt8 := 180 :: 0 :: 40 :: t_Mo_perform_194
abbrev t_Mo_perform_190 : List UInt8 := 42 :: t_Mo_perform_191
abbrev t_Mo_perform_188 : List UInt8 := 54 :: 6 :: t_Mo_perform_190
abbrev t_Mo_perform_187 : List UInt8 := 46 :: t_Mo_perform_188
abbrev t_Mo_perform_186 : List UInt8 := 28 :: t_Mo_perform_187
abbrev t_Mo_perform_183 : List UInt8 := 180 :: 0 :: 40 :: t_Mo_perform_186
abbrev t_Mo_perform_182 : List UInt8 := 42 :: t_Mo_perform_183
abbrev t_Mo_perform_181 : List UInt8 := 172 :: t_Mo_perform_182
abbrev t_Mo_perform_180 : List UInt8 := 6 :: t_Mo_perform_181
abbrev t_Mo_perform_177 : List UInt8 := 159 :: 0 :: 5 :: t_Mo_perform_180
abbrev t_Mo_perform_176 : List UInt8 := 2 :: t_Mo_perform_177
abbrev t_Mo_perform_173 : List UInt8 := 182 :: 1 :: 121 :: t_Mo_perform_176
abbrev t_Mo_perform_172 : List UInt8 := 28 :: t_Mo_perform_173
abbrev t_Mo_perform_171 : List UInt8 := 42 :: t_Mo_perform_172
abbrev t_Mo_perform_168 : List UInt8 := 160 :: 0 :: 53 :: t_Mo_perform_171
abbrev t_Mo_perform_167 : List UInt8 := 5 :: t_Mo_perform_168
abbrev t_Mo_perform_165 : List UInt8 := 21 :: 4 :: t_Mo_perform_167
abbrev t_Mo_perform_164 : List UInt8 := 172 :: t_Mo_perform_165
abbrev t_Mo_perform_163 : List UInt8 := 3 :: t_Mo_perform_164
abbrev t_Mo_perform_160 : List UInt8 := 182 :: 1 :: 147 :: t_Mo_perform_163
abbrev t_Mo_perform_158 : List UInt8 := 21 :: 6 :: t_Mo_perform_160
abbrev t_Mo_perform_157 : List UInt8 := 42 :: t_Mo_perform_158
abbrev t_Mo_perform_156 : List UInt8 := 172 :: t_Mo_perform_157
abbrev t_Mo_perform_155 : List UInt8 := 6 :: t_Mo_perform_156
abbrev t_Mo_perform_152 : List UInt8 := 160 :: 0 :: 5 :: t_Mo_perform_155
abbrev t_Mo_perform_151 : List UInt8 := 2 :: t_Mo_perform_152
abbrev t_Mo_perform_149 : List UInt8 := 21 :: 6 :: t_Mo_perform_151
abbrev t_Mo_perform_147 : List UInt8 := 54 :: 6 :: t_Mo_perform_149
abbrev t_Mo_perform_144 : List UInt8 := 182 :: 1 :: 138 :: t_Mo_perform_147
abbrev t_Mo_perform_143 : List UInt8 := 29 :: t_Mo_perform_144
abbrev t_Mo_perform_142 : List UInt8 := 28 :: t_Mo_perform_143
abbrev t_Mo_perform_141 : List UInt8 := 42 :: t_Mo_perform_142
abbrev t_Mo_perform_138 : List UInt8 := 160 :: 0 :: 27 :: t_Mo_perform_141
abbrev t_Mo_perform_137 : List UInt8 := 4 :: t_Mo_perform_138
abbrev t_Mo_perform_135 : List UInt8 := 21 :: 4 :: t_Mo_perform_137
abbrev t_Mo_perform_134 : List UInt8 := 172 :: t_Mo_perform_135
abbrev t_Mo_perform_131 : List UInt8 := 182 :: 1 :: 171 :: t_Mo_perform_134
abbrev t_Mo_perform_130 : List UInt8 := 46 :: t_Mo_perform_131
abbrev t_Mo_perform_129 : List UInt8 := 27 :: t_Mo_perform_130
abbrev t_Mo_perform_126 : List UInt8 := 180 :: 0 :: 141 :: t_Mo_perform_129
abbrev t_Mo_perform_125 : List UInt8 := 42 :: t_Mo_perform_126
abbrev t_Mo_perform_124 : List UInt8 := 29 :: t_Mo_perform_125
abbrev t_Mo_perform_123 : List UInt8 := 28 :: t_Mo_perform_124
abbrev t_Mo_perform_122 : List UInt8 := 42 :: t_Mo_perform_123
abbrev t_Mo_perform_119 : List UInt8 := 154 :: 0 :: 16 :: t_Mo_perform_122
abbrev t_Mo_perform_117 : List UInt8 := 21 :: 4 :: t_Mo_perform_119
abbrev t_Mo_perform_116 : List UInt8 := 172 :: t_Mo_perform_117
abbrev t_Mo_perform_115 : List UInt8 := 5 :: t_Mo_perform_116
abbrev t_Mo_perform_112 : List UInt8 := 158 :: 0 :: 5 :: t_Mo_perform_115
abbrev t_Mo_perform_109 : List UInt8 := 182 :: 1 :: 168 :: t_Mo_perform_112
abbrev t_Mo_perform_108 : List UInt8 := 27 :: t_Mo_perform_109
abbrev t_Mo_perform_105 : List UInt8 := 180 :: 0 :: 23 :: t_Mo_perform_108
abbrev t_Mo_perform_104 : List UInt8 := 42 :: t_Mo_perform_105
abbrev t_Mo_perform_103 : List UInt8 := 172 :: t_Mo_perform_104
abbrev t_Mo_perform_102 : List UInt8 := 4 :: t_Mo_perform_103
abbrev t_Mo_perform_99 : List UInt8 := 154 :: 0 :: 5 :: t_Mo_perform_102
abbrev t_Mo_perform_97 : List UInt8 := 21 :: 5 :: t_Mo_perform_99
abbrev t_Mo_perform_95 : List UInt8 := 54 :: 5 :: t_Mo_perform_97
abbrev t_Mo_perform_94 : List UInt8 := 3 :: t_Mo_perform_95
abbrev t_Mo_perform_91 : List UInt8 := 167 :: 0 :: 4 :: t_Mo_perform_94
abbrev t_Mo_perform_90 : List UInt8 := 4 :: t_Mo_perform_91
abbrev t_Mo_perform_87 : List UInt8 := 153 :: 0 :: 7 :: t_Mo_perform_90
abbrev t_Mo_perform_84 : List UInt8 := 182 :: 1 :: 159 :: t_Mo_perform_87
abbrev t_Mo_perform_83 : List UInt8 := 28 :: t_Mo_perform_84
abbrev t_Mo_perform_82 : List UInt8 := 42 :: t_Mo_perform_83
abbrev t_Mo_perform_79 : List UInt8 := 159 :: 0 :: 15 :: t_Mo_perform_82
abbrev t_Mo_perform_78 : List UInt8 := 2 :: t_Mo_perform_79
abbrev t_Mo_perform_76 : List UInt8 := 21 :: 4 :: t_Mo_perform_78
abbrev t_Mo_perform_73 : List UInt8 := 167 :: 0 :: 22 :: t_Mo_perform_76
abbrev t_Mo_perform_70 : List UInt8 := 182 :: 1 :: 156 :: t_Mo_perform_73
abbrev t_Mo_perform_69 : List UInt8 := 28 :: t_Mo_perform_70
abbrev t_Mo_perform_68 : List UInt8 := 42 :: t_Mo_perform_69
abbrev t_Mo_perform_65 : List UInt8 := 160 :: 0 :: 11 :: t_Mo_perform_68
abbrev t_Mo_perform_64 : List UInt8 := 5 :: t_Mo_perform_65
abbrev t_Mo_perform_62 : List UInt8 := 21 :: 4 :: t_Mo_perform_64
abbrev t_Mo_perform_59 : List UInt8 := 167 :: 0 :: 36 :: t_Mo_perform_62
abbrev t_Mo_perform_58 : List UInt8 := 3 :: t_Mo_perform_59
abbrev t_Mo_perform_55 : List UInt8 := 167 :: 0 :: 40 :: t_Mo_perform_58
abbrev t_Mo_perform_54 : List UInt8 := 4 :: t_Mo_perform_55
abbrev t_Mo_perform_51 : List UInt8 := 159 :: 0 :: 7 :: t_Mo_perform_54
abbrev t_Mo_perform_50 : List UInt8 := 29 :: t_Mo_perform_51
abbrev t_Mo_perform_49 : List UInt8 := 28 :: t_Mo_perform_50
abbrev t_Mo_perform_46 : List UInt8 := 153 :: 0 :: 12 :: t_Mo_perform_49
abbrev t_Mo_perform_43 : List UInt8 := 182 :: 1 :: 61 :: t_Mo_perform_46
abbrev t_Mo_perform_42 : List UInt8 := 29 :: t_Mo_perform_43
abbrev t_Mo_perform_41 : List UInt8 := 42 :: t_Mo_perform_42
abbrev t_Mo_perform_38 : List UInt8 := 153 :: 0 :: 20 :: t_Mo_perform_41
abbrev t_Mo_perform_35 : List UInt8 := 182 :: 1 :: 61 :: t_Mo_perform_38
abbrev t_Mo_perform_34 : List UInt8 := 28 :: t_Mo_perform_35
abbrev t_Mo_perform_33 : List UInt8 := 42 :: t_Mo_perform_34
abbrev t_Mo_perform_30 : List UInt8 := 160 :: 0 :: 32 :: t_Mo_perform_33
abbrev t_Mo_perform_29 : List UInt8 := 4 :: t_Mo_perform_30
abbrev t_Mo_perform_27 : List UInt8 := 21 :: 4 :: t_Mo_perform_29
abbrev t_Mo_perform_24 : List UInt8 := 153 :: 0 :: 9 :: t_Mo_perform_27
abbrev t_Mo_perform_22 : List UInt8 := 21 :: 4 :: t_Mo_perform_24
abbrev t_Mo_perform_20 : List UInt8 := 54 :: 4 :: t_Mo_perform_22
abbrev t_Mo_perform_19 : List UInt8 := 46 :: t_Mo_perform_20
abbrev t_Mo_perform_18 : List UInt8 := 27 :: t_Mo_perform_19
abbrev t_Mo_perform_15 : List UInt8 := 180 :: 0 :: 132 :: t_Mo_perform_18
abbrev t_Mo_perform_14 : List UInt8 := 42 :: t_Mo_perform_15
abbrev t_Mo_perform_13 : List UInt8 := 62 :: t_Mo_perform_14
abbrev t_Mo_perform_12 : List UInt8 := 46 :: t_Mo_perform_13
abbrev t_Mo_perform_11 : List UInt8 := 27 :: t_Mo_perform_12
abbrev t_Mo_perform_8 : List UInt8 := 180 :: 0 :: 138 :: t_Mo_perform_11
abbrev t_Mo_perform_7 : List UInt8 := 42 :: t_Mo_perform_8
abbrev t_Mo_perform_6 : List UInt8 := 61 :: t_Mo_perform_7
abbrev t_Mo_perform_5 : List UInt8 := 46 :: t_Mo_perform_6
abbrev t_Mo_perform_4 : List UInt8 := 27 :: t_Mo_perform_5
abbrev t_Mo_perform_1 : List UInt8 := 180 :: 0 :: 135 :: t_Mo_perform_4
abbrev t_Mo_perform_0 : List UInt8 := 42 :: t_Mo_perform_1
theorem a_Mo_perform_0 : dk_at b_Mo_perform 0 t_Mo_perform_0 := dk_start (by decide +kernel)
theorem a_Mo_perform_1 : dk_at b_Mo_perform 1 t_Mo_perform_1 := dk_go 1 a_Mo_perform_0 rfl
theorem a_Mo_perform_4 : dk_at b_Mo_perform 4 t_Mo_perform_4 := dk_go 3 a_Mo_perform_1 rfl
theorem a_Mo_perform_5 : dk_at b_Mo_perform 5 t_Mo_perform_5 := dk_go 1 a_Mo_perform_4 rfl
theorem a_Mo_perform_6 : dk_at b_Mo_perform 6 t_Mo_perform_6 := dk_go 1 a_Mo_perform_5 rfl
theorem a_Mo_perform_7 : dk_at b_Mo_perform 7 t_Mo_perform_7 := dk_go 1 a_Mo_perform_6 rfl
theorem a_Mo_perform_8 : dk_at b_Mo_perform 8 t_Mo_perform_8 := dk_go 1 a_Mo_perform_7 rfl
theorem a_Mo_perform_11 : dk_at b_Mo_perform 11 t_Mo_perform_11 := dk_go 3 a_Mo_perform_8 rfl
theorem a_Mo_perform_12 : dk_at b_Mo_perform 12 t_Mo_perform_12 := dk_go 1 a_Mo_perform_11 rfl
theorem a_Mo_perform_13 : dk_at b_Mo_perform 13 t_Mo_perform_13 := dk_go 1 a_Mo_perform_12 rfl
theorem a_Mo_perform_14 : dk_at b_Mo_perform 14 t_Mo_perform_14 := dk_go 1 a_Mo_perform_13 rfl
theorem a_Mo_perform_15 : dk_at b_Mo_perform 15 t_Mo_perform_15 := dk_go 1 a_Mo_perform_14 rfl
theorem a_Mo_perform_18 : dk_at b_Mo_perform 18 t_Mo_perform_18 := dk_go 3 a_Mo_perform_15 rfl
theorem a_Mo_perform_19 : dk_at b_Mo_perform 19 t_Mo_perform_19 := dk_go 1 a_Mo_perform_18 rfl
theorem a_Mo_perform_20 : dk_at b_Mo_perform 20 t_Mo_perform_20 := dk_go 1 a_Mo_perform_19 rfl
theorem a_Mo_perform_22 : dk_at b_Mo_perform 22 t_Mo_perform_22 := dk_go 2 a_Mo_perform_20 rfl
theorem a_Mo_perform_24 : dk_at b_Mo_perform 24 t_Mo_perform_24 := dk_go 2 a_Mo_perform_22 rfl
theorem a_Mo_perform_27 : dk_at b_Mo_perform 27 t_Mo_perform_27 := dk_go 3 a_Mo_perform_24 rfl
theorem a_Mo_perform_29 : dk_at b_Mo_perform 29 t_Mo_perform_29 := dk_go 2 a_Mo_perform_27 rfl
theorem a_Mo_perform_30 : dk_at b_Mo_perform 30 t_Mo_perform_30 := dk_go 1 a_Mo_perform_29 rfl
theorem a_Mo_perform_33 : dk_at b_Mo_perform 33 t_Mo_perform_33 := dk_go 3 a_Mo_perform_30 rfl
theorem a_Mo_perform_34 : dk_at b_Mo_perform 34 t_Mo_perform_34 := dk_go 1 a_Mo_perform_33 rfl
theorem a_Mo_perform_35 : dk_at b_Mo_perform 35 t_Mo_perform_35 := dk_go 1 a_Mo_perform_34 rfl
theorem a_Mo_perform_38 : dk_at b_Mo_perform 38 t_Mo_perform_38 := dk_go 3 a_Mo_perform_35 rfl
theorem a_Mo_perform_41 : dk_at b_Mo_perform 41 t_Mo_perform_41 := dk_go 3 a_Mo_perform_38 rfl
theorem a_Mo_perform_42 : dk_at b_Mo_perform 42 t_Mo_perform_42 := dk_go 1 a_Mo_perform_41 rfl
theorem a_Mo_perform_43 : dk_at b_Mo_perform 43 t_Mo_perform_43 := dk_go 1 a_Mo_perform_42 rfl
theorem a_Mo_perform_46 : dk_at b_Mo_perform 46 t_Mo_perform_46 := dk_go 3 a_Mo_perform_43 rfl
theorem a_Mo_perform_49 : dk_at b_Mo_perform 49 t_Mo_perform_49 := dk_go 3 a_Mo_perform_46 rfl
theorem a_Mo_perform_50 : dk_at b_Mo_perform 50 t_Mo_perform_50 := dk_go 1 a_Mo_perform_49 rfl
theorem a_Mo_perform_51 : dk_at b_Mo_perform 51 t_Mo_perform_51 := dk_go 1 a_Mo_perform_50 rfl
theorem a_Mo_perform_54 : dk_at b_Mo_perform 54 t_Mo_perform_54 := dk_go 3 a_Mo_perform_51 rfl
theorem a_Mo_perform_55 : dk_at b_Mo_perform 55 t_Mo_perform_55 := dk_go 1 a_Mo_perform_54 rfl
theorem a_Mo_perform_58 : dk_at b_Mo_perform 58 t_Mo_perform_58 := dk_go 3 a_Mo_perform_55 rfl
theorem a_Mo_perform_59 : dk_at b_Mo_perform 59 t_Mo_perform_59 := dk_go 1 a_Mo_perform_58 rfl
theorem a_Mo_perform_62 : dk_at b_Mo_perform 62 t_Mo_perform_62 := dk_go 3 a_Mo_perform_59 rfl
theorem a_Mo_perform_64 : dk_at b_Mo_perform 64 t_Mo_perform_64 := dk_go 2 a_Mo_perform_62 rfl
theorem a_Mo_perform_65 : dk_at b_Mo_perform 65 t_Mo_perform_65 := dk_go 1 a_Mo_perform_64 rfl
theorem a_Mo_perform_68 : dk_at b_Mo_perform 68 t_Mo_perform_68 := dk_go 3 a_Mo_perform_65 rfl
theorem a_Mo_perform_69 : dk_at b_Mo_perform 69 t_Mo_perform_69 := dk_go 1 a_Mo_perform_68 rfl
theorem a_Mo_perform_70 : dk_at b_Mo_perform 70 t_Mo_perform_70 := dk_go 1 a_Mo_perform_69 rfl
theorem a_Mo_perform_73 : dk_at b_Mo_perform 73 t_Mo_perform_73 := dk_go 3 a_Mo_perform_70 rfl
theorem a_Mo_perform_76 : dk_at b_Mo_perform 76 t_Mo_perform_76 := dk_go 3 a_Mo_perform_73 rfl
theorem a_Mo_perform_78 : dk_at b_Mo_perform 78 t_Mo_perform_78 := dk_go 2 a_Mo_perform_76 rfl
theorem a_Mo_perform_79 : dk_at b_Mo_perform 79 t_Mo_perform_79 := dk_go 1 a_Mo_perform_78 rfl
theorem a_Mo_perform_82 : dk_at b_Mo_perform 82 t_Mo_perform_82 := dk_go 3 a_Mo_perform_79 rfl
theorem a_Mo_perform_83 : dk_at b_Mo_perform 83 t_Mo_perform_83 := dk_go 1 a_Mo_perform_82 rfl
theorem a_Mo_perform_84 : dk_at b_Mo_perform 84 t_Mo_perform_84 := dk_go 1 a_Mo_perform_83 rfl
theorem a_Mo_perform_87 : dk_at b_Mo_perform 87 t_Mo_perform_87 := dk_go 3 a_Mo_perform_84 rfl
theorem a_Mo_perform_90 : dk_at b_Mo_perform 90 t_Mo_perform_90 := dk_go 3 a_Mo_perform_87 rfl
theorem a_Mo_perform_91 : dk_at b_Mo_perform 91 t_Mo_perform_91 := dk_go 1 a_Mo_perform_90 rfl
theorem a_Mo_perform_94 : dk_at b_Mo_perform 94 t_Mo_perform_94 := dk_go 3 a_Mo_perform_91 rfl
theorem a_Mo_perform_95 : dk_at b_Mo_perform 95 t_Mo_perform_95 := dk_go 1 a_Mo_perform_94 rfl
theorem a_Mo_perform_97 : dk_at b_Mo_perform 97 t_Mo_perform_97 := dk_go 2 a_Mo_perform_95 rfl
theorem a_Mo_perform_99 : dk_at b_Mo_perform 99 t_Mo_perform_99 := dk_go 2 a_Mo_perform_97 rfl
theorem a_Mo_perform_102 : dk_at b_Mo_perform 102 t_Mo_perform_102 := dk_go 3 a_Mo_perform_99 rfl
theorem a_Mo_perform_103 : dk_at b_Mo_perform 103 t_Mo_perform_103 := dk_go 1 a_Mo_perform_102 rfl
theorem a_Mo_perform_104 : dk_at b_Mo_perform 104 t_Mo_perform_104 := dk_go 1 a_Mo_perform_103 rfl
theorem a_Mo_perform_105 : dk_at b_Mo_perform 105 t_Mo_perform_105 := dk_go 1 a_Mo_perform_104 rfl
theorem a_Mo_perform_108 : dk_at b_Mo_perform 108 t_Mo_perform_108 := dk_go 3 a_Mo_perform_105 rfl
theorem a_Mo_perform_109 : dk_at b_Mo_perform 109 t_Mo_perform_109 := dk_go 1 a_Mo_perform_108 rfl
theorem a_Mo_perform_112 : dk_at b_Mo_perform 112 t_Mo_perform_112 := dk_go 3 a_Mo_perform_109 rfl
theorem a_Mo_perform_115 : dk_at b_Mo_perform 115 t_Mo_perform_115 := dk_go 3 a_Mo_perform_112 rfl
theorem a_Mo_perform_116 : dk_at b_Mo_perform 116 t_Mo_perform_116 := dk_go 1 a_Mo_perform_115 rfl
theorem a_Mo_perform_117 : dk_at b_Mo_perform 117 t_Mo_perform_117 := dk_go 1 a_Mo_perform_116 rfl
theorem a_Mo_perform_119 : dk_at b_Mo_perform 119 t_Mo_perform_119 := dk_go 2 a_Mo_perform_117 rfl
theorem a_Mo_perform_122 : dk_at b_Mo_perform 122 t_Mo_perform_122 := dk_go 3 a_Mo_perform_119 rfl
theorem a_Mo_perform_123 : dk_at b_Mo_perform 123 t_Mo_perform_123 := dk_go 1 a_Mo_perform_122 rfl
theorem a_Mo_perform_124 : dk_at b_Mo_perform 124 t_Mo_perform_124 := dk_go 1 a_Mo_perform_123 rfl
theorem a_Mo_perform_125 : dk_at b_Mo_perform 125 t_Mo_perform_125 := dk_go 1 a_Mo_perform_124 rfl
theorem a_Mo_perform_126 : dk_at b_Mo_perform 126 t_Mo_perform_126 := dk_go 1 a_Mo_perform_125 rfl
theorem a_Mo_perform_129 : dk_at b_Mo_perform 129 t_Mo_perform_129 := dk_go 3 a_Mo_perform_126 rfl
theorem a_Mo_perform_130 : dk_at b_Mo_perform 130 t_Mo_perform_130 := dk_go 1 a_Mo_perform_129 rfl
theorem a_Mo_perform_131 : dk_at b_Mo_perform 131 t_Mo_perform_131 := dk_go 1 a_Mo_perform_130 rfl
theorem a_Mo_perform_134 : dk_at b_Mo_perform 134 t_Mo_perform_134 := dk_go 3 a_Mo_perform_131 rfl
theorem a_Mo_perform_135 : dk_at b_Mo_perform 135 t_Mo_perform_135 := dk_go 1 a_Mo_perform_134 rfl
theorem a_Mo_perform_137 : dk_at b_Mo_perform 137 t_Mo_perform_137 := dk_go 2 a_Mo_perform_135 rfl
theorem a_Mo_perform_138 : dk_at b_Mo_perform 138 t_Mo_perform_138 := dk_go 1 a_Mo_perform_137 rfl
theorem a_Mo_perform_141 : dk_at b_Mo_perform 141 t_Mo_perform_141 := dk_go 3 a_Mo_perform_138 rfl
theorem a_Mo_perform_142 : dk_at b_Mo_perform 142 t_Mo_perform_142 := dk_go 1 a_Mo_perform_141 rfl
theorem a_Mo_perform_143 : dk_at b_Mo_perform 143 t_Mo_perform_143 := dk_go 1 a_Mo_perform_142 rfl
theorem a_Mo_perform_144 : dk_at b_Mo_perform 144 t_Mo_perform_144 := dk_go 1 a_Mo_perform_143 rfl
theorem a_Mo_perform_147 : dk_at b_Mo_perform 147 t_Mo_perform_147 := dk_go 3 a_Mo_perform_144 rfl
theorem a_Mo_perform_149 : dk_at b_Mo_perform 149 t_Mo_perform_149 := dk_go 2 a_Mo_perform_147 rfl
theorem a_Mo_perform_151 : dk_at b_Mo_perform 151 t_Mo_perform_151 := dk_go 2 a_Mo_perform_149 rfl
theorem a_Mo_perform_152 : dk_at b_Mo_perform 152 t_Mo_perform_152 := dk_go 1 a_Mo_perform_151 rfl
theorem a_Mo_perform_155 : dk_at b_Mo_perform 155 t_Mo_perform_155 := dk_go 3 a_Mo_perform_152 rfl
theorem a_Mo_perform_156 : dk_at b_Mo_perform 156 t_Mo_perform_156 := dk_go 1 a_Mo_perform_155 rfl
theorem a_Mo_perform_157 : dk_at b_Mo_perform 157 t_Mo_perform_157 := dk_go 1 a_Mo_perform_156 rfl
theorem a_Mo_perform_158 : dk_at b_Mo_perform 158 t_Mo_perform_158 := dk_go 1 a_Mo_perform_157 rfl
theorem a_Mo_perform_160 : dk_at b_Mo_perform 160 t_Mo_perform_160 := dk_go 2 a_Mo_perform_158 rfl
theorem a_Mo_perform_163 : dk_at b_Mo_perform 163 t_Mo_perform_163 := dk_go 3 a_Mo_perform_160 rfl
theorem a_Mo_perform_164 : dk_at b_Mo_perform 164 t_Mo_perform_164 := dk_go 1 a_Mo_perform_163 rfl
theorem a_Mo_perform_165 : dk_at b_Mo_perform 165 t_Mo_perform_165 := dk_go 1 a_Mo_perform_164 rfl
theorem a_Mo_perform_167 : dk_at b_Mo_perform 167 t_Mo_perform_167 := dk_go 2 a_Mo_perform_165 rfl
theorem a_Mo_perform_168 : dk_at b_Mo_perform 168 t_Mo_perform_168 := dk_go 1 a_Mo_perform_167 rfl
theorem a_Mo_perform_171 : dk_at b_Mo_perform 171 t_Mo_perform_171 := dk_go 3 a_Mo_perform_168 rfl
theorem a_Mo_perform_172 : dk_at b_Mo_perform 172 t_Mo_perform_172 := dk_go 1 a_Mo_perform_171 rfl
theorem a_Mo_perform_173 : dk_at b_Mo_perform 173 t_Mo_perform_173 := dk_go 1 a_Mo_perform_172 rfl
theorem a_Mo_perform_176 : dk_at b_Mo_perform 176 t_Mo_perform_176 := dk_go 3 a_Mo_perform_173 rfl
theorem a_Mo_perform_177 : dk_at b_Mo_perform 177 t_Mo_perform_177 := dk_go 1 a_Mo_perform_176 rfl
theorem a_Mo_perform_180 : dk_at b_Mo_perform 180 t_Mo_perform_180 := dk_go 3 a_Mo_perform_177 rfl
theorem a_Mo_perform_181 : dk_at b_Mo_perform 181 t_Mo_perform_181 := dk_go 1 a_Mo_perform_180 rfl
theorem a_Mo_perform_182 : dk_at b_Mo_perform 182 t_Mo_perform_182 := dk_go 1 a_Mo_perform_181 rfl
theorem a_Mo_perform_183 : dk_at b_Mo_perform 183 t_Mo_perform_183 := dk_go 1 a_Mo_perform_182 rfl
theorem a_Mo_perform_186 : dk_at b_Mo_perform 186 t_Mo_perform_186 := dk_go 3 a_Mo_perform_183 rfl
theorem a_Mo_perform_187 : dk_at b_Mo_perform 187 t_Mo_perform_187 := dk_go 1 a_Mo_perform_186 rfl
theorem a_Mo_perform_188 : dk_at b_Mo_perform 188 t_Mo_perform_188 := dk_go 1 a_Mo_perform_187 rfl
theorem a_Mo_perform_190 : dk_at b_Mo_perform 190 t_Mo_perform_190 := dk_go 2 a_Mo_perform_188 rfl
theorem a_Mo_perform_191 : dk_at b_Mo_perform 191 t_Mo_perform_191 := dk_go 1 a_Mo_perform_190 rfl
theorem a_Mo_perform_194 : dk_at b_Mo_perform 194 t_Mo_perform_194 := dk_go 3 a_Mo_perform_191 rfl
theorem a_Mo_perform_195 : dk_at b_Mo_perform 195 t_Mo_perform_195 := dk_go 1 a_Mo_perform_194 rfl
theorem a_Mo_perform_196 : dk_at b_Mo_perform 196 t_Mo_perform_196 := dk_go 1 a_Mo_perform_195 rfl
theorem a_Mo_perform_197 : dk_at b_Mo_perform 197 t_Mo_perform_197 := dk_go 1 a_Mo_perform_196 rfl
theorem a_Mo_perform_198 : dk_at b_Mo_perform 198 t_Mo_perform_198 := dk_go 1 a_Mo_perform_197 rfl
theorem a_Mo_perform_201 : dk_at b_Mo_perform 201 t_Mo_perform_201 := dk_go 3 a_Mo_perform_198 rfl
theorem a_Mo_perform_202 : dk_at b_Mo_perform 202 t_Mo_perform_202 := dk_go 1 a_Mo_perform_201 rfl
theorem a_Mo_perform_205 : dk_at b_Mo_perform 205 t_Mo_perform_205 := dk_go 3 a_Mo_perform_202 rfl
theorem a_Mo_perform_208 : dk_at b_Mo_perform 208 t_Mo_perform_208 := dk_go 3 a_Mo_perform_205 rfl
theorem a_Mo_perform_209 : dk_at b_Mo_perform 209 t_Mo_perform_209 := dk_go 1 a_Mo_perform_208 rfl
theorem a_Mo_perform_212 : dk_at b_Mo_perform 212 t_Mo_perform_212 := dk_go 3 a_Mo_perform_209 rfl
theorem a_Mo_perform_213 : dk_at b_Mo_perform 213 t_Mo_perform_213 := dk_go 1 a_Mo_perform_212 rfl
theorem a_Mo_perform_215 : dk_at b_Mo_perform 215 t_Mo_perform_215 := dk_go 2 a_Mo_perform_213 rfl
theorem a_Mo_perform_216 : dk_at b_Mo_perform 216 t_Mo_perform_216 := dk_go 1 a_Mo_perform_215 rfl
theorem a_Mo_perform_218 : dk_at b_Mo_perform 218 t_Mo_perform_218 := dk_go 2 a_Mo_perform_216 rfl
theorem a_Mo_perform_219 : dk_at b_Mo_perform 219 t_Mo_perform_219 := dk_go 1 a_Mo_perform_218 rfl
theorem a_Mo_perform_220 : dk_at b_Mo_perform 220 t_Mo_perform_220 := dk_go 1 a_Mo_perform_219 rfl
theorem a_Mo_perform_221 : dk_at b_Mo_perform 221 t_Mo_perform_221 := dk_go 1 a_Mo_perform_220 rfl
theorem a_Mo_perform_222 : dk_at b_Mo_perform 222 t_Mo_perform_222 := dk_go 1 a_Mo_perform_221 rfl
theorem a_Mo_perform_223 : dk_at b_Mo_perform 223 t_Mo_perform_223 := dk_go 1 a_Mo_perform_222 rfl
theorem a_Mo_perform_226 : dk_at b_Mo_perform 226 t_Mo_perform_226 := dk_go 3 a_Mo_perform_223 rfl
theorem a_Mo_perform_229 : dk_at b_Mo_perform 229 t_Mo_perform_229 := dk_go 3 a_Mo_perform_226 rfl
theorem a_Mo_perform_231 : dk_at b_Mo_perform 231 t_Mo_perform_231 := dk_go 2 a_Mo_perform_229 rfl
theorem a_Mo_perform_232 : dk_at b_Mo_perform 232 t_Mo_perform_232 := dk_go 1 a_Mo_perform_231 rfl
theorem a_Mo_perform_235 : dk_at b_Mo_perform 235 t_Mo_perform_235 := dk_go 3 a_Mo_perform_232 rfl
theorem a_Mo_perform_236 : dk_at b_Mo_perform 236 t_Mo_perform_236 := dk_go 1 a_Mo_perform_235 rfl
theorem a_Mo_perform_237 : dk_at b_Mo_perform 237 t_Mo_perform_237 := dk_go 1 a_Mo_perform_236 rfl
theorem a_Mo_perform_240 : dk_at b_Mo_perform 240 t_Mo_perform_240 := dk_go 3 a_Mo_perform_237 rfl
theorem a_Mo_perform_243 : dk_at b_Mo_perform 243 t_Mo_perform_243 := dk_go 3 a_Mo_perform_240 rfl
theorem a_Mo_perform_244 : dk_at b_Mo_perform 244 t_Mo_perform_244 := dk_go 1 a_Mo_perform_243 rfl
theorem a_Mo_perform_245 : dk_at b_Mo_perform 245 t_Mo_perform_245 := dk_go 1 a_Mo_perform_244 rfl
theorem a_Mo_perform_247 : dk_at b_Mo_perform 247 t_Mo_perform_247 := dk_go 2 a_Mo_perform_245 rfl
theorem a_Mo_perform_248 : dk_at b_Mo_perform 248 t_Mo_perform_248 := dk_go 1 a_Mo_perform_247 rfl
theorem a_Mo_perform_251 : dk_at b_Mo_perform 251 t_Mo_perform_251 := dk_go 3 a_Mo_perform_248 rfl
theorem a_Mo_perform_252 : dk_at b_Mo_perform 252 t_Mo_perform_252 := dk_go 1 a_Mo_perform_251 rfl
theorem a_Mo_perform_255 : dk_at b_Mo_perform 255 t_Mo_perform_255 := dk_go 3 a_Mo_perform_252 rfl
theorem a_Mo_perform_257 : dk_at b_Mo_perform 257 t_Mo_perform_257 := dk_go 2 a_Mo_perform_255 rfl
theorem a_Mo_perform_258 : dk_at b_Mo_perform 258 t_Mo_perform_258 := dk_go 1 a_Mo_perform_257 rfl
theorem a_Mo_perform_259 : dk_at b_Mo_perform 259 t_Mo_perform_259 := dk_go 1 a_Mo_perform_258 rfl
theorem a_Mo_perform_260 : dk_at b_Mo_perform 260 t_Mo_perform_260 := dk_go 1 a_Mo_perform_259 rfl
theorem a_Mo_perform_261 : dk_at b_Mo_perform 261 t_Mo_perform_261 := dk_go 1 a_Mo_perform_260 rfl
theorem a_Mo_perform_262 : dk_at b_Mo_perform 262 t_Mo_perform_262 := dk_go 1 a_Mo_perform_261 rfl
theorem a_Mo_perform_265 : dk_at b_Mo_perform 265 t_Mo_perform_265 := dk_go 3 a_Mo_perform_262 rfl
theorem a_Mo_perform_266 : dk_at b_Mo_perform 266 t_Mo_perform_266 := dk_go 1 a_Mo_perform_265 rfl
theorem a_Mo_perform_267 : dk_at b_Mo_perform 267 t_Mo_perform_267 := dk_go 1 a_Mo_perform_266 rfl
theorem a_Mo_perform_268 : dk_at b_Mo_perform 268 t_Mo_perform_268 := dk_go 1 a_Mo_perform_267 rfl
theorem a_Mo_perform_269 : dk_at b_Mo_perform 269 t_Mo_perform_269 := dk_go 1 a_Mo_perform_268 rfl
theorem a_Mo_perform_270 : dk_at b_Mo_perform 270 t_Mo_perform_270 := dk_go 1 a_Mo_perform_269 rfl
theorem a_Mo_perform_273 : dk_at b_Mo_perform 273 t_Mo_perform_273 := dk_go 3 a_Mo_perform_270 rfl
theorem a_Mo_perform_276 : dk_at b_Mo_perform 276 t_Mo_perform_276 := dk_go 3 a_Mo_perform_273 rfl
theorem a_Mo_perform_277 : dk_at b_Mo_perform 277 t_Mo_perform_277 := dk_go 1 a_Mo_perform_276 rfl
theorem a_Mo_perform_280 : dk_at b_Mo_perform 280 t_Mo_perform_280 := dk_go 3 a_Mo_perform_277 rfl
theorem a_Mo_perform_281 : dk_at b_Mo_perform 281 t_Mo_perform_281 := dk_go 1 a_Mo_perform_280 rfl
theorem a_Mo_perform_282 : dk_at b_Mo_perform 282 t_Mo_perform_282 := dk_go 1 a_Mo_perform_281 rfl
theorem a_Mo_perform_283 : dk_at b_Mo_perform 283 t_Mo_perform_283 := dk_go 1 a_Mo_perform_282 rfl
theorem a_Mo_perform_284 : dk_at b_Mo_perform 284 t_Mo_perform_284 := dk_go 1 a_Mo_perform_283 rfl
theorem a_Mo_perform_287 : dk_at b_Mo_perform 287 t_Mo_perform_287 := dk_go 3 a_Mo_perform_284 rfl
theorem a_Mo_perform_288 : dk_at b_Mo_perform 288 t_Mo_perform_288 := dk_go 1 a_Mo_perform_287 rfl
theorem a_Mo_perform_289 : dk_at b_Mo_perform 289 t_Mo_perform_289 := dk_go 1 a_Mo_perform_288 rfl
theorem a_Mo_perform_290 : dk_at b_Mo_perform 290 t_Mo_perform_290 := dk_go 1 a_Mo_perform_289 rfl
theorem a_Mo_perform_293 : dk_at b_Mo_perform 293 t_Mo_perform_293 := dk_go 3 a_Mo_perform_290 rfl
theorem a_Mo_perform_294 : dk_at b_Mo_perform 294 t_Mo_perform_294 := dk_go 1 a_Mo_perform_293 rfl
theorem a_Mo_perform_296 : dk_at b_Mo_perform 296 t_Mo_perform_296 := dk_go 2 a_Mo_perform_294 rfl
theorem a_Mo_perform_298 : dk_at b_Mo_perform 298 t_Mo_perform_298 := dk_go 2 a_Mo_perform_296 rfl
theorem a_Mo_perform_301 : dk_at b_Mo_perform 301 t_Mo_perform_301 := dk_go 3 a_Mo_perform_298 rfl
theorem a_Mo_perform_304 : dk_at b_Mo_perform 304 t_Mo_perform_304 := dk_go 3 a_Mo_perform_301 rfl
theorem a_Mo_perform_305 : dk_at b_Mo_perform 305 t_Mo_perform_305 := dk_go 1 a_Mo_perform_304 rfl
theorem a_Mo_perform_308 : dk_at b_Mo_perform 308 t_Mo_perform_308 := dk_go 3 a_Mo_perform_305 rfl
theorem a_Mo_perform_311 : dk_at b_Mo_perform 311 t_Mo_perform_311 := dk_go 3 a_Mo_perform_308 rfl
theorem a_Mo_perform_312 : dk_at b_Mo_perform 312 t_Mo_perform_312 := dk_go 1 a_Mo_perform_311 rfl
theorem a_Mo_perform_313 : dk_at b_Mo_perform 313 t_Mo_perform_313 := dk_go 1 a_Mo_perform_312 rfl
theorem a_Mo_perform_316 : dk_at b_Mo_perform 316 t_Mo_perform_316 := dk_go 3 a_Mo_perform_313 rfl
theorem a_Mo_perform_317 : dk_at b_Mo_perform 317 t_Mo_perform_317 := dk_go 1 a_Mo_perform_316 rfl
theorem a_Mo_perform_318 : dk_at b_Mo_perform 318 t_Mo_perform_318 := dk_go 1 a_Mo_perform_317 rfl
theorem a_Mo_perform_320 : dk_at b_Mo_perform 320 t_Mo_perform_320 := dk_go 2 a_Mo_perform_318 rfl
theorem a_Mo_perform_321 : dk_at b_Mo_perform 321 t_Mo_perform_321 := dk_go 1 a_Mo_perform_320 rfl
theorem a_Mo_perform_322 : dk_at b_Mo_perform 322 t_Mo_perform_322 := dk_go 1 a_Mo_perform_321 rfl
theorem a_Mo_perform_323 : dk_at b_Mo_perform 323 t_Mo_perform_323 := dk_go 1 a_Mo_perform_322 rfl
theorem a_Mo_perform_326 : dk_at b_Mo_perform 326 t_Mo_perform_326 := dk_go 3 a_Mo_perform_323 rfl
theorem a_Mo_perform_329 : dk_at b_Mo_perform 329 t_Mo_perform_329 := dk_go 3 a_Mo_perform_326 rfl
theorem a_Mo_perform_330 : dk_at b_Mo_perform 330 t_Mo_perform_330 := dk_go 1 a_Mo_perform_329 rfl
theorem d_Mo_perform_0 : decode b_Mo_perform 0 = .ok (.aload_n 0, 1) := dk_0 a_Mo_perform_0 (dko_42 _)
theorem d_Mo_perform_1 : decode b_Mo_perform 1 = .ok (.getfield 135, 3) := dk_U2 a_Mo_perform_1 (dko_180 _) rfl
theorem d_Mo_perform_4 : decode b_Mo_perform 4 = .ok (.iload_n 1, 1) := dk_0 a_Mo_perform_4 (dko_27 _)
theorem d_Mo_perform_5 : decode b_Mo_perform 5 = .ok (.iaload, 1) := dk_0 a_Mo_perform_5 (dko_46 _)
theorem d_Mo_perform_6 : decode b_Mo_perform 6 = .ok (.istore_n 2, 1) := dk_0 a_Mo_perform_6 (dko_61 _)
theorem d_Mo_perform_7 : decode b_Mo_perform 7 = .ok (.aload_n 0, 1) := dk_0 a_Mo_perform_7 (dko_42 _)
theorem d_Mo_perform_8 : decode b_Mo_perform 8 = .ok (.getfield 138, 3) := dk_U2 a_Mo_perform_8 (dko_180 _) rfl
theorem d_Mo_perform_11 : decode b_Mo_perform 11 = .ok (.iload_n 1, 1) := dk_0 a_Mo_perform_11 (dko_27 _)
theorem d_Mo_perform_12 : decode b_Mo_perform 12 = .ok (.iaload, 1) := dk_0 a_Mo_perform_12 (dko_46 _)
theorem d_Mo_perform_13 : decode b_Mo_perform 13 = .ok (.istore_n 3, 1) := dk_0 a_Mo_perform_13 (dko_62 _)
theorem d_Mo_perform_14 : decode b_Mo_perform 14 = .ok (.aload_n 0, 1) := dk_0 a_Mo_perform_14 (dko_42 _)
theorem d_Mo_perform_15 : decode b_Mo_perform 15 = .ok (.getfield 132, 3) := dk_U2 a_Mo_perform_15 (dko_180 _) rfl
theorem d_Mo_perform_18 : decode b_Mo_perform 18 = .ok (.iload_n 1, 1) := dk_0 a_Mo_perform_18 (dko_27 _)
theorem d_Mo_perform_19 : decode b_Mo_perform 19 = .ok (.iaload, 1) := dk_0 a_Mo_perform_19 (dko_46 _)
theorem d_Mo_perform_20 : decode b_Mo_perform 20 = .ok (.istore 4, 2) := dk_U1 a_Mo_perform_20 (dko_54 _) rfl
theorem d_Mo_perform_22 : decode b_Mo_perform 22 = .ok (.iload 4, 2) := dk_U1 a_Mo_perform_22 (dko_21 _) rfl
theorem d_Mo_perform_24 : decode b_Mo_perform 24 = .ok (.ifCond .eq 9, 3) := dk_S2 a_Mo_perform_24 (dko_153 _) (by decide +kernel)
theorem d_Mo_perform_27 : decode b_Mo_perform 27 = .ok (.iload 4, 2) := dk_U1 a_Mo_perform_27 (dko_21 _) rfl
theorem d_Mo_perform_29 : decode b_Mo_perform 29 = .ok (.iconst 1, 1) := dk_0 a_Mo_perform_29 (dko_4 _)
theorem d_Mo_perform_30 : decode b_Mo_perform 30 = .ok (.if_icmp .ne 32, 3) := dk_S2 a_Mo_perform_30 (dko_160 _) (by decide +kernel)
theorem d_Mo_perform_62 : decode b_Mo_perform 62 = .ok (.iload 4, 2) := dk_U1 a_Mo_perform_62 (dko_21 _) rfl
theorem d_Mo_perform_64 : decode b_Mo_perform 64 = .ok (.iconst 2, 1) := dk_0 a_Mo_perform_64 (dko_5 _)
theorem d_Mo_perform_65 : decode b_Mo_perform 65 = .ok (.if_icmp .ne 11, 3) := dk_S2 a_Mo_perform_65 (dko_160 _) (by decide +kernel)
theorem d_Mo_perform_76 : decode b_Mo_perform 76 = .ok (.iload 4, 2) := dk_U1 a_Mo_perform_76 (dko_21 _) rfl
theorem d_Mo_perform_78 : decode b_Mo_perform 78 = .ok (.iconst (-1), 1) := dk_0 a_Mo_perform_78 (dko_2 _)
theorem d_Mo_perform_79 : decode b_Mo_perform 79 = .ok (.if_icmp .eq 15, 3) := dk_S2 a_Mo_perform_79 (dko_159 _) (by decide +kernel)
theorem d_Mo_perform_94 : decode b_Mo_perform 94 = .ok (.iconst 0, 1) := dk_0 a_Mo_perform_94 (dko_3 _)
theorem d_Mo_perform_95 : decode b_Mo_perform 95 = .ok (.istore 5, 2) := dk_U1 a_Mo_perform_95 (dko_54 _) rfl
theorem d_Mo_perform_97 : decode b_Mo_perform 97 = .ok (.iload 5, 2) := dk_U1 a_Mo_perform_97 (dko_21 _) rfl
theorem d_Mo_perform_99 : decode b_Mo_perform 99 = .ok (.ifCond .ne 5, 3) := dk_S2 a_Mo_perform_99 (dko_154 _) (by decide +kernel)
theorem d_Mo_perform_102 : decode b_Mo_perform 102 = .ok (.iconst 1, 1) := dk_0 a_Mo_perform_102 (dko_4 _)
theorem d_Mo_perform_103 : decode b_Mo_perform 103 = .ok (.ireturn, 1) := dk_0 a_Mo_perform_103 (dko_172 _)
set_option maxHeartbeats 4000000 in
set_option maxRecDepth 100000 in
theorem c_Mo_perform (l : Launch) (dC : Nat → ClassId) (dI : Nat → Nat → Nat) (cI cB cZ cJ : ClassId) (ka : Int32) (hka0 : ¬ ka < 0) (hka1 : ¬ 31 < ka) (oM : Nat) (am_xs : Nat) (am_ys : Nat) (am_does : Nat) (fm : List Value) (hm_does : fx fm 49 (.ref am_does)) (hm_xs : fx fm 50 (.ref am_xs)) (hm_ys : fx fm 51 (.ref am_ys)) (sz : Nat) : Met l y_Mo_perform w_Mo_perform ({ frames := 0, cells := 0, slots := 0, locals := 0 }) (va_Pc [.ref oM, .int ka] (PW dC dI cI cB cZ cJ [(oM, .inr (12, fm)), (am_xs, .inl (cI, 32, .inl (fun _ => 0))), (am_ys, .inl (cI, 32, .inl (fun _ => 0))), (am_does, .inl (cI, 32, .inl ((fun _ => (-1)))))] sz)) (va_Qi (fun (r : Int32) (_ : Unit) => r = 1) (fun _ _ => True) (va_A [] sz)) 0 0 (va_A [] sz) := by
  refine Met.ofW (cc := b_Mo_perform) (maxL := 7) (ret := (some .int)) (by decide) rfl ?_
  intro p e s m args below meth c s₁ B hml hv
  obtain ⟨rfl, hsz, hP, hK, hD⟩ := hv
  have hx := B.exec
  have hb := B.bytes
  have hr := B.returns
  have hts := atoms_spec (ws := w_Mo_perform) B.pre
  have hown : s.vm.findClass R_Mo = some m.cls := findClass_of_methodNamed B.named
  have hlocks := B.notSynchronized
  subst hsz
  generalize hAe : va_A [] s.heap.size = A at ⊢
  have hA : ∀ q : Nat, s.heap.size ≤ q → A q := fun q h => by rw [← hAe]; exact Or.inr h
  have hS : va_S A s.heap s.heap [] := va_S.rf
  have hP : va_P (dC, dI) classes [(oM, .inr (12, fm)), (am_xs, .inl (cI, 32, .inl (fun _ => 0))), (am_ys, .inl (cI, 32, .inl (fun _ => 0))), (am_does, .inl (cI, 32, .inl ((fun _ => (-1)))))] s.heap := hP
  have hl := lv_entry ([.ref oM, .int ka]) (n := 7) (Nat.le_of_ble_eq_true rfl)
  rw [lg_entry_eq]
  generalize (lg_sl ([.ref oM, .int ka]) ++ List.replicate (7 - (lg_sl ([.ref oM, .int ka])).length) Slot.unset).toArray = ls at hl ⊢
  have hl : lv_has ls 7 [(0, .ref oM), (1, .int ka)] := hl
  refine lv_aload_n hx hb d_Mo_perform_0 rfl (lv_at hl 0 rfl) ?_
  refine va_get (D := (dC, dI)) (ci := 12) (v := .ref am_xs) (C := R_Mo) (T := F_Mo) (N := 87) hx hb hts (fun w h => List.mem_cons_of_mem _ (in_Mo w h)) hown hK.1 hP 0 rfl rfl 50 (by decide) (hts _ (List.mem_cons_of_mem _ mw_1844)) (fun _ h9 => h9) hm_xs d_Mo_perform_1 ?_
  refine lv_iload_n hx hb d_Mo_perform_4 rfl (lv_at hl 1 rfl) ?_
  refine va_iald hx hb hK.1 hP 1 0 rfl rfl (ir_in hka0 hka1 (by decide) (by decide)) d_Mo_perform_5 ?_
  refine lv_istore_n hx hb d_Mo_perform_6 rfl hl (by decide) rfl (fun ls hl => ?_)
  have hl : lv_has ls 7 [(2, .int 0), (0, .ref oM), (1, .int ka)] := hl
  refine lv_aload_n hx hb d_Mo_perform_7 rfl (lv_at hl 1 rfl) ?_
  refine va_get (D := (dC, dI)) (ci := 12) (v := .ref am_ys) (C := R_Mo) (T := F_Mo) (N := 87) hx hb hts (fun w h => List.mem_cons_of_mem _ (in_Mo w h)) hown hK.1 hP 0 rfl rfl 51 (by decide) (hts _ (List.mem_cons_of_mem _ mw_1845)) (fun _ h9 => h9) hm_ys d_Mo_perform_8 ?_
  refine lv_iload_n hx hb d_Mo_perform_11 rfl (lv_at hl 2 rfl) ?_
  refine va_iald hx hb hK.1 hP 2 0 rfl rfl (ir_in hka0 hka1 (by decide) (by decide)) d_Mo_perform_12 ?_
  refine lv_istore_n hx hb d_Mo_perform_13 rfl hl (by decide) rfl (fun ls hl => ?_)
  have hl : lv_has ls 7 [(3, .int 0), (2, .int 0), (0, .ref oM), (1, .int ka)] := hl
  refine lv_aload_n hx hb d_Mo_perform_14 rfl (lv_at hl 2 rfl) ?_
  refine va_get (D := (dC, dI)) (ci := 12) (v := .ref am_does) (C := R_Mo) (T := F_Mo) (N := 87) hx hb hts (fun w h => List.mem_cons_of_mem _ (in_Mo w h)) hown hK.1 hP 0 rfl rfl 49 (by decide) (hts _ (List.mem_cons_of_mem _ mw_1843)) (fun _ h9 => h9) hm_does d_Mo_perform_15 ?_
  refine lv_iload_n hx hb d_Mo_perform_18 rfl (lv_at hl 3 rfl) ?_
  refine va_iald hx hb hK.1 hP 3 0 rfl rfl (ir_in hka0 hka1 (by decide) (by decide)) d_Mo_perform_19 ?_
  refine lv_istore hx hb d_Mo_perform_20 hl (by decide) rfl (fun ls hl => ?_)
  have hl : lv_has ls 7 [(4, .int (-1)), (3, .int 0), (2, .int 0), (0, .ref oM), (1, .int ka)] := hl
  refine lv_iload hx hb d_Mo_perform_22 (lv_at hl 0 rfl) ?_
  refine lv_if_eq (tgt := 33) hx hb d_Mo_perform_24 (by decide) (fun h => absurd h (by decide)) (fun _ => ?_)
  refine lv_iload hx hb d_Mo_perform_27 (lv_at hl 0 rfl) ?_
  refine lv_iconst (v := 1) hx hb d_Mo_perform_29 (by decide) ?_
  refine lv_icmp_ne (tgt := 62) hx hb d_Mo_perform_30 (by decide) (fun _ => ?_) (fun h => absurd h (by decide))
  refine lv_iload hx hb d_Mo_perform_62 (lv_at hl 0 rfl) ?_
  refine lv_iconst (v := 2) hx hb d_Mo_perform_64 (by decide) ?_
  refine lv_icmp_ne (tgt := 76) hx hb d_Mo_perform_65 (by decide) (fun _ => ?_) (fun h => absurd h (by decide))
  refine lv_iload hx hb d_Mo_perform_76 (lv_at hl 0 rfl) ?_
  refine lv_iconst (v := (-1)) hx hb d_Mo_perform_78 (by decide) ?_
  refine lv_icmp_eq (tgt := 94) hx hb d_Mo_perform_79 (by decide) (fun _ => ?_) (fun h => absurd (by decide) h)
  refine lv_iconst (v := 0) hx hb d_Mo_perform_94 (by decide) ?_
  refine lv_istore hx hb d_Mo_perform_95 hl (by decide) rfl (fun ls hl => ?_)
  have hl : lv_has ls 7 [(5, .int 0), (4, .int (-1)), (3, .int 0), (2, .int 0), (0, .ref oM), (1, .int ka)] := hl
  refine lv_iload hx hb d_Mo_perform_97 (lv_at hl 0 rfl) ?_
  refine lv_if_ne (tgt := 104) hx hb d_Mo_perform_99 (by decide) (fun h => absurd rfl h) (fun _ => ?_)
  refine lv_iconst (v := 1) hx hb d_Mo_perform_102 (by decide) ?_
  exact W.iret (v := 1) hx hb hr (fun t ht hW => ⟨⟨_, (), rfl, (rfl), trivial⟩, hS.F ht⟩) hS.2.2 d_Mo_perform_103
abbrev t_Mo_act_32 : List UInt8 := 172 :: []
abbrev t_Mo_act_31 : List UInt8 := 28 :: t_Mo_act_32
abbrev t_Mo_act_28 : List UInt8 := 182 :: 1 :: 183 :: t_Mo_act_31
abbrev t_Mo_act_27 : List UInt8 := 96 :: t_Mo_act_28
abbrev t_Mo_act_26 : List UInt8 := 28 :: t_Mo_act_27
abbrev t_Mo_act_24 : List UInt8 := 16 :: 10 :: t_Mo_act_26
abbrev t_Mo_act_23 : List UInt8 := 2 :: t_Mo_act_24
abbrev t_Mo_act_22 : List UInt8 := 42 :: t_Mo_act_23
abbrev t_Mo_act_19 : List UInt8 := 158 :: 0 :: 12 :: t_Mo_act_22
abbrev t_Mo_act_18 : List UInt8 := 28 :: t_Mo_act_19
abbrev t_Mo_act_17 : List UInt8 := 61 :: t_Mo_act_18
abbrev t_Mo_act_14 : List UInt8 := 182 :: 1 :: 180 :: t_Mo_act_17
abbrev t_Mo_act_13 : List UInt8 := 27 :: t_Mo_act_14
abbrev t_Mo_act_12 : List UInt8 := 42 :: t_Mo_act_13
abbrev t_Mo_act_11 : List UInt8 := 172 :: t_Mo_act_12
abbrev t_Mo_act_10 : List UInt8 := 2 :: t_Mo_act_11
abbrev t_Mo_act_7 : List UInt8 := 164 :: 0 :: 5 :: t_Mo_act_10
abbrev t_Mo_act_5 : List UInt8 := 16 :: 31 :: t_Mo_act_7
abbrev t_Mo_act_4 : List UInt8 := 27 :: t_Mo_act_5
abbrev t_Mo_act_1 : List UInt8 := 155 :: 0 :: 9 :: t_Mo_act_4
abbrev t_Mo_act_0 : List UInt8 := 27 :: t_Mo_act_1
theorem a_Mo_act_0 : dk_at b_Mo_act 0 t_Mo_act_0 := dk_start (by decide +kernel)
theorem a_Mo_act_1 : dk_at b_Mo_act 1 t_Mo_act_1 := dk_go 1 a_Mo_act_0 rfl
theorem a_Mo_act_4 : dk_at b_Mo_act 4 t_Mo_act_4 := dk_go 3 a_Mo_act_1 rfl
theorem a_Mo_act_5 : dk_at b_Mo_act 5 t_Mo_act_5 := dk_go 1 a_Mo_act_4 rfl
theorem a_Mo_act_7 : dk_at b_Mo_act 7 t_Mo_act_7 := dk_go 2 a_Mo_act_5 rfl
theorem a_Mo_act_10 : dk_at b_Mo_act 10 t_Mo_act_10 := dk_go 3 a_Mo_act_7 rfl
theorem a_Mo_act_11 : dk_at b_Mo_act 11 t_Mo_act_11 := dk_go 1 a_Mo_act_10 rfl
theorem a_Mo_act_12 : dk_at b_Mo_act 12 t_Mo_act_12 := dk_go 1 a_Mo_act_11 rfl
theorem a_Mo_act_13 : dk_at b_Mo_act 13 t_Mo_act_13 := dk_go 1 a_Mo_act_12 rfl
theorem a_Mo_act_14 : dk_at b_Mo_act 14 t_Mo_act_14 := dk_go 1 a_Mo_act_13 rfl
theorem a_Mo_act_17 : dk_at b_Mo_act 17 t_Mo_act_17 := dk_go 3 a_Mo_act_14 rfl
theorem a_Mo_act_18 : dk_at b_Mo_act 18 t_Mo_act_18 := dk_go 1 a_Mo_act_17 rfl
theorem a_Mo_act_19 : dk_at b_Mo_act 19 t_Mo_act_19 := dk_go 1 a_Mo_act_18 rfl
theorem a_Mo_act_22 : dk_at b_Mo_act 22 t_Mo_act_22 := dk_go 3 a_Mo_act_19 rfl
theorem a_Mo_act_23 : dk_at b_Mo_act 23 t_Mo_act_23 := dk_go 1 a_Mo_act_22 rfl
theorem a_Mo_act_24 : dk_at b_Mo_act 24 t_Mo_act_24 := dk_go 1 a_Mo_act_23 rfl
theorem a_Mo_act_26 : dk_at b_Mo_act 26 t_Mo_act_26 := dk_go 2 a_Mo_act_24 rfl
theorem a_Mo_act_27 : dk_at b_Mo_act 27 t_Mo_act_27 := dk_go 1 a_Mo_act_26 rfl
theorem a_Mo_act_28 : dk_at b_Mo_act 28 t_Mo_act_28 := dk_go 1 a_Mo_act_27 rfl
theorem a_Mo_act_31 : dk_at b_Mo_act 31 t_Mo_act_31 := dk_go 3 a_Mo_act_28 rfl
theorem a_Mo_act_32 : dk_at b_Mo_act 32 t_Mo_act_32 := dk_go 1 a_Mo_act_31 rfl
theorem d_Mo_act_0 : decode b_Mo_act 0 = .ok (.iload_n 1, 1) := dk_0 a_Mo_act_0 (dko_27 _)
theorem d_Mo_act_1 : decode b_Mo_act 1 = .ok (.ifCond .lt 9, 3) := dk_S2 a_Mo_act_1 (dko_155 _) (by decide +kernel)
theorem d_Mo_act_4 : decode b_Mo_act 4 = .ok (.iload_n 1, 1) := dk_0 a_Mo_act_4 (dko_27 _)
theorem d_Mo_act_5 : decode b_Mo_act 5 = .ok (.bipush 31, 2) := dk_S1 a_Mo_act_5 (dko_16 _) (by decide +kernel)
theorem d_Mo_act_7 : decode b_Mo_act 7 = .ok (.if_icmp .le 5, 3) := dk_S2 a_Mo_act_7 (dko_164 _) (by decide +kernel)
theorem d_Mo_act_10 : decode b_Mo_act 10 = .ok (.iconst (-1), 1) := dk_0 a_Mo_act_10 (dko_2 _)
theorem d_Mo_act_11 : decode b_Mo_act 11 = .ok (.ireturn, 1) := dk_0 a_Mo_act_11 (dko_172 _)
theorem d_Mo_act_12 : decode b_Mo_act 12 = .ok (.aload_n 0, 1) := dk_0 a_Mo_act_12 (dko_42 _)
theorem d_Mo_act_13 : decode b_Mo_act 13 = .ok (.iload_n 1, 1) := dk_0 a_Mo_act_13 (dko_27 _)
theorem d_Mo_act_14 : decode b_Mo_act 14 = .ok (.invokevirtual 436, 3) := dk_U2 a_Mo_act_14 (dko_182 _) rfl
theorem d_Mo_act_17 : decode b_Mo_act 17 = .ok (.istore_n 2, 1) := dk_0 a_Mo_act_17 (dko_61 _)
theorem d_Mo_act_18 : decode b_Mo_act 18 = .ok (.iload_n 2, 1) := dk_0 a_Mo_act_18 (dko_28 _)
theorem d_Mo_act_19 : decode b_Mo_act 19 = .ok (.ifCond .le 12, 3) := dk_S2 a_Mo_act_19 (dko_158 _) (by decide +kernel)
theorem d_Mo_act_22 : decode b_Mo_act 22 = .ok (.aload_n 0, 1) := dk_0 a_Mo_act_22 (dko_42 _)
theorem d_Mo_act_23 : decode b_Mo_act 23 = .ok (.iconst (-1), 1) := dk_0 a_Mo_act_23 (dko_2 _)
theorem d_Mo_act_24 : decode b_Mo_act 24 = .ok (.bipush 10, 2) := dk_S1 a_Mo_act_24 (dko_16 _) (by decide +kernel)
theorem d_Mo_act_26 : decode b_Mo_act 26 = .ok (.iload_n 2, 1) := dk_0 a_Mo_act_26 (dko_28 _)
theorem d_Mo_act_27 : decode b_Mo_act 27 = .ok (.iadd, 1) := dk_0 a_Mo_act_27 (dko_96 _)
theorem d_Mo_act_28 : decode b_Mo_act 28 = .ok (.invokevirtual 439, 3) := dk_U2 a_Mo_act_28 (dko_182 _) rfl
theorem d_Mo_act_31 : decode b_Mo_act 31 = .ok (.iload_n 2, 1) := dk_0 a_Mo_act_31 (dko_28 _)
theorem d_Mo_act_32 : decode b_Mo_act 32 = .ok (.ireturn, 1) := dk_0 a_Mo_act_32 (dko_172 _)
def fn_Mo_act (ka : Int32) : Int32 := (if ka < 0 then (-1) else (if ka ≤ 31 then 1 else (-1)))
set_option maxHeartbeats 4000000 in
set_option maxRecDepth 100000 in
theorem c_Mo_act (l : Launch) (dC : Nat → ClassId) (dI : Nat → Nat → Nat) (cI cB cZ cJ : ClassId) (ka : Int32) (oM : Nat) (am_xs : Nat) (am_ys : Nat) (am_does : Nat) (am_alarmSeconds : Nat) (am_alarmNodes : Nat) (am_alarmKinds : Nat) (fm : List Value) (hm_does : fx fm 49 (.ref am_does)) (hm_xs : fx fm 50 (.ref am_xs)) (hm_ys : fx fm 51 (.ref am_ys)) (hm_now : fx fm 78 (.int 0)) (hm_alarms : fx fm 79 (.int 0)) (hm_alarmSeconds : fx fm 80 (.ref am_alarmSeconds)) (hm_alarmNodes : fx fm 81 (.ref am_alarmNodes)) (hm_alarmKinds : fx fm 82 (.ref am_alarmKinds)) (sz : Nat) : Met l y_Mo_act w_Mo_act ({ frames := 1, cells := 0, slots := 0, locals := 26 }) (va_Pc [.ref oM, .int ka] (PW dC dI cI cB cZ cJ [(oM, .inr (12, fm)), (am_xs, .inl (cI, 32, .inl (fun _ => 0))), (am_ys, .inl (cI, 32, .inl (fun _ => 0))), (am_does, .inl (cI, 32, .inl ((fun _ => (-1))))), (am_alarmSeconds, .inl (cI, 200, .inl (fun _ => 0))), (am_alarmNodes, .inl (cI, 200, .inl (fun _ => 0))), (am_alarmKinds, .inl (cI, 200, .inl (fun _ => 0)))] sz)) (va_Qi (fun (r : Int32) (_ : Unit) => r = fn_Mo_act ka) (fun _ _ => True) (va_A [(oM, .inr (12, fm)), (am_xs, .inl (cI, 32, .inl (fun _ => 0))), (am_ys, .inl (cI, 32, .inl (fun _ => 0))), (am_does, .inl (cI, 32, .inl ((fun _ => (-1))))), (am_alarmSeconds, .inl (cI, 200, .inl (fun _ => 0))), (am_alarmNodes, .inl (cI, 200, .inl (fun _ => 0))), (am_alarmKinds, .inl (cI, 200, .inl (fun _ => 0)))] sz)) 0 0 (va_A [(oM, .inr (12, fm)), (am_xs, .inl (cI, 32, .inl (fun _ => 0))), (am_ys, .inl (cI, 32, .inl (fun _ => 0))), (am_does, .inl (cI, 32, .inl ((fun _ => (-1))))), (am_alarmSeconds, .inl (cI, 200, .inl (fun _ => 0))), (am_alarmNodes, .inl (cI, 200, .inl (fun _ => 0))), (am_alarmKinds, .inl (cI, 200, .inl (fun _ => 0)))] sz) := by
  refine Met.ofW (cc := b_Mo_act) (maxL := 3) (ret := (some .int)) (by decide) rfl ?_
  intro p e s m args below meth c s₁ B hml hv
  obtain ⟨rfl, hsz, hP, hK, hD⟩ := hv
  have hx := B.exec
  have hb := B.bytes
  have hr := B.returns
  have hts := atoms_spec (ws := w_Mo_act) B.pre
  have hown : s.vm.findClass R_Mo = some m.cls := findClass_of_methodNamed B.named
  have hlocks := B.notSynchronized
  subst hsz
  have hD := hD.self (sz := s.heap.size)
  generalize hAe : va_A [(oM, .inr (12, fm)), (am_xs, .inl (cI, 32, .inl (fun _ => 0))), (am_ys, .inl (cI, 32, .inl (fun _ => 0))), (am_does, .inl (cI, 32, .inl ((fun _ => (-1))))), (am_alarmSeconds, .inl (cI, 200, .inl (fun _ => 0))), (am_alarmNodes, .inl (cI, 200, .inl (fun _ => 0))), (am_alarmKinds, .inl (cI, 200, .inl (fun _ => 0)))] s.heap.size = A at hD ⊢
  have hA : ∀ q : Nat, s.heap.size ≤ q → A q := fun q h => by rw [← hAe]; exact Or.inr h
  have hS : va_S A s.heap s.heap [] := va_S.rf
  have hP : va_P (dC, dI) classes [(oM, .inr (12, fm)), (am_xs, .inl (cI, 32, .inl (fun _ => 0))), (am_ys, .inl (cI, 32, .inl (fun _ => 0))), (am_does, .inl (cI, 32, .inl ((fun _ => (-1))))), (am_alarmSeconds, .inl (cI, 200, .inl (fun _ => 0))), (am_alarmNodes, .inl (cI, 200, .inl (fun _ => 0))), (am_alarmKinds, .inl (cI, 200, .inl (fun _ => 0)))] s.heap := hP
  have hl := lv_entry ([.ref oM, .int ka]) (n := 3) (Nat.le_of_ble_eq_true rfl)
  rw [lg_entry_eq]
  generalize (lg_sl ([.ref oM, .int ka]) ++ List.replicate (3 - (lg_sl ([.ref oM, .int ka])).length) Slot.unset).toArray = ls at hl ⊢
  have hl : lv_has ls 3 [(0, .ref oM), (1, .int ka)] := hl
  refine lv_iload_n hx hb d_Mo_act_0 rfl (lv_at hl 1 rfl) ?_
  refine lv_if_lt (tgt := 10) hx hb d_Mo_act_1 (by decide) (fun h1 => ?_) (fun h1 => ?_)
  · refine lv_iconst (v := (-1)) hx hb d_Mo_act_10 (by decide) ?_
    exact W.iret (v := (-1)) hx hb hr (fun t ht hW => ⟨⟨_, (), rfl, (by unfold fn_Mo_act; rw [if_pos h1]), trivial⟩, hS.F ht⟩) hS.2.2 d_Mo_act_11
  · refine lv_iload_n hx hb d_Mo_act_4 rfl (lv_at hl 1 rfl) ?_
    refine lv_bipush (v := 31) hx hb d_Mo_act_5 (by decide) ?_
    refine lv_icmp_le (tgt := 12) hx hb d_Mo_act_7 (by decide) (fun h7 => ?_) (fun h7 => ?_)
    · refine lv_aload_n hx hb d_Mo_act_12 rfl (lv_at hl 0 rfl) ?_
      refine lv_iload_n hx hb d_Mo_act_13 rfl (lv_at hl 1 rfl) ?_
      have hPc := hP.sub (ws' := [(oM, .inr (12, fm)), (am_xs, .inl (cI, 32, .inl (fun _ => 0))), (am_ys, .inl (cI, 32, .inl (fun _ => 0))), (am_does, .inl (cI, 32, .inl ((fun _ => (-1)))))]) [0, 1, 2, 3] rfl
      have hDc := hD.sub (ws' := [(oM, .inr (12, fm)), (am_xs, .inl (cI, 32, .inl (fun _ => 0))), (am_ys, .inl (cI, 32, .inl (fun _ => 0))), (am_does, .inl (cI, 32, .inl ((fun _ => (-1)))))]) [0, 1, 2, 3] (by decide) rfl
      have hFc := pu_free hS hA
      refine va_calli (va_runV (C := R_Mo) (As := [.int ka]) (rest := []) ⟨hx, hb, hml, hown, hts⟩ (c_Mo_perform l dC dI cI cB cZ cJ ka h1 (Int32.not_lt.mpr h7) oM am_xs am_ys am_does fm hm_does hm_xs hm_ys s.heap.size) (cwV 1 hts (tb_V mw_2474 mw_2476 sl_162 mw_18 mw_2477) rfl rfl rfl ⟨rfl, by decide +kernel, by decide +kernel, by decide +kernel⟩ ⟨(Nat.le_of_ble_eq_true rfl), (Nat.le_of_ble_eq_true rfl)⟩) ⟨pw_blind, va_recv (q := (R_Mo, F_Mo, 87)) hK.1 hP (ci := 12) (q0 := 0) rfl rfl, pw_pre hPc hK hDc⟩ rfl rfl hl.1 rfl (lv_room (Nat.le_of_ble_eq_true rfl)) d_Mo_act_14 ⟨(Nat.le_of_ble_eq_true rfl), (Nat.le_of_ble_eq_true rfl)⟩) hS (fun q _ h => hFc q h) hFc (fun r u t H locs ht hvm hw hB hz1 hk1 hS => ?_)
      have hP := pu_kept hP hk1
      obtain rfl : r = 1 := hw
      refine lv_istore_n hx hb d_Mo_act_17 rfl hl (by decide) rfl (fun ls hl => ?_)
      have hl : lv_has ls 3 [(2, .int 1), (0, .ref oM), (1, .int ka)] := hl
      refine lv_iload_n hx hb d_Mo_act_18 rfl (lv_at hl 0 rfl) ?_
      refine lv_if_le (tgt := 31) hx hb d_Mo_act_19 (by decide) (fun h => absurd h (by decide)) (fun _ => ?_)
      refine lv_aload_n hx hb d_Mo_act_22 rfl (lv_at hl 1 rfl) ?_
      refine lv_iconst (v := (-1)) hx hb d_Mo_act_23 (by decide) ?_
      refine lv_bipush (v := 10) hx hb d_Mo_act_24 (by decide) ?_
      refine lv_iload_n hx hb d_Mo_act_26 rfl (lv_at hl 0 rfl) ?_
      refine lv_iadd hx hb d_Mo_act_27 ?_
      refine lv_topi (fun x0 e0 => ?_)
      obtain rfl : x0 = 11 := e0.trans (by decide)
      have hPc := hP.sub (ws' := [(oM, .inr (12, fm)), (am_alarmSeconds, .inl (cI, 200, .inl (fun _ => 0))), (am_alarmNodes, .inl (cI, 200, .inl (fun _ => 0))), (am_alarmKinds, .inl (cI, 200, .inl (fun _ => 0)))]) [0, 4, 5, 6] rfl
      have hDc := hD.sub (ws' := [(oM, .inr (12, fm)), (am_alarmSeconds, .inl (cI, 200, .inl (fun _ => 0))), (am_alarmNodes, .inl (cI, 200, .inl (fun _ => 0))), (am_alarmKinds, .inl (cI, 200, .inl (fun _ => 0)))]) [0, 4, 5, 6] (by decide) rfl
      have hFc := va_free (wc := [(oM, .inr (12, fm)), (am_alarmSeconds, .inl (cI, 200, .inl (fun _ => 0))), (am_alarmNodes, .inl (cI, 200, .inl (fun _ => 0))), (am_alarmKinds, .inl (cI, 200, .inl (fun _ => 0)))]) hD hS hA [0, 4, 5, 6] rfl
      refine va_callv (va_runV (C := R_Mo) (As := [.int (-1), .int 11]) (rest := []) ⟨hx, hb, hml, hown, hts⟩ (c_Mo_raise l dC dI cI cB cZ cJ (-1) 11 oM am_alarmSeconds am_alarmNodes am_alarmKinds fm hm_now hm_alarms hm_alarmSeconds hm_alarmNodes hm_alarmKinds H.size) (cwV 2 hts (tb_V mw_2521 mw_2523 sl_172 mw_18 mw_2524) rfl rfl rfl ⟨rfl, by decide +kernel, by decide +kernel, by decide +kernel⟩ ⟨(Nat.le_of_ble_eq_true rfl), (Nat.le_of_ble_eq_true rfl)⟩) ⟨pw_blind, va_recv (q := (R_Mo, F_Mo, 87)) hK.1 hP (ci := 12) (q0 := 0) rfl rfl, pw_pre hPc hK hDc⟩ rfl rfl hl.1 rfl (lv_room (Nat.le_of_ble_eq_true rfl)) d_Mo_act_28 ⟨(Nat.le_of_ble_eq_true rfl), (Nat.le_of_ble_eq_true rfl)⟩) hS (fun q _ h => hFc q h) hFc (fun u t H locs ht hvm hw hB hz1 hk1 hS => ?_)
      obtain ⟨hP, hD⟩ := va_join (wr := [(am_xs, .inl (cI, 32, .inl (fun _ => 0))), (am_ys, .inl (cI, 32, .inl (fun _ => 0))), (am_does, .inl (cI, 32, .inl ((fun _ => (-1)))))]) (w1 := []) hP hD [0, 4, 5, 6] [1, 2, 3] rfl rfl (by decide) (by decide) hk1 hFc wn_P wn_D
      have hP : va_P (dC, dI) classes [(am_xs, .inl (cI, 32, .inl (fun _ => 0))), (am_ys, .inl (cI, 32, .inl (fun _ => 0))), (am_does, .inl (cI, 32, .inl ((fun _ => (-1)))))] H := hP
      have hD : va_D A [(am_xs, .inl (cI, 32, .inl (fun _ => 0))), (am_ys, .inl (cI, 32, .inl (fun _ => 0))), (am_does, .inl (cI, 32, .inl ((fun _ => (-1)))))] := hD
      refine lv_iload_n hx hb d_Mo_act_31 rfl (lv_at hl 0 rfl) ?_
      exact W.iret (v := 1) hx hb hr (fun t ht hW => ⟨⟨_, (), rfl, (by unfold fn_Mo_act; rw [if_neg h1, if_pos h7]), trivial⟩, hS.F ht⟩) hS.2.2 d_Mo_act_32
    · refine lv_iconst (v := (-1)) hx hb d_Mo_act_10 (by decide) ?_
      exact W.iret (v := (-1)) hx hb hr (fun t ht hW => ⟨⟨_, (), rfl, (by unfold fn_Mo_act; rw [if_neg h1, if_neg h7]), trivial⟩, hS.F ht⟩) hS.2.2 d_Mo_act_11
abbrev t_Mo_watch_44 : List UInt8 := 172 :: []
abbrev t_Mo_watch_43 : List UInt8 := 4 :: t_Mo_watch_44
abbrev t_Mo_watch_42 : List UInt8 := 80 :: t_Mo_watch_43
abbrev t_Mo_watch_40 : List UInt8 := 22 :: 4 :: t_Mo_watch_42
abbrev t_Mo_watch_39 : List UInt8 := 27 :: t_Mo_watch_40
abbrev t_Mo_watch_36 : List UInt8 := 180 :: 0 :: 156 :: t_Mo_watch_39
abbrev t_Mo_watch_35 : List UInt8 := 42 :: t_Mo_watch_36
abbrev t_Mo_watch_34 : List UInt8 := 79 :: t_Mo_watch_35
abbrev t_Mo_watch_33 : List UInt8 := 29 :: t_Mo_watch_34
abbrev t_Mo_watch_32 : List UInt8 := 27 :: t_Mo_watch_33
abbrev t_Mo_watch_29 : List UInt8 := 180 :: 0 :: 153 :: t_Mo_watch_32
abbrev t_Mo_watch_28 : List UInt8 := 42 :: t_Mo_watch_29
abbrev t_Mo_watch_27 : List UInt8 := 79 :: t_Mo_watch_28
abbrev t_Mo_watch_26 : List UInt8 := 28 :: t_Mo_watch_27
abbrev t_Mo_watch_25 : List UInt8 := 27 :: t_Mo_watch_26
abbrev t_Mo_watch_22 : List UInt8 := 180 :: 0 :: 150 :: t_Mo_watch_25
abbrev t_Mo_watch_21 : List UInt8 := 42 :: t_Mo_watch_22
abbrev t_Mo_watch_20 : List UInt8 := 172 :: t_Mo_watch_21
abbrev t_Mo_watch_19 : List UInt8 := 3 :: t_Mo_watch_20
abbrev t_Mo_watch_16 : List UInt8 := 164 :: 0 :: 5 :: t_Mo_watch_19
abbrev t_Mo_watch_15 : List UInt8 := 8 :: t_Mo_watch_16
abbrev t_Mo_watch_14 : List UInt8 := 28 :: t_Mo_watch_15
abbrev t_Mo_watch_11 : List UInt8 := 155 :: 0 :: 8 :: t_Mo_watch_14
abbrev t_Mo_watch_10 : List UInt8 := 28 :: t_Mo_watch_11
abbrev t_Mo_watch_7 : List UInt8 := 163 :: 0 :: 12 :: t_Mo_watch_10
abbrev t_Mo_watch_5 : List UInt8 := 16 :: 15 :: t_Mo_watch_7
abbrev t_Mo_watch_4 : List UInt8 := 27 :: t_Mo_watch_5
abbrev t_Mo_watch_1 : List UInt8 := 155 :: 0 :: 18 :: t_Mo_watch_4
abbrev t_Mo_watch_0 : List UInt8 := 27 :: t_Mo_watch_1
theorem a_Mo_watch_0 : dk_at b_Mo_watch 0 t_Mo_watch_0 := dk_start (by decide +kernel)
theorem a_Mo_watch_1 : dk_at b_Mo_watch 1 t_Mo_watch_1 := dk_go 1 a_Mo_watch_0 rfl
theorem a_Mo_watch_4 : dk_at b_Mo_watch 4 t_Mo_watch_4 := dk_go 3 a_Mo_watch_1 rfl
theorem a_Mo_watch_5 : dk_at b_Mo_watch 5 t_Mo_watch_5 := dk_go 1 a_Mo_watch_4 rfl
theorem a_Mo_watch_7 : dk_at b_Mo_watch 7 t_Mo_watch_7 := dk_go 2 a_Mo_watch_5 rfl
theorem a_Mo_watch_10 : dk_at b_Mo_watch 10 t_Mo_watch_10 := dk_go 3 a_Mo_watch_7 rfl
theorem a_Mo_watch_11 : dk_at b_Mo_watch 11 t_Mo_watch_11 := dk_go 1 a_Mo_watch_10 rfl
theorem a_Mo_watch_14 : dk_at b_Mo_watch 14 t_Mo_watch_14 := dk_go 3 a_Mo_watch_11 rfl
theorem a_Mo_watch_15 : dk_at b_Mo_watch 15 t_Mo_watch_15 := dk_go 1 a_Mo_watch_14 rfl
theorem a_Mo_watch_16 : dk_at b_Mo_watch 16 t_Mo_watch_16 := dk_go 1 a_Mo_watch_15 rfl
theorem a_Mo_watch_19 : dk_at b_Mo_watch 19 t_Mo_watch_19 := dk_go 3 a_Mo_watch_16 rfl
theorem a_Mo_watch_20 : dk_at b_Mo_watch 20 t_Mo_watch_20 := dk_go 1 a_Mo_watch_19 rfl
theorem a_Mo_watch_21 : dk_at b_Mo_watch 21 t_Mo_watch_21 := dk_go 1 a_Mo_watch_20 rfl
theorem a_Mo_watch_22 : dk_at b_Mo_watch 22 t_Mo_watch_22 := dk_go 1 a_Mo_watch_21 rfl
theorem a_Mo_watch_25 : dk_at b_Mo_watch 25 t_Mo_watch_25 := dk_go 3 a_Mo_watch_22 rfl
theorem a_Mo_watch_26 : dk_at b_Mo_watch 26 t_Mo_watch_26 := dk_go 1 a_Mo_watch_25 rfl
theorem a_Mo_watch_27 : dk_at b_Mo_watch 27 t_Mo_watch_27 := dk_go 1 a_Mo_watch_26 rfl
theorem a_Mo_watch_28 : dk_at b_Mo_watch 28 t_Mo_watch_28 := dk_go 1 a_Mo_watch_27 rfl
theorem a_Mo_watch_29 : dk_at b_Mo_watch 29 t_Mo_watch_29 := dk_go 1 a_Mo_watch_28 rfl
theorem a_Mo_watch_32 : dk_at b_Mo_watch 32 t_Mo_watch_32 := dk_go 3 a_Mo_watch_29 rfl
theorem a_Mo_watch_33 : dk_at b_Mo_watch 33 t_Mo_watch_33 := dk_go 1 a_Mo_watch_32 rfl
theorem a_Mo_watch_34 : dk_at b_Mo_watch 34 t_Mo_watch_34 := dk_go 1 a_Mo_watch_33 rfl
theorem a_Mo_watch_35 : dk_at b_Mo_watch 35 t_Mo_watch_35 := dk_go 1 a_Mo_watch_34 rfl
theorem a_Mo_watch_36 : dk_at b_Mo_watch 36 t_Mo_watch_36 := dk_go 1 a_Mo_watch_35 rfl
theorem a_Mo_watch_39 : dk_at b_Mo_watch 39 t_Mo_watch_39 := dk_go 3 a_Mo_watch_36 rfl
theorem a_Mo_watch_40 : dk_at b_Mo_watch 40 t_Mo_watch_40 := dk_go 1 a_Mo_watch_39 rfl
theorem a_Mo_watch_42 : dk_at b_Mo_watch 42 t_Mo_watch_42 := dk_go 2 a_Mo_watch_40 rfl
theorem a_Mo_watch_43 : dk_at b_Mo_watch 43 t_Mo_watch_43 := dk_go 1 a_Mo_watch_42 rfl
theorem a_Mo_watch_44 : dk_at b_Mo_watch 44 t_Mo_watch_44 := dk_go 1 a_Mo_watch_43 rfl
theorem d_Mo_watch_0 : decode b_Mo_watch 0 = .ok (.iload_n 1, 1) := dk_0 a_Mo_watch_0 (dko_27 _)
theorem d_Mo_watch_1 : decode b_Mo_watch 1 = .ok (.ifCond .lt 18, 3) := dk_S2 a_Mo_watch_1 (dko_155 _) (by decide +kernel)
theorem d_Mo_watch_4 : decode b_Mo_watch 4 = .ok (.iload_n 1, 1) := dk_0 a_Mo_watch_4 (dko_27 _)
theorem d_Mo_watch_5 : decode b_Mo_watch 5 = .ok (.bipush 15, 2) := dk_S1 a_Mo_watch_5 (dko_16 _) (by decide +kernel)
theorem d_Mo_watch_7 : decode b_Mo_watch 7 = .ok (.if_icmp .gt 12, 3) := dk_S2 a_Mo_watch_7 (dko_163 _) (by decide +kernel)
theorem d_Mo_watch_10 : decode b_Mo_watch 10 = .ok (.iload_n 2, 1) := dk_0 a_Mo_watch_10 (dko_28 _)
theorem d_Mo_watch_11 : decode b_Mo_watch 11 = .ok (.ifCond .lt 8, 3) := dk_S2 a_Mo_watch_11 (dko_155 _) (by decide +kernel)
theorem d_Mo_watch_14 : decode b_Mo_watch 14 = .ok (.iload_n 2, 1) := dk_0 a_Mo_watch_14 (dko_28 _)
theorem d_Mo_watch_15 : decode b_Mo_watch 15 = .ok (.iconst 5, 1) := dk_0 a_Mo_watch_15 (dko_8 _)
theorem d_Mo_watch_16 : decode b_Mo_watch 16 = .ok (.if_icmp .le 5, 3) := dk_S2 a_Mo_watch_16 (dko_164 _) (by decide +kernel)
theorem d_Mo_watch_19 : decode b_Mo_watch 19 = .ok (.iconst 0, 1) := dk_0 a_Mo_watch_19 (dko_3 _)
theorem d_Mo_watch_20 : decode b_Mo_watch 20 = .ok (.ireturn, 1) := dk_0 a_Mo_watch_20 (dko_172 _)
theorem d_Mo_watch_21 : decode b_Mo_watch 21 = .ok (.aload_n 0, 1) := dk_0 a_Mo_watch_21 (dko_42 _)
theorem d_Mo_watch_22 : decode b_Mo_watch 22 = .ok (.getfield 150, 3) := dk_U2 a_Mo_watch_22 (dko_180 _) rfl
theorem d_Mo_watch_25 : decode b_Mo_watch 25 = .ok (.iload_n 1, 1) := dk_0 a_Mo_watch_25 (dko_27 _)
theorem d_Mo_watch_26 : decode b_Mo_watch 26 = .ok (.iload_n 2, 1) := dk_0 a_Mo_watch_26 (dko_28 _)
theorem d_Mo_watch_27 : decode b_Mo_watch 27 = .ok (.iastore, 1) := dk_0 a_Mo_watch_27 (dko_79 _)
theorem d_Mo_watch_28 : decode b_Mo_watch 28 = .ok (.aload_n 0, 1) := dk_0 a_Mo_watch_28 (dko_42 _)
theorem d_Mo_watch_29 : decode b_Mo_watch 29 = .ok (.getfield 153, 3) := dk_U2 a_Mo_watch_29 (dko_180 _) rfl
theorem d_Mo_watch_32 : decode b_Mo_watch 32 = .ok (.iload_n 1, 1) := dk_0 a_Mo_watch_32 (dko_27 _)
theorem d_Mo_watch_33 : decode b_Mo_watch 33 = .ok (.iload_n 3, 1) := dk_0 a_Mo_watch_33 (dko_29 _)
theorem d_Mo_watch_34 : decode b_Mo_watch 34 = .ok (.iastore, 1) := dk_0 a_Mo_watch_34 (dko_79 _)
theorem d_Mo_watch_35 : decode b_Mo_watch 35 = .ok (.aload_n 0, 1) := dk_0 a_Mo_watch_35 (dko_42 _)
theorem d_Mo_watch_36 : decode b_Mo_watch 36 = .ok (.getfield 156, 3) := dk_U2 a_Mo_watch_36 (dko_180 _) rfl
theorem d_Mo_watch_39 : decode b_Mo_watch 39 = .ok (.iload_n 1, 1) := dk_0 a_Mo_watch_39 (dko_27 _)
theorem d_Mo_watch_40 : decode b_Mo_watch 40 = .ok (.lload 4, 2) := dk_U1 a_Mo_watch_40 (dko_22 _) rfl
theorem d_Mo_watch_42 : decode b_Mo_watch 42 = .ok (.lastore, 1) := dk_0 a_Mo_watch_42 (dko_80 _)
theorem d_Mo_watch_43 : decode b_Mo_watch 43 = .ok (.iconst 1, 1) := dk_0 a_Mo_watch_43 (dko_4 _)
theorem d_Mo_watch_44 : decode b_Mo_watch 44 = .ok (.ireturn, 1) := dk_0 a_Mo_watch_44 (dko_172 _)
def fn_Mo_watch (cc_ : Int32) (wh : Int32) (xx : Int32) (le : Int64) : Int32 := (if cc_ < 0 then 0 else (if 15 < cc_ then 0 else (if wh < 0 then 0 else (if wh ≤ 5 then 1 else 0))))
set_option maxHeartbeats 4000000 in
set_option maxRecDepth 100000 in
theorem c_Mo_watch (l : Launch) (dC : Nat → ClassId) (dI : Nat → Nat → Nat) (cI cB cZ cJ : ClassId) (cc_ : Int32) (wh : Int32) (xx : Int32) (le : Int64) (oM : Nat) (am_watchWhat : Nat) (am_watchOf : Nat) (am_watchLeast : Nat) (fm : List Value) (hm_watchWhat : fx fm 55 (.ref am_watchWhat)) (hm_watchOf : fx fm 56 (.ref am_watchOf)) (hm_watchLeast : fx fm 57 (.ref am_watchLeast)) (sz : Nat) : Met l y_Mo_watch w_Mo_watch ({ frames := 0, cells := 0, slots := 0, locals := 0 }) (va_Pc [.ref oM, .int cc_, .int wh, .int xx, .long le] (PW dC dI cI cB cZ cJ [(oM, .inr (12, fm)), (am_watchWhat, .inl (cI, 16, .inl ((fun _ => (-1))))), (am_watchOf, .inl (cI, 16, .inl (fun _ => 0))), (am_watchLeast, .inl (cJ, 16, .inr (.inl (fun _ => 0))))] sz)) (va_Qi (fun (r : Int32) (_ : Unit) => r = fn_Mo_watch cc_ wh xx le) (fun _ _ => True) (va_A [(oM, .inr (12, fm)), (am_watchWhat, .inl (cI, 16, .inl ((fun _ => (-1))))), (am_watchOf, .inl (cI, 16, .inl (fun _ => 0))), (am_watchLeast, .inl (cJ, 16, .inr (.inl (fun _ => 0))))] sz)) 0 0 (va_A [(oM, .inr (12, fm)), (am_watchWhat, .inl (cI, 16, .inl ((fun _ => (-1))))), (am_watchOf, .inl (cI, 16, .inl (fun _ => 0))), (am_watchLeast, .inl (cJ, 16, .inr (.inl (fun _ => 0))))] sz) := by
  refine Met.ofW (cc := b_Mo_watch) (maxL := 6) (ret := (some .boolean)) (by decide) rfl ?_
  intro p e s m args below meth c s₁ B hml hv
  obtain ⟨rfl, hsz, hP, hK, hD⟩ := hv
  have hx := B.exec
  have hb := B.bytes
  have hr := B.returns
  have hts := atoms_spec (ws := w_Mo_watch) B.pre
  have hown : s.vm.findClass R_Mo = some m.cls := findClass_of_methodNamed B.named
  have hlocks := B.notSynchronized
  subst hsz
  have hD := hD.self (sz := s.heap.size)
  generalize hAe : va_A [(oM, .inr (12, fm)), (am_watchWhat, .inl (cI, 16, .inl ((fun _ => (-1))))), (am_watchOf, .inl (cI, 16, .inl (fun _ => 0))), (am_watchLeast, .inl (cJ, 16, .inr (.inl (fun _ => 0))))] s.heap.size = A at hD ⊢
  have hA : ∀ q : Nat, s.heap.size ≤ q → A q := fun q h => by rw [← hAe]; exact Or.inr h
  have hS : va_S A s.heap s.heap [] := va_S.rf
  have hP : va_P (dC, dI) classes [(oM, .inr (12, fm)), (am_watchWhat, .inl (cI, 16, .inl ((fun _ => (-1))))), (am_watchOf, .inl (cI, 16, .inl (fun _ => 0))), (am_watchLeast, .inl (cJ, 16, .inr (.inl (fun _ => 0))))] s.heap := hP
  have hl := lv_entry ([.ref oM, .int cc_, .int wh, .int xx, .long le]) (n := 6) (Nat.le_of_ble_eq_true rfl)
  rw [lg_entry_eq]
  generalize (lg_sl ([.ref oM, .int cc_, .int wh, .int xx, .long le]) ++ List.replicate (6 - (lg_sl ([.ref oM, .int cc_, .int wh, .int xx, .long le])).length) Slot.unset).toArray = ls at hl ⊢
  have hl : lv_has ls 6 [(0, .ref oM), (1, .int cc_), (2, .int wh), (3, .int xx), (4, .long le)] := hl
  refine lv_iload_n hx hb d_Mo_watch_0 rfl (lv_at hl 1 rfl) ?_
  refine lv_if_lt (tgt := 19) hx hb d_Mo_watch_1 (by decide) (fun h1 => ?_) (fun h1 => ?_)
  · refine lv_iconst (v := 0) hx hb d_Mo_watch_19 (by decide) ?_
    exact W.zret (v := 0) (ty := .boolean) hx hb hr (by decide) (fun t ht hW => ⟨⟨_, (), rfl, (by unfold fn_Mo_watch; rw [if_pos h1]), trivial⟩, hS.F ht⟩) hS.2.2 d_Mo_watch_20
  · refine lv_iload_n hx hb d_Mo_watch_4 rfl (lv_at hl 1 rfl) ?_
    refine lv_bipush (v := 15) hx hb d_Mo_watch_5 (by decide) ?_
    refine lv_icmp_gt (tgt := 19) hx hb d_Mo_watch_7 (by decide) (fun h7 => ?_) (fun h7 => ?_)
    · refine lv_iconst (v := 0) hx hb d_Mo_watch_19 (by decide) ?_
      exact W.zret (v := 0) (ty := .boolean) hx hb hr (by decide) (fun t ht hW => ⟨⟨_, (), rfl, (by unfold fn_Mo_watch; rw [if_neg h1, if_pos h7]), trivial⟩, hS.F ht⟩) hS.2.2 d_Mo_watch_20
    · refine lv_iload_n hx hb d_Mo_watch_10 rfl (lv_at hl 2 rfl) ?_
      refine lv_if_lt (tgt := 19) hx hb d_Mo_watch_11 (by decide) (fun h11 => ?_) (fun h11 => ?_)
      · refine lv_iconst (v := 0) hx hb d_Mo_watch_19 (by decide) ?_
        exact W.zret (v := 0) (ty := .boolean) hx hb hr (by decide) (fun t ht hW => ⟨⟨_, (), rfl, (by unfold fn_Mo_watch; rw [if_neg h1, if_neg h7, if_pos h11]), trivial⟩, hS.F ht⟩) hS.2.2 d_Mo_watch_20
      · refine lv_iload_n hx hb d_Mo_watch_14 rfl (lv_at hl 2 rfl) ?_
        refine lv_iconst (v := 5) hx hb d_Mo_watch_15 (by decide) ?_
        refine lv_icmp_le (tgt := 21) hx hb d_Mo_watch_16 (by decide) (fun h16 => ?_) (fun h16 => ?_)
        · refine lv_aload_n hx hb d_Mo_watch_21 rfl (lv_at hl 0 rfl) ?_
          refine va_get (D := (dC, dI)) (ci := 12) (v := .ref am_watchWhat) (C := R_Mo) (T := F_Mo) (N := 87) hx hb hts (fun w h => List.mem_cons_of_mem _ (in_Mo w h)) hown hK.1 hP 0 rfl rfl 55 (by decide) (hts _ (List.mem_cons_of_mem _ mw_1849)) (fun _ h9 => h9) hm_watchWhat d_Mo_watch_22 ?_
          refine lv_iload_n hx hb d_Mo_watch_25 rfl (lv_at hl 1 rfl) ?_
          refine lv_iload_n hx hb d_Mo_watch_26 rfl (lv_at hl 2 rfl) ?_
          refine va_iast hx hb hK.1 hP hD hS 1 0 rfl rfl (ir_in h1 h7 (by decide) (by decide)) d_Mo_watch_27 (fun H locs hP hD hS => ?_)
          have hP : va_P (dC, dI) classes [(oM, .inr (12, fm)), (am_watchWhat, .inl (cI, 16, .inl ((upd ((fun _ => (-1))) (cc_ : Int32).toNatClampNeg wh)))), (am_watchOf, .inl (cI, 16, .inl (fun _ => 0))), (am_watchLeast, .inl (cJ, 16, .inr (.inl (fun _ => 0))))] H := hP
          have hD : va_D A [(oM, .inr (12, fm)), (am_watchWhat, .inl (cI, 16, .inl ((upd ((fun _ => (-1))) (cc_ : Int32).toNatClampNeg wh)))), (am_watchOf, .inl (cI, 16, .inl (fun _ => 0))), (am_watchLeast, .inl (cJ, 16, .inr (.inl (fun _ => 0))))] := hD
          generalize (upd ((fun _ => (-1))) (cc_ : Int32).toNatClampNeg wh) = f27_5 at hP hD
          refine lv_aload_n hx hb d_Mo_watch_28 rfl (lv_at hl 0 rfl) ?_
          refine va_get (D := (dC, dI)) (ci := 12) (v := .ref am_watchOf) (C := R_Mo) (T := F_Mo) (N := 87) hx hb hts (fun w h => List.mem_cons_of_mem _ (in_Mo w h)) hown hK.1 hP 0 rfl rfl 56 (by decide) (hts _ (List.mem_cons_of_mem _ mw_1850)) (fun _ h9 => h9) hm_watchOf d_Mo_watch_29 ?_
          refine lv_iload_n hx hb d_Mo_watch_32 rfl (lv_at hl 1 rfl) ?_
          refine lv_iload_n hx hb d_Mo_watch_33 rfl (lv_at hl 3 rfl) ?_
          refine va_iast hx hb hK.1 hP hD hS 2 0 rfl rfl (ir_in h1 h7 (by decide) (by decide)) d_Mo_watch_34 (fun H locs hP hD hS => ?_)
          have hP : va_P (dC, dI) classes [(oM, .inr (12, fm)), (am_watchWhat, .inl (cI, 16, .inl f27_5)), (am_watchOf, .inl (cI, 16, .inl ((upd (fun _ => 0) (cc_ : Int32).toNatClampNeg xx)))), (am_watchLeast, .inl (cJ, 16, .inr (.inl (fun _ => 0))))] H := hP
          have hD : va_D A [(oM, .inr (12, fm)), (am_watchWhat, .inl (cI, 16, .inl f27_5)), (am_watchOf, .inl (cI, 16, .inl ((upd (fun _ => 0) (cc_ : Int32).toNatClampNeg xx)))), (am_watchLeast, .inl (cJ, 16, .inr (.inl (fun _ => 0))))] := hD
          generalize (upd (fun _ => 0) (cc_ : Int32).toNatClampNeg xx) = f34_6 at hP hD
          refine lv_aload_n hx hb d_Mo_watch_35 rfl (lv_at hl 0 rfl) ?_
          refine va_get (D := (dC, dI)) (ci := 12) (v := .ref am_watchLeast) (C := R_Mo) (T := F_Mo) (N := 87) hx hb hts (fun w h => List.mem_cons_of_mem _ (in_Mo w h)) hown hK.1 hP 0 rfl rfl 57 (by decide) (hts _ (List.mem_cons_of_mem _ mw_1851)) (fun _ h9 => h9) hm_watchLeast d_Mo_watch_36 ?_
          refine lv_iload_n hx hb d_Mo_watch_39 rfl (lv_at hl 1 rfl) ?_
          refine lv_lload hx hb d_Mo_watch_40 (lv_at hl 4 rfl) ?_
          refine va_last hx hb hK.1 hP hD hS 3 3 rfl rfl (ir_in h1 h7 (by decide) (by decide)) d_Mo_watch_42 (fun H locs hP hD hS => ?_)
          have hP : va_P (dC, dI) classes [(oM, .inr (12, fm)), (am_watchWhat, .inl (cI, 16, .inl f27_5)), (am_watchOf, .inl (cI, 16, .inl f34_6)), (am_watchLeast, .inl (cJ, 16, .inr (.inl ((vp_updL (fun _ => 0) (cc_ : Int32).toNatClampNeg le)))))] H := hP
          have hD : va_D A [(oM, .inr (12, fm)), (am_watchWhat, .inl (cI, 16, .inl f27_5)), (am_watchOf, .inl (cI, 16, .inl f34_6)), (am_watchLeast, .inl (cJ, 16, .inr (.inl ((vp_updL (fun _ => 0) (cc_ : Int32).toNatClampNeg le)))))] := hD
          generalize (vp_updL (fun _ => 0) (cc_ : Int32).toNatClampNeg le) = f42_7 at hP hD
          refine lv_iconst (v := 1) hx hb d_Mo_watch_43 (by decide) ?_
          exact W.zret (v := 1) (ty := .boolean) hx hb hr (by decide) (fun t ht hW => ⟨⟨_, (), rfl, (by unfold fn_Mo_watch; rw [if_neg h1, if_neg h7, if_neg h11, if_pos h16]), trivial⟩, hS.F ht⟩) hS.2.2 d_Mo_watch_44
        · refine lv_iconst (v := 0) hx hb d_Mo_watch_19 (by decide) ?_
          exact W.zret (v := 0) (ty := .boolean) hx hb hr (by decide) (fun t ht hW => ⟨⟨_, (), rfl, (by unfold fn_Mo_watch; rw [if_neg h1, if_neg h7, if_neg h11, if_neg h16]), trivial⟩, hS.F ht⟩) hS.2.2 d_Mo_watch_20
abbrev t_Mo_bind_103 : List UInt8 := 172 :: []
abbrev t_Mo_bind_102 : List UInt8 := 4 :: t_Mo_bind_103
abbrev t_Mo_bind_101 : List UInt8 := 79 :: t_Mo_bind_102
abbrev t_Mo_bind_99 : List UInt8 := 21 :: 5 :: t_Mo_bind_101
abbrev t_Mo_bind_98 : List UInt8 := 27 :: t_Mo_bind_99
abbrev t_Mo_bind_95 : List UInt8 := 180 :: 0 :: 141 :: t_Mo_bind_98
abbrev t_Mo_bind_94 : List UInt8 := 42 :: t_Mo_bind_95
abbrev t_Mo_bind_93 : List UInt8 := 79 :: t_Mo_bind_94
abbrev t_Mo_bind_91 : List UInt8 := 21 :: 4 :: t_Mo_bind_93
abbrev t_Mo_bind_90 : List UInt8 := 27 :: t_Mo_bind_91
abbrev t_Mo_bind_87 : List UInt8 := 180 :: 0 :: 138 :: t_Mo_bind_90
abbrev t_Mo_bind_86 : List UInt8 := 42 :: t_Mo_bind_87
abbrev t_Mo_bind_85 : List UInt8 := 79 :: t_Mo_bind_86
abbrev t_Mo_bind_84 : List UInt8 := 29 :: t_Mo_bind_85
abbrev t_Mo_bind_83 : List UInt8 := 27 :: t_Mo_bind_84
abbrev t_Mo_bind_80 : List UInt8 := 180 :: 0 :: 135 :: t_Mo_bind_83
abbrev t_Mo_bind_79 : List UInt8 := 42 :: t_Mo_bind_80
abbrev t_Mo_bind_78 : List UInt8 := 79 :: t_Mo_bind_79
abbrev t_Mo_bind_77 : List UInt8 := 28 :: t_Mo_bind_78
abbrev t_Mo_bind_76 : List UInt8 := 27 :: t_Mo_bind_77
abbrev t_Mo_bind_73 : List UInt8 := 180 :: 0 :: 132 :: t_Mo_bind_76
abbrev t_Mo_bind_72 : List UInt8 := 42 :: t_Mo_bind_73
abbrev t_Mo_bind_71 : List UInt8 := 172 :: t_Mo_bind_72
abbrev t_Mo_bind_70 : List UInt8 := 3 :: t_Mo_bind_71
abbrev t_Mo_bind_67 : List UInt8 := 164 :: 0 :: 5 :: t_Mo_bind_70
abbrev t_Mo_bind_66 : List UInt8 := 8 :: t_Mo_bind_67
abbrev t_Mo_bind_64 : List UInt8 := 21 :: 4 :: t_Mo_bind_66
abbrev t_Mo_bind_61 : List UInt8 := 161 :: 0 :: 9 :: t_Mo_bind_64
abbrev t_Mo_bind_60 : List UInt8 := 4 :: t_Mo_bind_61
abbrev t_Mo_bind_58 : List UInt8 := 21 :: 4 :: t_Mo_bind_60
abbrev t_Mo_bind_55 : List UInt8 := 160 :: 0 :: 17 :: t_Mo_bind_58
abbrev t_Mo_bind_54 : List UInt8 := 6 :: t_Mo_bind_55
abbrev t_Mo_bind_53 : List UInt8 := 28 :: t_Mo_bind_54
abbrev t_Mo_bind_50 : List UInt8 := 163 :: 0 :: 20 :: t_Mo_bind_53
abbrev t_Mo_bind_48 : List UInt8 := 16 :: 9 :: t_Mo_bind_50
abbrev t_Mo_bind_46 : List UInt8 := 21 :: 4 :: t_Mo_bind_48
abbrev t_Mo_bind_43 : List UInt8 := 155 :: 0 :: 27 :: t_Mo_bind_46
abbrev t_Mo_bind_41 : List UInt8 := 21 :: 4 :: t_Mo_bind_43
abbrev t_Mo_bind_38 : List UInt8 := 160 :: 0 :: 15 :: t_Mo_bind_41
abbrev t_Mo_bind_37 : List UInt8 := 5 :: t_Mo_bind_38
abbrev t_Mo_bind_36 : List UInt8 := 28 :: t_Mo_bind_37
abbrev t_Mo_bind_33 : List UInt8 := 163 :: 0 :: 37 :: t_Mo_bind_36
abbrev t_Mo_bind_31 : List UInt8 := 16 :: 100 :: t_Mo_bind_33
abbrev t_Mo_bind_29 : List UInt8 := 21 :: 5 :: t_Mo_bind_31
abbrev t_Mo_bind_26 : List UInt8 := 161 :: 0 :: 44 :: t_Mo_bind_29
abbrev t_Mo_bind_25 : List UInt8 := 4 :: t_Mo_bind_26
abbrev t_Mo_bind_23 : List UInt8 := 21 :: 5 :: t_Mo_bind_25
abbrev t_Mo_bind_20 : List UInt8 := 154 :: 0 :: 16 :: t_Mo_bind_23
abbrev t_Mo_bind_19 : List UInt8 := 28 :: t_Mo_bind_20
abbrev t_Mo_bind_16 : List UInt8 := 163 :: 0 :: 54 :: t_Mo_bind_19
abbrev t_Mo_bind_15 : List UInt8 := 7 :: t_Mo_bind_16
abbrev t_Mo_bind_14 : List UInt8 := 28 :: t_Mo_bind_15
abbrev t_Mo_bind_11 : List UInt8 := 155 :: 0 :: 59 :: t_Mo_bind_14
abbrev t_Mo_bind_10 : List UInt8 := 28 :: t_Mo_bind_11
abbrev t_Mo_bind_7 : List UInt8 := 163 :: 0 :: 63 :: t_Mo_bind_10
abbrev t_Mo_bind_5 : List UInt8 := 16 :: 31 :: t_Mo_bind_7
abbrev t_Mo_bind_4 : List UInt8 := 27 :: t_Mo_bind_5
abbrev t_Mo_bind_1 : List UInt8 := 155 :: 0 :: 69 :: t_Mo_bind_4
abbrev t_Mo_bind_0 : List UInt8 := 27 :: t_Mo_bind_1
theorem a_Mo_bind_0 : dk_at b_Mo_bind 0 t_Mo_bind_0 := dk_start (by decide +kernel)
theorem a_Mo_bind_1 : dk_at b_Mo_bind 1 t_Mo_bind_1 := dk_go 1 a_Mo_bind_0 rfl
theorem a_Mo_bind_4 : dk_at b_Mo_bind 4 t_Mo_bind_4 := dk_go 3 a_Mo_bind_1 rfl
theorem a_Mo_bind_5 : dk_at b_Mo_bind 5 t_Mo_bind_5 := dk_go 1 a_Mo_bind_4 rfl
theorem a_Mo_bind_7 : dk_at b_Mo_bind 7 t_Mo_bind_7 := dk_go 2 a_Mo_bind_5 rfl
theorem a_Mo_bind_10 : dk_at b_Mo_bind 10 t_Mo_bind_10 := dk_go 3 a_Mo_bind_7 rfl
theorem a_Mo_bind_11 : dk_at b_Mo_bind 11 t_Mo_bind_11 := dk_go 1 a_Mo_bind_10 rfl
theorem a_Mo_bind_14 : dk_at b_Mo_bind 14 t_Mo_bind_14 := dk_go 3 a_Mo_bind_11 rfl
theorem a_Mo_bind_15 : dk_at b_Mo_bind 15 t_Mo_bind_15 := dk_go 1 a_Mo_bind_14 rfl
theorem a_Mo_bind_16 : dk_at b_Mo_bind 16 t_Mo_bind_16 := dk_go 1 a_Mo_bind_15 rfl
theorem a_Mo_bind_19 : dk_at b_Mo_bind 19 t_Mo_bind_19 := dk_go 3 a_Mo_bind_16 rfl
theorem a_Mo_bind_20 : dk_at b_Mo_bind 20 t_Mo_bind_20 := dk_go 1 a_Mo_bind_19 rfl
theorem a_Mo_bind_23 : dk_at b_Mo_bind 23 t_Mo_bind_23 := dk_go 3 a_Mo_bind_20 rfl
theorem a_Mo_bind_25 : dk_at b_Mo_bind 25 t_Mo_bind_25 := dk_go 2 a_Mo_bind_23 rfl
theorem a_Mo_bind_26 : dk_at b_Mo_bind 26 t_Mo_bind_26 := dk_go 1 a_Mo_bind_25 rfl
theorem a_Mo_bind_29 : dk_at b_Mo_bind 29 t_Mo_bind_29 := dk_go 3 a_Mo_bind_26 rfl
theorem a_Mo_bind_31 : dk_at b_Mo_bind 31 t_Mo_bind_31 := dk_go 2 a_Mo_bind_29 rfl
theorem a_Mo_bind_33 : dk_at b_Mo_bind 33 t_Mo_bind_33 := dk_go 2 a_Mo_bind_31 rfl
theorem a_Mo_bind_36 : dk_at b_Mo_bind 36 t_Mo_bind_36 := dk_go 3 a_Mo_bind_33 rfl
theorem a_Mo_bind_37 : dk_at b_Mo_bind 37 t_Mo_bind_37 := dk_go 1 a_Mo_bind_36 rfl
theorem a_Mo_bind_38 : dk_at b_Mo_bind 38 t_Mo_bind_38 := dk_go 1 a_Mo_bind_37 rfl
theorem a_Mo_bind_41 : dk_at b_Mo_bind 41 t_Mo_bind_41 := dk_go 3 a_Mo_bind_38 rfl
theorem a_Mo_bind_43 : dk_at b_Mo_bind 43 t_Mo_bind_43 := dk_go 2 a_Mo_bind_41 rfl
theorem a_Mo_bind_46 : dk_at b_Mo_bind 46 t_Mo_bind_46 := dk_go 3 a_Mo_bind_43 rfl
theorem a_Mo_bind_48 : dk_at b_Mo_bind 48 t_Mo_bind_48 := dk_go 2 a_Mo_bind_46 rfl
theorem a_Mo_bind_50 : dk_at b_Mo_bind 50 t_Mo_bind_50 := dk_go 2 a_Mo_bind_48 rfl
theorem a_Mo_bind_53 : dk_at b_Mo_bind 53 t_Mo_bind_53 := dk_go 3 a_Mo_bind_50 rfl
theorem a_Mo_bind_54 : dk_at b_Mo_bind 54 t_Mo_bind_54 := dk_go 1 a_Mo_bind_53 rfl
theorem a_Mo_bind_55 : dk_at b_Mo_bind 55 t_Mo_bind_55 := dk_go 1 a_Mo_bind_54 rfl
theorem a_Mo_bind_58 : dk_at b_Mo_bind 58 t_Mo_bind_58 := dk_go 3 a_Mo_bind_55 rfl
theorem a_Mo_bind_60 : dk_at b_Mo_bind 60 t_Mo_bind_60 := dk_go 2 a_Mo_bind_58 rfl
theorem a_Mo_bind_61 : dk_at b_Mo_bind 61 t_Mo_bind_61 := dk_go 1 a_Mo_bind_60 rfl
theorem a_Mo_bind_64 : dk_at b_Mo_bind 64 t_Mo_bind_64 := dk_go 3 a_Mo_bind_61 rfl
theorem a_Mo_bind_66 : dk_at b_Mo_bind 66 t_Mo_bind_66 := dk_go 2 a_Mo_bind_64 rfl
theorem a_Mo_bind_67 : dk_at b_Mo_bind 67 t_Mo_bind_67 := dk_go 1 a_Mo_bind_66 rfl
theorem a_Mo_bind_70 : dk_at b_Mo_bind 70 t_Mo_bind_70 := dk_go 3 a_Mo_bind_67 rfl
theorem a_Mo_bind_71 : dk_at b_Mo_bind 71 t_Mo_bind_71 := dk_go 1 a_Mo_bind_70 rfl
theorem a_Mo_bind_72 : dk_at b_Mo_bind 72 t_Mo_bind_72 := dk_go 1 a_Mo_bind_71 rfl
theorem a_Mo_bind_73 : dk_at b_Mo_bind 73 t_Mo_bind_73 := dk_go 1 a_Mo_bind_72 rfl
theorem a_Mo_bind_76 : dk_at b_Mo_bind 76 t_Mo_bind_76 := dk_go 3 a_Mo_bind_73 rfl
theorem a_Mo_bind_77 : dk_at b_Mo_bind 77 t_Mo_bind_77 := dk_go 1 a_Mo_bind_76 rfl
theorem a_Mo_bind_78 : dk_at b_Mo_bind 78 t_Mo_bind_78 := dk_go 1 a_Mo_bind_77 rfl
theorem a_Mo_bind_79 : dk_at b_Mo_bind 79 t_Mo_bind_79 := dk_go 1 a_Mo_bind_78 rfl
theorem a_Mo_bind_80 : dk_at b_Mo_bind 80 t_Mo_bind_80 := dk_go 1 a_Mo_bind_79 rfl
theorem a_Mo_bind_83 : dk_at b_Mo_bind 83 t_Mo_bind_83 := dk_go 3 a_Mo_bind_80 rfl
theorem a_Mo_bind_84 : dk_at b_Mo_bind 84 t_Mo_bind_84 := dk_go 1 a_Mo_bind_83 rfl
theorem a_Mo_bind_85 : dk_at b_Mo_bind 85 t_Mo_bind_85 := dk_go 1 a_Mo_bind_84 rfl
theorem a_Mo_bind_86 : dk_at b_Mo_bind 86 t_Mo_bind_86 := dk_go 1 a_Mo_bind_85 rfl
theorem a_Mo_bind_87 : dk_at b_Mo_bind 87 t_Mo_bind_87 := dk_go 1 a_Mo_bind_86 rfl
theorem a_Mo_bind_90 : dk_at b_Mo_bind 90 t_Mo_bind_90 := dk_go 3 a_Mo_bind_87 rfl
theorem a_Mo_bind_91 : dk_at b_Mo_bind 91 t_Mo_bind_91 := dk_go 1 a_Mo_bind_90 rfl
theorem a_Mo_bind_93 : dk_at b_Mo_bind 93 t_Mo_bind_93 := dk_go 2 a_Mo_bind_91 rfl
theorem a_Mo_bind_94 : dk_at b_Mo_bind 94 t_Mo_bind_94 := dk_go 1 a_Mo_bind_93 rfl
theorem a_Mo_bind_95 : dk_at b_Mo_bind 95 t_Mo_bind_95 := dk_go 1 a_Mo_bind_94 rfl
theorem a_Mo_bind_98 : dk_at b_Mo_bind 98 t_Mo_bind_98 := dk_go 3 a_Mo_bind_95 rfl
theorem a_Mo_bind_99 : dk_at b_Mo_bind 99 t_Mo_bind_99 := dk_go 1 a_Mo_bind_98 rfl
theorem a_Mo_bind_101 : dk_at b_Mo_bind 101 t_Mo_bind_101 := dk_go 2 a_Mo_bind_99 rfl
theorem a_Mo_bind_102 : dk_at b_Mo_bind 102 t_Mo_bind_102 := dk_go 1 a_Mo_bind_101 rfl
theorem a_Mo_bind_103 : dk_at b_Mo_bind 103 t_Mo_bind_103 := dk_go 1 a_Mo_bind_102 rfl
theorem d_Mo_bind_0 : decode b_Mo_bind 0 = .ok (.iload_n 1, 1) := dk_0 a_Mo_bind_0 (dko_27 _)
theorem d_Mo_bind_1 : decode b_Mo_bind 1 = .ok (.ifCond .lt 69, 3) := dk_S2 a_Mo_bind_1 (dko_155 _) (by decide +kernel)
theorem d_Mo_bind_4 : decode b_Mo_bind 4 = .ok (.iload_n 1, 1) := dk_0 a_Mo_bind_4 (dko_27 _)
theorem d_Mo_bind_5 : decode b_Mo_bind 5 = .ok (.bipush 31, 2) := dk_S1 a_Mo_bind_5 (dko_16 _) (by decide +kernel)
theorem d_Mo_bind_7 : decode b_Mo_bind 7 = .ok (.if_icmp .gt 63, 3) := dk_S2 a_Mo_bind_7 (dko_163 _) (by decide +kernel)
theorem d_Mo_bind_10 : decode b_Mo_bind 10 = .ok (.iload_n 2, 1) := dk_0 a_Mo_bind_10 (dko_28 _)
theorem d_Mo_bind_11 : decode b_Mo_bind 11 = .ok (.ifCond .lt 59, 3) := dk_S2 a_Mo_bind_11 (dko_155 _) (by decide +kernel)
theorem d_Mo_bind_14 : decode b_Mo_bind 14 = .ok (.iload_n 2, 1) := dk_0 a_Mo_bind_14 (dko_28 _)
theorem d_Mo_bind_15 : decode b_Mo_bind 15 = .ok (.iconst 4, 1) := dk_0 a_Mo_bind_15 (dko_7 _)
theorem d_Mo_bind_16 : decode b_Mo_bind 16 = .ok (.if_icmp .gt 54, 3) := dk_S2 a_Mo_bind_16 (dko_163 _) (by decide +kernel)
theorem d_Mo_bind_19 : decode b_Mo_bind 19 = .ok (.iload_n 2, 1) := dk_0 a_Mo_bind_19 (dko_28 _)
theorem d_Mo_bind_20 : decode b_Mo_bind 20 = .ok (.ifCond .ne 16, 3) := dk_S2 a_Mo_bind_20 (dko_154 _) (by decide +kernel)
theorem d_Mo_bind_23 : decode b_Mo_bind 23 = .ok (.iload 5, 2) := dk_U1 a_Mo_bind_23 (dko_21 _) rfl
theorem d_Mo_bind_25 : decode b_Mo_bind 25 = .ok (.iconst 1, 1) := dk_0 a_Mo_bind_25 (dko_4 _)
theorem d_Mo_bind_26 : decode b_Mo_bind 26 = .ok (.if_icmp .lt 44, 3) := dk_S2 a_Mo_bind_26 (dko_161 _) (by decide +kernel)
theorem d_Mo_bind_29 : decode b_Mo_bind 29 = .ok (.iload 5, 2) := dk_U1 a_Mo_bind_29 (dko_21 _) rfl
theorem d_Mo_bind_31 : decode b_Mo_bind 31 = .ok (.bipush 100, 2) := dk_S1 a_Mo_bind_31 (dko_16 _) (by decide +kernel)
theorem d_Mo_bind_33 : decode b_Mo_bind 33 = .ok (.if_icmp .gt 37, 3) := dk_S2 a_Mo_bind_33 (dko_163 _) (by decide +kernel)
theorem d_Mo_bind_36 : decode b_Mo_bind 36 = .ok (.iload_n 2, 1) := dk_0 a_Mo_bind_36 (dko_28 _)
theorem d_Mo_bind_37 : decode b_Mo_bind 37 = .ok (.iconst 2, 1) := dk_0 a_Mo_bind_37 (dko_5 _)
theorem d_Mo_bind_38 : decode b_Mo_bind 38 = .ok (.if_icmp .ne 15, 3) := dk_S2 a_Mo_bind_38 (dko_160 _) (by decide +kernel)
theorem d_Mo_bind_41 : decode b_Mo_bind 41 = .ok (.iload 4, 2) := dk_U1 a_Mo_bind_41 (dko_21 _) rfl
theorem d_Mo_bind_43 : decode b_Mo_bind 43 = .ok (.ifCond .lt 27, 3) := dk_S2 a_Mo_bind_43 (dko_155 _) (by decide +kernel)
theorem d_Mo_bind_46 : decode b_Mo_bind 46 = .ok (.iload 4, 2) := dk_U1 a_Mo_bind_46 (dko_21 _) rfl
theorem d_Mo_bind_48 : decode b_Mo_bind 48 = .ok (.bipush 9, 2) := dk_S1 a_Mo_bind_48 (dko_16 _) (by decide +kernel)
theorem d_Mo_bind_50 : decode b_Mo_bind 50 = .ok (.if_icmp .gt 20, 3) := dk_S2 a_Mo_bind_50 (dko_163 _) (by decide +kernel)
theorem d_Mo_bind_53 : decode b_Mo_bind 53 = .ok (.iload_n 2, 1) := dk_0 a_Mo_bind_53 (dko_28 _)
theorem d_Mo_bind_54 : decode b_Mo_bind 54 = .ok (.iconst 3, 1) := dk_0 a_Mo_bind_54 (dko_6 _)
theorem d_Mo_bind_55 : decode b_Mo_bind 55 = .ok (.if_icmp .ne 17, 3) := dk_S2 a_Mo_bind_55 (dko_160 _) (by decide +kernel)
theorem d_Mo_bind_58 : decode b_Mo_bind 58 = .ok (.iload 4, 2) := dk_U1 a_Mo_bind_58 (dko_21 _) rfl
theorem d_Mo_bind_60 : decode b_Mo_bind 60 = .ok (.iconst 1, 1) := dk_0 a_Mo_bind_60 (dko_4 _)
theorem d_Mo_bind_61 : decode b_Mo_bind 61 = .ok (.if_icmp .lt 9, 3) := dk_S2 a_Mo_bind_61 (dko_161 _) (by decide +kernel)
theorem d_Mo_bind_64 : decode b_Mo_bind 64 = .ok (.iload 4, 2) := dk_U1 a_Mo_bind_64 (dko_21 _) rfl
theorem d_Mo_bind_66 : decode b_Mo_bind 66 = .ok (.iconst 5, 1) := dk_0 a_Mo_bind_66 (dko_8 _)
theorem d_Mo_bind_67 : decode b_Mo_bind 67 = .ok (.if_icmp .le 5, 3) := dk_S2 a_Mo_bind_67 (dko_164 _) (by decide +kernel)
theorem d_Mo_bind_70 : decode b_Mo_bind 70 = .ok (.iconst 0, 1) := dk_0 a_Mo_bind_70 (dko_3 _)
theorem d_Mo_bind_71 : decode b_Mo_bind 71 = .ok (.ireturn, 1) := dk_0 a_Mo_bind_71 (dko_172 _)
theorem d_Mo_bind_72 : decode b_Mo_bind 72 = .ok (.aload_n 0, 1) := dk_0 a_Mo_bind_72 (dko_42 _)
theorem d_Mo_bind_73 : decode b_Mo_bind 73 = .ok (.getfield 132, 3) := dk_U2 a_Mo_bind_73 (dko_180 _) rfl
theorem d_Mo_bind_76 : decode b_Mo_bind 76 = .ok (.iload_n 1, 1) := dk_0 a_Mo_bind_76 (dko_27 _)
theorem d_Mo_bind_77 : decode b_Mo_bind 77 = .ok (.iload_n 2, 1) := dk_0 a_Mo_bind_77 (dko_28 _)
theorem d_Mo_bind_78 : decode b_Mo_bind 78 = .ok (.iastore, 1) := dk_0 a_Mo_bind_78 (dko_79 _)
theorem d_Mo_bind_79 : decode b_Mo_bind 79 = .ok (.aload_n 0, 1) := dk_0 a_Mo_bind_79 (dko_42 _)
theorem d_Mo_bind_80 : decode b_Mo_bind 80 = .ok (.getfield 135, 3) := dk_U2 a_Mo_bind_80 (dko_180 _) rfl
theorem d_Mo_bind_83 : decode b_Mo_bind 83 = .ok (.iload_n 1, 1) := dk_0 a_Mo_bind_83 (dko_27 _)
theorem d_Mo_bind_84 : decode b_Mo_bind 84 = .ok (.iload_n 3, 1) := dk_0 a_Mo_bind_84 (dko_29 _)
theorem d_Mo_bind_85 : decode b_Mo_bind 85 = .ok (.iastore, 1) := dk_0 a_Mo_bind_85 (dko_79 _)
theorem d_Mo_bind_86 : decode b_Mo_bind 86 = .ok (.aload_n 0, 1) := dk_0 a_Mo_bind_86 (dko_42 _)
theorem d_Mo_bind_87 : decode b_Mo_bind 87 = .ok (.getfield 138, 3) := dk_U2 a_Mo_bind_87 (dko_180 _) rfl
theorem d_Mo_bind_90 : decode b_Mo_bind 90 = .ok (.iload_n 1, 1) := dk_0 a_Mo_bind_90 (dko_27 _)
theorem d_Mo_bind_91 : decode b_Mo_bind 91 = .ok (.iload 4, 2) := dk_U1 a_Mo_bind_91 (dko_21 _) rfl
theorem d_Mo_bind_93 : decode b_Mo_bind 93 = .ok (.iastore, 1) := dk_0 a_Mo_bind_93 (dko_79 _)
theorem d_Mo_bind_94 : decode b_Mo_bind 94 = .ok (.aload_n 0, 1) := dk_0 a_Mo_bind_94 (dko_42 _)
theorem d_Mo_bind_95 : decode b_Mo_bind 95 = .ok (.getfield 141, 3) := dk_U2 a_Mo_bind_95 (dko_180 _) rfl
theorem d_Mo_bind_98 : decode b_Mo_bind 98 = .ok (.iload_n 1, 1) := dk_0 a_Mo_bind_98 (dko_27 _)
theorem d_Mo_bind_99 : decode b_Mo_bind 99 = .ok (.iload 5, 2) := dk_U1 a_Mo_bind_99 (dko_21 _) rfl
theorem d_Mo_bind_101 : decode b_Mo_bind 101 = .ok (.iastore, 1) := dk_0 a_Mo_bind_101 (dko_79 _)
theorem d_Mo_bind_102 : decode b_Mo_bind 102 = .ok (.iconst 1, 1) := dk_0 a_Mo_bind_102 (dko_4 _)
theorem d_Mo_bind_103 : decode b_Mo_bind 103 = .ok (.ireturn, 1) := dk_0 a_Mo_bind_103 (dko_172 _)
def fn_Mo_bind (ka : Int32) (wh : Int32) (xx : Int32) (yy : Int32) (zz : Int32) : Int32 := (if ka < 0 then 0 else (if 31 < ka then 0 else (if wh < 0 then 0 else (if 4 < wh then 0 else (if wh = 0 then (if zz < 1 then 0 else (if 100 < zz then 0 else (if wh = 2 then (if yy < 0 then 0 else (if 9 < yy then 0 else (if wh = 3 then (if yy < 1 then 0 else (if yy ≤ 5 then 1 else 0)) else 1))) else (if wh = 3 then (if yy < 1 then 0 else (if yy ≤ 5 then 1 else 0)) else 1)))) else (if wh = 2 then (if yy < 0 then 0 else (if 9 < yy then 0 else (if wh = 3 then (if yy < 1 then 0 else (if yy ≤ 5 then 1 else 0)) else 1))) else (if wh = 3 then (if yy < 1 then 0 else (if yy ≤ 5 then 1 else 0)) else 1)))))))
set_option maxHeartbeats 4000000 in
set_option maxRecDepth 100000 in
theorem c_Mo_bind (l : Launch) (dC : Nat → ClassId) (dI : Nat → Nat → Nat) (cI cB cZ cJ : ClassId) (ka : Int32) (wh : Int32) (xx : Int32) (yy : Int32) (zz : Int32) (oM : Nat) (am_does : Nat) (am_xs : Nat) (am_ys : Nat) (am_zs : Nat) (fm : List Value) (hm_does : fx fm 49 (.ref am_does)) (hm_xs : fx fm 50 (.ref am_xs)) (hm_ys : fx fm 51 (.ref am_ys)) (hm_zs : fx fm 52 (.ref am_zs)) (sz : Nat) : Met l y_Mo_bind w_Mo_bind ({ frames := 0, cells := 0, slots := 0, locals := 0 }) (va_Pc [.ref oM, .int ka, .int wh, .int xx, .int yy, .int zz] (PW dC dI cI cB cZ cJ [(oM, .inr (12, fm)), (am_does, .inl (cI, 32, .inl ((fun _ => (-1))))), (am_xs, .inl (cI, 32, .inl (fun _ => 0))), (am_ys, .inl (cI, 32, .inl (fun _ => 0))), (am_zs, .inl (cI, 32, .inl (fun _ => 0)))] sz)) (va_Qi (fun (r : Int32) (_ : Unit) => r = fn_Mo_bind ka wh xx yy zz) (fun _ _ => True) (va_A [(oM, .inr (12, fm)), (am_does, .inl (cI, 32, .inl ((fun _ => (-1))))), (am_xs, .inl (cI, 32, .inl (fun _ => 0))), (am_ys, .inl (cI, 32, .inl (fun _ => 0))), (am_zs, .inl (cI, 32, .inl (fun _ => 0)))] sz)) 0 0 (va_A [(oM, .inr (12, fm)), (am_does, .inl (cI, 32, .inl ((fun _ => (-1))))), (am_xs, .inl (cI, 32, .inl (fun _ => 0))), (am_ys, .inl (cI, 32, .inl (fun _ => 0))), (am_zs, .inl (cI, 32, .inl (fun _ => 0)))] sz) := by
  refine Met.ofW (cc := b_Mo_bind) (maxL := 6) (ret := (some .boolean)) (by decide) rfl ?_
  intro p e s m args below meth c s₁ B hml hv
  obtain ⟨rfl, hsz, hP, hK, hD⟩ := hv
  have hx := B.exec
  have hb := B.bytes
  have hr := B.returns
  have hts := atoms_spec (ws := w_Mo_bind) B.pre
  have hown : s.vm.findClass R_Mo = some m.cls := findClass_of_methodNamed B.named
  have hlocks := B.notSynchronized
  subst hsz
  have hD := hD.self (sz := s.heap.size)
  generalize hAe : va_A [(oM, .inr (12, fm)), (am_does, .inl (cI, 32, .inl ((fun _ => (-1))))), (am_xs, .inl (cI, 32, .inl (fun _ => 0))), (am_ys, .inl (cI, 32, .inl (fun _ => 0))), (am_zs, .inl (cI, 32, .inl (fun _ => 0)))] s.heap.size = A at hD ⊢
  have hA : ∀ q : Nat, s.heap.size ≤ q → A q := fun q h => by rw [← hAe]; exact Or.inr h
  have hS : va_S A s.heap s.heap [] := va_S.rf
  have hP : va_P (dC, dI) classes [(oM, .inr (12, fm)), (am_does, .inl (cI, 32, .inl ((fun _ => (-1))))), (am_xs, .inl (cI, 32, .inl (fun _ => 0))), (am_ys, .inl (cI, 32, .inl (fun _ => 0))), (am_zs, .inl (cI, 32, .inl (fun _ => 0)))] s.heap := hP
  have hl := lv_entry ([.ref oM, .int ka, .int wh, .int xx, .int yy, .int zz]) (n := 6) (Nat.le_of_ble_eq_true rfl)
  rw [lg_entry_eq]
  generalize (lg_sl ([.ref oM, .int ka, .int wh, .int xx, .int yy, .int zz]) ++ List.replicate (6 - (lg_sl ([.ref oM, .int ka, .int wh, .int xx, .int yy, .int zz])).length) Slot.unset).toArray = ls at hl ⊢
  have hl : lv_has ls 6 [(0, .ref oM), (1, .int ka), (2, .int wh), (3, .int xx), (4, .int yy), (5, .int zz)] := hl
  refine lv_iload_n hx hb d_Mo_bind_0 rfl (lv_at hl 1 rfl) ?_
  refine lv_if_lt (tgt := 70) hx hb d_Mo_bind_1 (by decide) (fun h1 => ?_) (fun h1 => ?_)
  · refine lv_iconst (v := 0) hx hb d_Mo_bind_70 (by decide) ?_
    exact W.zret (v := 0) (ty := .boolean) hx hb hr (by decide) (fun t ht hW => ⟨⟨_, (), rfl, (by unfold fn_Mo_bind; rw [if_pos h1]), trivial⟩, hS.F ht⟩) hS.2.2 d_Mo_bind_71
  · refine lv_iload_n hx hb d_Mo_bind_4 rfl (lv_at hl 1 rfl) ?_
    refine lv_bipush (v := 31) hx hb d_Mo_bind_5 (by decide) ?_
    refine lv_icmp_gt (tgt := 70) hx hb d_Mo_bind_7 (by decide) (fun h7 => ?_) (fun h7 => ?_)
    · refine lv_iconst (v := 0) hx hb d_Mo_bind_70 (by decide) ?_
      exact W.zret (v := 0) (ty := .boolean) hx hb hr (by decide) (fun t ht hW => ⟨⟨_, (), rfl, (by unfold fn_Mo_bind; rw [if_neg h1, if_pos h7]), trivial⟩, hS.F ht⟩) hS.2.2 d_Mo_bind_71
    · refine lv_iload_n hx hb d_Mo_bind_10 rfl (lv_at hl 2 rfl) ?_
      refine lv_if_lt (tgt := 70) hx hb d_Mo_bind_11 (by decide) (fun h11 => ?_) (fun h11 => ?_)
      · refine lv_iconst (v := 0) hx hb d_Mo_bind_70 (by decide) ?_
        exact W.zret (v := 0) (ty := .boolean) hx hb hr (by decide) (fun t ht hW => ⟨⟨_, (), rfl, (by unfold fn_Mo_bind; rw [if_neg h1, if_neg h7, if_pos h11]), trivial⟩, hS.F ht⟩) hS.2.2 d_Mo_bind_71
      · refine lv_iload_n hx hb d_Mo_bind_14 rfl (lv_at hl 2 rfl) ?_
        refine lv_iconst (v := 4) hx hb d_Mo_bind_15 (by decide) ?_
        refine lv_icmp_gt (tgt := 70) hx hb d_Mo_bind_16 (by decide) (fun h16 => ?_) (fun h16 => ?_)
        · refine lv_iconst (v := 0) hx hb d_Mo_bind_70 (by decide) ?_
          exact W.zret (v := 0) (ty := .boolean) hx hb hr (by decide) (fun t ht hW => ⟨⟨_, (), rfl, (by unfold fn_Mo_bind; rw [if_neg h1, if_neg h7, if_neg h11, if_pos h16]), trivial⟩, hS.F ht⟩) hS.2.2 d_Mo_bind_71
        · refine lv_iload_n hx hb d_Mo_bind_19 rfl (lv_at hl 2 rfl) ?_
          refine lv_if_ne (tgt := 36) hx hb d_Mo_bind_20 (by decide) (fun h20 => ?_) (fun h20 => ?_)
          · refine lv_iload_n hx hb d_Mo_bind_36 rfl (lv_at hl 2 rfl) ?_
            refine lv_iconst (v := 2) hx hb d_Mo_bind_37 (by decide) ?_
            refine lv_icmp_ne (tgt := 53) hx hb d_Mo_bind_38 (by decide) (fun h38 => ?_) (fun h38 => ?_)
            · refine lv_iload_n hx hb d_Mo_bind_53 rfl (lv_at hl 2 rfl) ?_
              refine lv_iconst (v := 3) hx hb d_Mo_bind_54 (by decide) ?_
              refine lv_icmp_ne (tgt := 72) hx hb d_Mo_bind_55 (by decide) (fun h55 => ?_) (fun h55 => ?_)
              · refine lv_aload_n hx hb d_Mo_bind_72 rfl (lv_at hl 0 rfl) ?_
                refine va_get (D := (dC, dI)) (ci := 12) (v := .ref am_does) (C := R_Mo) (T := F_Mo) (N := 87) hx hb hts (fun w h => List.mem_cons_of_mem _ (in_Mo w h)) hown hK.1 hP 0 rfl rfl 49 (by decide) (hts _ (List.mem_cons_of_mem _ mw_1843)) (fun _ h9 => h9) hm_does d_Mo_bind_73 ?_
                refine lv_iload_n hx hb d_Mo_bind_76 rfl (lv_at hl 1 rfl) ?_
                refine lv_iload_n hx hb d_Mo_bind_77 rfl (lv_at hl 2 rfl) ?_
                refine va_iast hx hb hK.1 hP hD hS 1 0 rfl rfl (ir_in h1 h7 (by decide) (by decide)) d_Mo_bind_78 (fun H locs hP hD hS => ?_)
                have hP : va_P (dC, dI) classes [(oM, .inr (12, fm)), (am_does, .inl (cI, 32, .inl ((upd ((fun _ => (-1))) (ka : Int32).toNatClampNeg wh)))), (am_xs, .inl (cI, 32, .inl (fun _ => 0))), (am_ys, .inl (cI, 32, .inl (fun _ => 0))), (am_zs, .inl (cI, 32, .inl (fun _ => 0)))] H := hP
                have hD : va_D A [(oM, .inr (12, fm)), (am_does, .inl (cI, 32, .inl ((upd ((fun _ => (-1))) (ka : Int32).toNatClampNeg wh)))), (am_xs, .inl (cI, 32, .inl (fun _ => 0))), (am_ys, .inl (cI, 32, .inl (fun _ => 0))), (am_zs, .inl (cI, 32, .inl (fun _ => 0)))] := hD
                generalize (upd ((fun _ => (-1))) (ka : Int32).toNatClampNeg wh) = f78_8 at hP hD
                refine lv_aload_n hx hb d_Mo_bind_79 rfl (lv_at hl 0 rfl) ?_
                refine va_get (D := (dC, dI)) (ci := 12) (v := .ref am_xs) (C := R_Mo) (T := F_Mo) (N := 87) hx hb hts (fun w h => List.mem_cons_of_mem _ (in_Mo w h)) hown hK.1 hP 0 rfl rfl 50 (by decide) (hts _ (List.mem_cons_of_mem _ mw_1844)) (fun _ h9 => h9) hm_xs d_Mo_bind_80 ?_
                refine lv_iload_n hx hb d_Mo_bind_83 rfl (lv_at hl 1 rfl) ?_
                refine lv_iload_n hx hb d_Mo_bind_84 rfl (lv_at hl 3 rfl) ?_
                refine va_iast hx hb hK.1 hP hD hS 2 0 rfl rfl (ir_in h1 h7 (by decide) (by decide)) d_Mo_bind_85 (fun H locs hP hD hS => ?_)
                have hP : va_P (dC, dI) classes [(oM, .inr (12, fm)), (am_does, .inl (cI, 32, .inl f78_8)), (am_xs, .inl (cI, 32, .inl ((upd (fun _ => 0) (ka : Int32).toNatClampNeg xx)))), (am_ys, .inl (cI, 32, .inl (fun _ => 0))), (am_zs, .inl (cI, 32, .inl (fun _ => 0)))] H := hP
                have hD : va_D A [(oM, .inr (12, fm)), (am_does, .inl (cI, 32, .inl f78_8)), (am_xs, .inl (cI, 32, .inl ((upd (fun _ => 0) (ka : Int32).toNatClampNeg xx)))), (am_ys, .inl (cI, 32, .inl (fun _ => 0))), (am_zs, .inl (cI, 32, .inl (fun _ => 0)))] := hD
                generalize (upd (fun _ => 0) (ka : Int32).toNatClampNeg xx) = f85_9 at hP hD
                refine lv_aload_n hx hb d_Mo_bind_86 rfl (lv_at hl 0 rfl) ?_
                refine va_get (D := (dC, dI)) (ci := 12) (v := .ref am_ys) (C := R_Mo) (T := F_Mo) (N := 87) hx hb hts (fun w h => List.mem_cons_of_mem _ (in_Mo w h)) hown hK.1 hP 0 rfl rfl 51 (by decide) (hts _ (List.mem_cons_of_mem _ mw_1845)) (fun _ h9 => h9) hm_ys d_Mo_bind_87 ?_
                refine lv_iload_n hx hb d_Mo_bind_90 rfl (lv_at hl 1 rfl) ?_
                refine lv_iload hx hb d_Mo_bind_91 (lv_at hl 4 rfl) ?_
                refine va_iast hx hb hK.1 hP hD hS 3 0 rfl rfl (ir_in h1 h7 (by decide) (by decide)) d_Mo_bind_93 (fun H locs hP hD hS => ?_)
                have hP : va_P (dC, dI) classes [(oM, .inr (12, fm)), (am_does, .inl (cI, 32, .inl f78_8)), (am_xs, .inl (cI, 32, .inl f85_9)), (am_ys, .inl (cI, 32, .inl ((upd (fun _ => 0) (ka : Int32).toNatClampNeg yy)))), (am_zs, .inl (cI, 32, .inl (fun _ => 0)))] H := hP
                have hD : va_D A [(oM, .inr (12, fm)), (am_does, .inl (cI, 32, .inl f78_8)), (am_xs, .inl (cI, 32, .inl f85_9)), (am_ys, .inl (cI, 32, .inl ((upd (fun _ => 0) (ka : Int32).toNatClampNeg yy)))), (am_zs, .inl (cI, 32, .inl (fun _ => 0)))] := hD
                generalize (upd (fun _ => 0) (ka : Int32).toNatClampNeg yy) = f93_10 at hP hD
                refine lv_aload_n hx hb d_Mo_bind_94 rfl (lv_at hl 0 rfl) ?_
                refine va_get (D := (dC, dI)) (ci := 12) (v := .ref am_zs) (C := R_Mo) (T := F_Mo) (N := 87) hx hb hts (fun w h => List.mem_cons_of_mem _ (in_Mo w h)) hown hK.1 hP 0 rfl rfl 52 (by decide) (hts _ (List.mem_cons_of_mem _ mw_1846)) (fun _ h9 => h9) hm_zs d_Mo_bind_95 ?_
                refine lv_iload_n hx hb d_Mo_bind_98 rfl (lv_at hl 1 rfl) ?_
                refine lv_iload hx hb d_Mo_bind_99 (lv_at hl 5 rfl) ?_
                refine va_iast hx hb hK.1 hP hD hS 4 0 rfl rfl (ir_in h1 h7 (by decide) (by decide)) d_Mo_bind_101 (fun H locs hP hD hS => ?_)
                have hP : va_P (dC, dI) classes [(oM, .inr (12, fm)), (am_does, .inl (cI, 32, .inl f78_8)), (am_xs, .inl (cI, 32, .inl f85_9)), (am_ys, .inl (cI, 32, .inl f93_10)), (am_zs, .inl (cI, 32, .inl ((upd (fun _ => 0) (ka : Int32).toNatClampNeg zz))))] H := hP
                have hD : va_D A [(oM, .inr (12, fm)), (am_does, .inl (cI, 32, .inl f78_8)), (am_xs, .inl (cI, 32, .inl f85_9)), (am_ys, .inl (cI, 32, .inl f93_10)), (am_zs, .inl (cI, 32, .inl ((upd (fun _ => 0) (ka : Int32).toNatClampNeg zz))))] := hD
                generalize (upd (fun _ => 0) (ka : Int32).toNatClampNeg zz) = f101_11 at hP hD
                refine lv_iconst (v := 1) hx hb d_Mo_bind_102 (by decide) ?_
                exact W.zret (v := 1) (ty := .boolean) hx hb hr (by decide) (fun t ht hW => ⟨⟨_, (), rfl, (by unfold fn_Mo_bind; rw [if_neg h1, if_neg h7, if_neg h11, if_neg h16, if_neg h20, if_neg h38, if_neg h55]), trivial⟩, hS.F ht⟩) hS.2.2 d_Mo_bind_103
              · refine lv_iload hx hb d_Mo_bind_58 (lv_at hl 4 rfl) ?_
                refine lv_iconst (v := 1) hx hb d_Mo_bind_60 (by decide) ?_
                refine lv_icmp_lt (tgt := 70) hx hb d_Mo_bind_61 (by decide) (fun h61 => ?_) (fun h61 => ?_)
                · refine lv_iconst (v := 0) hx hb d_Mo_bind_70 (by decide) ?_
                  exact W.zret (v := 0) (ty := .boolean) hx hb hr (by decide) (fun t ht hW => ⟨⟨_, (), rfl, (by unfold fn_Mo_bind; rw [if_neg h1, if_neg h7, if_neg h11, if_neg h16, if_neg h20, if_neg h38, if_pos h55, if_pos h61]), trivial⟩, hS.F ht⟩) hS.2.2 d_Mo_bind_71
                · refine lv_iload hx hb d_Mo_bind_64 (lv_at hl 4 rfl) ?_
                  refine lv_iconst (v := 5) hx hb d_Mo_bind_66 (by decide) ?_
                  refine lv_icmp_le (tgt := 72) hx hb d_Mo_bind_67 (by decide) (fun h67 => ?_) (fun h67 => ?_)
                  · refine lv_aload_n hx hb d_Mo_bind_72 rfl (lv_at hl 0 rfl) ?_
                    refine va_get (D := (dC, dI)) (ci := 12) (v := .ref am_does) (C := R_Mo) (T := F_Mo) (N := 87) hx hb hts (fun w h => List.mem_cons_of_mem _ (in_Mo w h)) hown hK.1 hP 0 rfl rfl 49 (by decide) (hts _ (List.mem_cons_of_mem _ mw_1843)) (fun _ h9 => h9) hm_does d_Mo_bind_73 ?_
                    refine lv_iload_n hx hb d_Mo_bind_76 rfl (lv_at hl 1 rfl) ?_
                    refine lv_iload_n hx hb d_Mo_bind_77 rfl (lv_at hl 2 rfl) ?_
                    refine va_iast hx hb hK.1 hP hD hS 1 0 rfl rfl (ir_in h1 h7 (by decide) (by decide)) d_Mo_bind_78 (fun H locs hP hD hS => ?_)
                    have hP : va_P (dC, dI) classes [(oM, .inr (12, fm)), (am_does, .inl (cI, 32, .inl ((upd ((fun _ => (-1))) (ka : Int32).toNatClampNeg wh)))), (am_xs, .inl (cI, 32, .inl (fun _ => 0))), (am_ys, .inl (cI, 32, .inl (fun _ => 0))), (am_zs, .inl (cI, 32, .inl (fun _ => 0)))] H := hP
                    have hD : va_D A [(oM, .inr (12, fm)), (am_does, .inl (cI, 32, .inl ((upd ((fun _ => (-1))) (ka : Int32).toNatClampNeg wh)))), (am_xs, .inl (cI, 32, .inl (fun _ => 0))), (am_ys, .inl (cI, 32, .inl (fun _ => 0))), (am_zs, .inl (cI, 32, .inl (fun _ => 0)))] := hD
                    generalize (upd ((fun _ => (-1))) (ka : Int32).toNatClampNeg wh) = f78_10 at hP hD
                    refine lv_aload_n hx hb d_Mo_bind_79 rfl (lv_at hl 0 rfl) ?_
                    refine va_get (D := (dC, dI)) (ci := 12) (v := .ref am_xs) (C := R_Mo) (T := F_Mo) (N := 87) hx hb hts (fun w h => List.mem_cons_of_mem _ (in_Mo w h)) hown hK.1 hP 0 rfl rfl 50 (by decide) (hts _ (List.mem_cons_of_mem _ mw_1844)) (fun _ h9 => h9) hm_xs d_Mo_bind_80 ?_
                    refine lv_iload_n hx hb d_Mo_bind_83 rfl (lv_at hl 1 rfl) ?_
                    refine lv_iload_n hx hb d_Mo_bind_84 rfl (lv_at hl 3 rfl) ?_
                    refine va_iast hx hb hK.1 hP hD hS 2 0 rfl rfl (ir_in h1 h7 (by decide) (by decide)) d_Mo_bind_85 (fun H locs hP hD hS => ?_)
                    have hP : va_P (dC, dI) classes [(oM, .inr (12, fm)), (am_does, .inl (cI, 32, .inl f78_10)), (am_xs, .inl (cI, 32, .inl ((upd (fun _ => 0) (ka : Int32).toNatClampNeg xx)))), (am_ys, .inl (cI, 32, .inl (fun _ => 0))), (am_zs, .inl (cI, 32, .inl (fun _ => 0)))] H := hP
                    have hD : va_D A [(oM, .inr (12, fm)), (am_does, .inl (cI, 32, .inl f78_10)), (am_xs, .inl (cI, 32, .inl ((upd (fun _ => 0) (ka : Int32).toNatClampNeg xx)))), (am_ys, .inl (cI, 32, .inl (fun _ => 0))), (am_zs, .inl (cI, 32, .inl (fun _ => 0)))] := hD
                    generalize (upd (fun _ => 0) (ka : Int32).toNatClampNeg xx) = f85_11 at hP hD
                    refine lv_aload_n hx hb d_Mo_bind_86 rfl (lv_at hl 0 rfl) ?_
                    refine va_get (D := (dC, dI)) (ci := 12) (v := .ref am_ys) (C := R_Mo) (T := F_Mo) (N := 87) hx hb hts (fun w h => List.mem_cons_of_mem _ (in_Mo w h)) hown hK.1 hP 0 rfl rfl 51 (by decide) (hts _ (List.mem_cons_of_mem _ mw_1845)) (fun _ h9 => h9) hm_ys d_Mo_bind_87 ?_
                    refine lv_iload_n hx hb d_Mo_bind_90 rfl (lv_at hl 1 rfl) ?_
                    refine lv_iload hx hb d_Mo_bind_91 (lv_at hl 4 rfl) ?_
                    refine va_iast hx hb hK.1 hP hD hS 3 0 rfl rfl (ir_in h1 h7 (by decide) (by decide)) d_Mo_bind_93 (fun H locs hP hD hS => ?_)
                    have hP : va_P (dC, dI) classes [(oM, .inr (12, fm)), (am_does, .inl (cI, 32, .inl f78_10)), (am_xs, .inl (cI, 32, .inl f85_11)), (am_ys, .inl (cI, 32, .inl ((upd (fun _ => 0) (ka : Int32).toNatClampNeg yy)))), (am_zs, .inl (cI, 32, .inl (fun _ => 0)))] H := hP
                    have hD : va_D A [(oM, .inr (12, fm)), (am_does, .inl (cI, 32, .inl f78_10)), (am_xs, .inl (cI, 32, .inl f85_11)), (am_ys, .inl (cI, 32, .inl ((upd (fun _ => 0) (ka : Int32).toNatClampNeg yy)))), (am_zs, .inl (cI, 32, .inl (fun _ => 0)))] := hD
                    generalize (upd (fun _ => 0) (ka : Int32).toNatClampNeg yy) = f93_12 at hP hD
                    refine lv_aload_n hx hb d_Mo_bind_94 rfl (lv_at hl 0 rfl) ?_
                    refine va_get (D := (dC, dI)) (ci := 12) (v := .ref am_zs) (C := R_Mo) (T := F_Mo) (N := 87) hx hb hts (fun w h => List.mem_cons_of_mem _ (in_Mo w h)) hown hK.1 hP 0 rfl rfl 52 (by decide) (hts _ (List.mem_cons_of_mem _ mw_1846)) (fun _ h9 => h9) hm_zs d_Mo_bind_95 ?_
                    refine lv_iload_n hx hb d_Mo_bind_98 rfl (lv_at hl 1 rfl) ?_
                    refine lv_iload hx hb d_Mo_bind_99 (lv_at hl 5 rfl) ?_
                    refine va_iast hx hb hK.1 hP hD hS 4 0 rfl rfl (ir_in h1 h7 (by decide) (by decide)) d_Mo_bind_101 (fun H locs hP hD hS => ?_)
                    have hP : va_P (dC, dI) classes [(oM, .inr (12, fm)), (am_does, .inl (cI, 32, .inl f78_10)), (am_xs, .inl (cI, 32, .inl f85_11)), (am_ys, .inl (cI, 32, .inl f93_12)), (am_zs, .inl (cI, 32, .inl ((upd (fun _ => 0) (ka : Int32).toNatClampNeg zz))))] H := hP
                    have hD : va_D A [(oM, .inr (12, fm)), (am_does, .inl (cI, 32, .inl f78_10)), (am_xs, .inl (cI, 32, .inl f85_11)), (am_ys, .inl (cI, 32, .inl f93_12)), (am_zs, .inl (cI, 32, .inl ((upd (fun _ => 0) (ka : Int32).toNatClampNeg zz))))] := hD
                    generalize (upd (fun _ => 0) (ka : Int32).toNatClampNeg zz) = f101_13 at hP hD
                    refine lv_iconst (v := 1) hx hb d_Mo_bind_102 (by decide) ?_
                    exact W.zret (v := 1) (ty := .boolean) hx hb hr (by decide) (fun t ht hW => ⟨⟨_, (), rfl, (by unfold fn_Mo_bind; rw [if_neg h1, if_neg h7, if_neg h11, if_neg h16, if_neg h20, if_neg h38, if_pos h55, if_neg h61, if_pos h67]), trivial⟩, hS.F ht⟩) hS.2.2 d_Mo_bind_103
                  · refine lv_iconst (v := 0) hx hb d_Mo_bind_70 (by decide) ?_
                    exact W.zret (v := 0) (ty := .boolean) hx hb hr (by decide) (fun t ht hW => ⟨⟨_, (), rfl, (by unfold fn_Mo_bind; rw [if_neg h1, if_neg h7, if_neg h11, if_neg h16, if_neg h20, if_neg h38, if_pos h55, if_neg h61, if_neg h67]), trivial⟩, hS.F ht⟩) hS.2.2 d_Mo_bind_71
            · refine lv_iload hx hb d_Mo_bind_41 (lv_at hl 4 rfl) ?_
              refine lv_if_lt (tgt := 70) hx hb d_Mo_bind_43 (by decide) (fun h43 => ?_) (fun h43 => ?_)
              · refine lv_iconst (v := 0) hx hb d_Mo_bind_70 (by decide) ?_
                exact W.zret (v := 0) (ty := .boolean) hx hb hr (by decide) (fun t ht hW => ⟨⟨_, (), rfl, (by unfold fn_Mo_bind; rw [if_neg h1, if_neg h7, if_neg h11, if_neg h16, if_neg h20, if_pos h38, if_pos h43]), trivial⟩, hS.F ht⟩) hS.2.2 d_Mo_bind_71
              · refine lv_iload hx hb d_Mo_bind_46 (lv_at hl 4 rfl) ?_
                refine lv_bipush (v := 9) hx hb d_Mo_bind_48 (by decide) ?_
                refine lv_icmp_gt (tgt := 70) hx hb d_Mo_bind_50 (by decide) (fun h50 => ?_) (fun h50 => ?_)
                · refine lv_iconst (v := 0) hx hb d_Mo_bind_70 (by decide) ?_
                  exact W.zret (v := 0) (ty := .boolean) hx hb hr (by decide) (fun t ht hW => ⟨⟨_, (), rfl, (by unfold fn_Mo_bind; rw [if_neg h1, if_neg h7, if_neg h11, if_neg h16, if_neg h20, if_pos h38, if_neg h43, if_pos h50]), trivial⟩, hS.F ht⟩) hS.2.2 d_Mo_bind_71
                · refine lv_iload_n hx hb d_Mo_bind_53 rfl (lv_at hl 2 rfl) ?_
                  refine lv_iconst (v := 3) hx hb d_Mo_bind_54 (by decide) ?_
                  refine lv_icmp_ne (tgt := 72) hx hb d_Mo_bind_55 (by decide) (fun h55 => ?_) (fun h55 => ?_)
                  · refine lv_aload_n hx hb d_Mo_bind_72 rfl (lv_at hl 0 rfl) ?_
                    refine va_get (D := (dC, dI)) (ci := 12) (v := .ref am_does) (C := R_Mo) (T := F_Mo) (N := 87) hx hb hts (fun w h => List.mem_cons_of_mem _ (in_Mo w h)) hown hK.1 hP 0 rfl rfl 49 (by decide) (hts _ (List.mem_cons_of_mem _ mw_1843)) (fun _ h9 => h9) hm_does d_Mo_bind_73 ?_
                    refine lv_iload_n hx hb d_Mo_bind_76 rfl (lv_at hl 1 rfl) ?_
                    refine lv_iload_n hx hb d_Mo_bind_77 rfl (lv_at hl 2 rfl) ?_
                    refine va_iast hx hb hK.1 hP hD hS 1 0 rfl rfl (ir_in h1 h7 (by decide) (by decide)) d_Mo_bind_78 (fun H locs hP hD hS => ?_)
                    have hP : va_P (dC, dI) classes [(oM, .inr (12, fm)), (am_does, .inl (cI, 32, .inl ((upd ((fun _ => (-1))) (ka : Int32).toNatClampNeg wh)))), (am_xs, .inl (cI, 32, .inl (fun _ => 0))), (am_ys, .inl (cI, 32, .inl (fun _ => 0))), (am_zs, .inl (cI, 32, .inl (fun _ => 0)))] H := hP
                    have hD : va_D A [(oM, .inr (12, fm)), (am_does, .inl (cI, 32, .inl ((upd ((fun _ => (-1))) (ka : Int32).toNatClampNeg wh)))), (am_xs, .inl (cI, 32, .inl (fun _ => 0))), (am_ys, .inl (cI, 32, .inl (fun _ => 0))), (am_zs, .inl (cI, 32, .inl (fun _ => 0)))] := hD
                    generalize (upd ((fun _ => (-1))) (ka : Int32).toNatClampNeg wh) = f78_10 at hP hD
                    refine lv_aload_n hx hb d_Mo_bind_79 rfl (lv_at hl 0 rfl) ?_
                    refine va_get (D := (dC, dI)) (ci := 12) (v := .ref am_xs) (C := R_Mo) (T := F_Mo) (N := 87) hx hb hts (fun w h => List.mem_cons_of_mem _ (in_Mo w h)) hown hK.1 hP 0 rfl rfl 50 (by decide) (hts _ (List.mem_cons_of_mem _ mw_1844)) (fun _ h9 => h9) hm_xs d_Mo_bind_80 ?_
                    refine lv_iload_n hx hb d_Mo_bind_83 rfl (lv_at hl 1 rfl) ?_
                    refine lv_iload_n hx hb d_Mo_bind_84 rfl (lv_at hl 3 rfl) ?_
                    refine va_iast hx hb hK.1 hP hD hS 2 0 rfl rfl (ir_in h1 h7 (by decide) (by decide)) d_Mo_bind_85 (fun H locs hP hD hS => ?_)
                    have hP : va_P (dC, dI) classes [(oM, .inr (12, fm)), (am_does, .inl (cI, 32, .inl f78_10)), (am_xs, .inl (cI, 32, .inl ((upd (fun _ => 0) (ka : Int32).toNatClampNeg xx)))), (am_ys, .inl (cI, 32, .inl (fun _ => 0))), (am_zs, .inl (cI, 32, .inl (fun _ => 0)))] H := hP
                    have hD : va_D A [(oM, .inr (12, fm)), (am_does, .inl (cI, 32, .inl f78_10)), (am_xs, .inl (cI, 32, .inl ((upd (fun _ => 0) (ka : Int32).toNatClampNeg xx)))), (am_ys, .inl (cI, 32, .inl (fun _ => 0))), (am_zs, .inl (cI, 32, .inl (fun _ => 0)))] := hD
                    generalize (upd (fun _ => 0) (ka : Int32).toNatClampNeg xx) = f85_11 at hP hD
                    refine lv_aload_n hx hb d_Mo_bind_86 rfl (lv_at hl 0 rfl) ?_
                    refine va_get (D := (dC, dI)) (ci := 12) (v := .ref am_ys) (C := R_Mo) (T := F_Mo) (N := 87) hx hb hts (fun w h => List.mem_cons_of_mem _ (in_Mo w h)) hown hK.1 hP 0 rfl rfl 51 (by decide) (hts _ (List.mem_cons_of_mem _ mw_1845)) (fun _ h9 => h9) hm_ys d_Mo_bind_87 ?_
                    refine lv_iload_n hx hb d_Mo_bind_90 rfl (lv_at hl 1 rfl) ?_
                    refine lv_iload hx hb d_Mo_bind_91 (lv_at hl 4 rfl) ?_
                    refine va_iast hx hb hK.1 hP hD hS 3 0 rfl rfl (ir_in h1 h7 (by decide) (by decide)) d_Mo_bind_93 (fun H locs hP hD hS => ?_)
                    have hP : va_P (dC, dI) classes [(oM, .inr (12, fm)), (am_does, .inl (cI, 32, .inl f78_10)), (am_xs, .inl (cI, 32, .inl f85_11)), (am_ys, .inl (cI, 32, .inl ((upd (fun _ => 0) (ka : Int32).toNatClampNeg yy)))), (am_zs, .inl (cI, 32, .inl (fun _ => 0)))] H := hP
                    have hD : va_D A [(oM, .inr (12, fm)), (am_does, .inl (cI, 32, .inl f78_10)), (am_xs, .inl (cI, 32, .inl f85_11)), (am_ys, .inl (cI, 32, .inl ((upd (fun _ => 0) (ka : Int32).toNatClampNeg yy)))), (am_zs, .inl (cI, 32, .inl (fun _ => 0)))] := hD
                    generalize (upd (fun _ => 0) (ka : Int32).toNatClampNeg yy) = f93_12 at hP hD
                    refine lv_aload_n hx hb d_Mo_bind_94 rfl (lv_at hl 0 rfl) ?_
                    refine va_get (D := (dC, dI)) (ci := 12) (v := .ref am_zs) (C := R_Mo) (T := F_Mo) (N := 87) hx hb hts (fun w h => List.mem_cons_of_mem _ (in_Mo w h)) hown hK.1 hP 0 rfl rfl 52 (by decide) (hts _ (List.mem_cons_of_mem _ mw_1846)) (fun _ h9 => h9) hm_zs d_Mo_bind_95 ?_
                    refine lv_iload_n hx hb d_Mo_bind_98 rfl (lv_at hl 1 rfl) ?_
                    refine lv_iload hx hb d_Mo_bind_99 (lv_at hl 5 rfl) ?_
                    refine va_iast hx hb hK.1 hP hD hS 4 0 rfl rfl (ir_in h1 h7 (by decide) (by decide)) d_Mo_bind_101 (fun H locs hP hD hS => ?_)
                    have hP : va_P (dC, dI) classes [(oM, .inr (12, fm)), (am_does, .inl (cI, 32, .inl f78_10)), (am_xs, .inl (cI, 32, .inl f85_11)), (am_ys, .inl (cI, 32, .inl f93_12)), (am_zs, .inl (cI, 32, .inl ((upd (fun _ => 0) (ka : Int32).toNatClampNeg zz))))] H := hP
                    have hD : va_D A [(oM, .inr (12, fm)), (am_does, .inl (cI, 32, .inl f78_10)), (am_xs, .inl (cI, 32, .inl f85_11)), (am_ys, .inl (cI, 32, .inl f93_12)), (am_zs, .inl (cI, 32, .inl ((upd (fun _ => 0) (ka : Int32).toNatClampNeg zz))))] := hD
                    generalize (upd (fun _ => 0) (ka : Int32).toNatClampNeg zz) = f101_13 at hP hD
                    refine lv_iconst (v := 1) hx hb d_Mo_bind_102 (by decide) ?_
                    exact W.zret (v := 1) (ty := .boolean) hx hb hr (by decide) (fun t ht hW => ⟨⟨_, (), rfl, (by unfold fn_Mo_bind; rw [if_neg h1, if_neg h7, if_neg h11, if_neg h16, if_neg h20, if_pos h38, if_neg h43, if_neg h50, if_neg h55]), trivial⟩, hS.F ht⟩) hS.2.2 d_Mo_bind_103
                  · refine lv_iload hx hb d_Mo_bind_58 (lv_at hl 4 rfl) ?_
                    refine lv_iconst (v := 1) hx hb d_Mo_bind_60 (by decide) ?_
                    refine lv_icmp_lt (tgt := 70) hx hb d_Mo_bind_61 (by decide) (fun h61 => ?_) (fun h61 => ?_)
                    · refine lv_iconst (v := 0) hx hb d_Mo_bind_70 (by decide) ?_
                      exact W.zret (v := 0) (ty := .boolean) hx hb hr (by decide) (fun t ht hW => ⟨⟨_, (), rfl, (by unfold fn_Mo_bind; rw [if_neg h1, if_neg h7, if_neg h11, if_neg h16, if_neg h20, if_pos h38, if_neg h43, if_neg h50, if_pos h55, if_pos h61]), trivial⟩, hS.F ht⟩) hS.2.2 d_Mo_bind_71
                    · refine lv_iload hx hb d_Mo_bind_64 (lv_at hl 4 rfl) ?_
                      refine lv_iconst (v := 5) hx hb d_Mo_bind_66 (by decide) ?_
                      refine lv_icmp_le (tgt := 72) hx hb d_Mo_bind_67 (by decide) (fun h67 => ?_) (fun h67 => ?_)
                      · refine lv_aload_n hx hb d_Mo_bind_72 rfl (lv_at hl 0 rfl) ?_
                        refine va_get (D := (dC, dI)) (ci := 12) (v := .ref am_does) (C := R_Mo) (T := F_Mo) (N := 87) hx hb hts (fun w h => List.mem_cons_of_mem _ (in_Mo w h)) hown hK.1 hP 0 rfl rfl 49 (by decide) (hts _ (List.mem_cons_of_mem _ mw_1843)) (fun _ h9 => h9) hm_does d_Mo_bind_73 ?_
                        refine lv_iload_n hx hb d_Mo_bind_76 rfl (lv_at hl 1 rfl) ?_
                        refine lv_iload_n hx hb d_Mo_bind_77 rfl (lv_at hl 2 rfl) ?_
                        refine va_iast hx hb hK.1 hP hD hS 1 0 rfl rfl (ir_in h1 h7 (by decide) (by decide)) d_Mo_bind_78 (fun H locs hP hD hS => ?_)
                        have hP : va_P (dC, dI) classes [(oM, .inr (12, fm)), (am_does, .inl (cI, 32, .inl ((upd ((fun _ => (-1))) (ka : Int32).toNatClampNeg wh)))), (am_xs, .inl (cI, 32, .inl (fun _ => 0))), (am_ys, .inl (cI, 32, .inl (fun _ => 0))), (am_zs, .inl (cI, 32, .inl (fun _ => 0)))] H := hP
                        have hD : va_D A [(oM, .inr (12, fm)), (am_does, .inl (cI, 32, .inl ((upd ((fun _ => (-1))) (ka : Int32).toNatClampNeg wh)))), (am_xs, .inl (cI, 32, .inl (fun _ => 0))), (am_ys, .inl (cI, 32, .inl (fun _ => 0))), (am_zs, .inl (cI, 32, .inl (fun _ => 0)))] := hD
                        generalize (upd ((fun _ => (-1))) (ka : Int32).toNatClampNeg wh) = f78_12 at hP hD
                        refine lv_aload_n hx hb d_Mo_bind_79 rfl (lv_at hl 0 rfl) ?_
                        refine va_get (D := (dC, dI)) (ci := 12) (v := .ref am_xs) (C := R_Mo) (T := F_Mo) (N := 87) hx hb hts (fun w h => List.mem_cons_of_mem _ (in_Mo w h)) hown hK.1 hP 0 rfl rfl 50 (by decide) (hts _ (List.mem_cons_of_mem _ mw_1844)) (fun _ h9 => h9) hm_xs d_Mo_bind_80 ?_
                        refine lv_iload_n hx hb d_Mo_bind_83 rfl (lv_at hl 1 rfl) ?_
                        refine lv_iload_n hx hb d_Mo_bind_84 rfl (lv_at hl 3 rfl) ?_
                        refine va_iast hx hb hK.1 hP hD hS 2 0 rfl rfl (ir_in h1 h7 (by decide) (by decide)) d_Mo_bind_85 (fun H locs hP hD hS => ?_)
                        have hP : va_P (dC, dI) classes [(oM, .inr (12, fm)), (am_does, .inl (cI, 32, .inl f78_12)), (am_xs, .inl (cI, 32, .inl ((upd (fun _ => 0) (ka : Int32).toNatClampNeg xx)))), (am_ys, .inl (cI, 32, .inl (fun _ => 0))), (am_zs, .inl (cI, 32, .inl (fun _ => 0)))] H := hP
                        have hD : va_D A [(oM, .inr (12, fm)), (am_does, .inl (cI, 32, .inl f78_12)), (am_xs, .inl (cI, 32, .inl ((upd (fun _ => 0) (ka : Int32).toNatClampNeg xx)))), (am_ys, .inl (cI, 32, .inl (fun _ => 0))), (am_zs, .inl (cI, 32, .inl (fun _ => 0)))] := hD
                        generalize (upd (fun _ => 0) (ka : Int32).toNatClampNeg xx) = f85_13 at hP hD
                        refine lv_aload_n hx hb d_Mo_bind_86 rfl (lv_at hl 0 rfl) ?_
                        refine va_get (D := (dC, dI)) (ci := 12) (v := .ref am_ys) (C := R_Mo) (T := F_Mo) (N := 87) hx hb hts (fun w h => List.mem_cons_of_mem _ (in_Mo w h)) hown hK.1 hP 0 rfl rfl 51 (by decide) (hts _ (List.mem_cons_of_mem _ mw_1845)) (fun _ h9 => h9) hm_ys d_Mo_bind_87 ?_
                        refine lv_iload_n hx hb d_Mo_bind_90 rfl (lv_at hl 1 rfl) ?_
                        refine lv_iload hx hb d_Mo_bind_91 (lv_at hl 4 rfl) ?_
                        refine va_iast hx hb hK.1 hP hD hS 3 0 rfl rfl (ir_in h1 h7 (by decide) (by decide)) d_Mo_bind_93 (fun H locs hP hD hS => ?_)
                        have hP : va_P (dC, dI) classes [(oM, .inr (12, fm)), (am_does, .inl (cI, 32, .inl f78_12)), (am_xs, .inl (cI, 32, .inl f85_13)), (am_ys, .inl (cI, 32, .inl ((upd (fun _ => 0) (ka : Int32).toNatClampNeg yy)))), (am_zs, .inl (cI, 32, .inl (fun _ => 0)))] H := hP
                        have hD : va_D A [(oM, .inr (12, fm)), (am_does, .inl (cI, 32, .inl f78_12)), (am_xs, .inl (cI, 32, .inl f85_13)), (am_ys, .inl (cI, 32, .inl ((upd (fun _ => 0) (ka : Int32).toNatClampNeg yy)))), (am_zs, .inl (cI, 32, .inl (fun _ => 0)))] := hD
                        generalize (upd (fun _ => 0) (ka : Int32).toNatClampNeg yy) = f93_14 at hP hD
                        refine lv_aload_n hx hb d_Mo_bind_94 rfl (lv_at hl 0 rfl) ?_
                        refine va_get (D := (dC, dI)) (ci := 12) (v := .ref am_zs) (C := R_Mo) (T := F_Mo) (N := 87) hx hb hts (fun w h => List.mem_cons_of_mem _ (in_Mo w h)) hown hK.1 hP 0 rfl rfl 52 (by decide) (hts _ (List.mem_cons_of_mem _ mw_1846)) (fun _ h9 => h9) hm_zs d_Mo_bind_95 ?_
                        refine lv_iload_n hx hb d_Mo_bind_98 rfl (lv_at hl 1 rfl) ?_
                        refine lv_iload hx hb d_Mo_bind_99 (lv_at hl 5 rfl) ?_
                        refine va_iast hx hb hK.1 hP hD hS 4 0 rfl rfl (ir_in h1 h7 (by decide) (by decide)) d_Mo_bind_101 (fun H locs hP hD hS => ?_)
                        have hP : va_P (dC, dI) classes [(oM, .inr (12, fm)), (am_does, .inl (cI, 32, .inl f78_12)), (am_xs, .inl (cI, 32, .inl f85_13)), (am_ys, .inl (cI, 32, .inl f93_14)), (am_zs, .inl (cI, 32, .inl ((upd (fun _ => 0) (ka : Int32).toNatClampNeg zz))))] H := hP
                        have hD : va_D A [(oM, .inr (12, fm)), (am_does, .inl (cI, 32, .inl f78_12)), (am_xs, .inl (cI, 32, .inl f85_13)), (am_ys, .inl (cI, 32, .inl f93_14)), (am_zs, .inl (cI, 32, .inl ((upd (fun _ => 0) (ka : Int32).toNatClampNeg zz))))] := hD
                        generalize (upd (fun _ => 0) (ka : Int32).toNatClampNeg zz) = f101_15 at hP hD
                        refine lv_iconst (v := 1) hx hb d_Mo_bind_102 (by decide) ?_
                        exact W.zret (v := 1) (ty := .boolean) hx hb hr (by decide) (fun t ht hW => ⟨⟨_, (), rfl, (by unfold fn_Mo_bind; rw [if_neg h1, if_neg h7, if_neg h11, if_neg h16, if_neg h20, if_pos h38, if_neg h43, if_neg h50, if_pos h55, if_neg h61, if_pos h67]), trivial⟩, hS.F ht⟩) hS.2.2 d_Mo_bind_103
                      · refine lv_iconst (v := 0) hx hb d_Mo_bind_70 (by decide) ?_
                        exact W.zret (v := 0) (ty := .boolean) hx hb hr (by decide) (fun t ht hW => ⟨⟨_, (), rfl, (by unfold fn_Mo_bind; rw [if_neg h1, if_neg h7, if_neg h11, if_neg h16, if_neg h20, if_pos h38, if_neg h43, if_neg h50, if_pos h55, if_neg h61, if_neg h67]), trivial⟩, hS.F ht⟩) hS.2.2 d_Mo_bind_71
          · refine lv_iload hx hb d_Mo_bind_23 (lv_at hl 5 rfl) ?_
            refine lv_iconst (v := 1) hx hb d_Mo_bind_25 (by decide) ?_
            refine lv_icmp_lt (tgt := 70) hx hb d_Mo_bind_26 (by decide) (fun h26 => ?_) (fun h26 => ?_)
            · refine lv_iconst (v := 0) hx hb d_Mo_bind_70 (by decide) ?_
              exact W.zret (v := 0) (ty := .boolean) hx hb hr (by decide) (fun t ht hW => ⟨⟨_, (), rfl, (by unfold fn_Mo_bind; rw [if_neg h1, if_neg h7, if_neg h11, if_neg h16, if_pos h20, if_pos h26]), trivial⟩, hS.F ht⟩) hS.2.2 d_Mo_bind_71
            · refine lv_iload hx hb d_Mo_bind_29 (lv_at hl 5 rfl) ?_
              refine lv_bipush (v := 100) hx hb d_Mo_bind_31 (by decide) ?_
              refine lv_icmp_gt (tgt := 70) hx hb d_Mo_bind_33 (by decide) (fun h33 => ?_) (fun h33 => ?_)
              · refine lv_iconst (v := 0) hx hb d_Mo_bind_70 (by decide) ?_
                exact W.zret (v := 0) (ty := .boolean) hx hb hr (by decide) (fun t ht hW => ⟨⟨_, (), rfl, (by unfold fn_Mo_bind; rw [if_neg h1, if_neg h7, if_neg h11, if_neg h16, if_pos h20, if_neg h26, if_pos h33]), trivial⟩, hS.F ht⟩) hS.2.2 d_Mo_bind_71
              · refine lv_iload_n hx hb d_Mo_bind_36 rfl (lv_at hl 2 rfl) ?_
                refine lv_iconst (v := 2) hx hb d_Mo_bind_37 (by decide) ?_
                refine lv_icmp_ne (tgt := 53) hx hb d_Mo_bind_38 (by decide) (fun h38 => ?_) (fun h38 => ?_)
                · refine lv_iload_n hx hb d_Mo_bind_53 rfl (lv_at hl 2 rfl) ?_
                  refine lv_iconst (v := 3) hx hb d_Mo_bind_54 (by decide) ?_
                  refine lv_icmp_ne (tgt := 72) hx hb d_Mo_bind_55 (by decide) (fun h55 => ?_) (fun h55 => ?_)
                  · refine lv_aload_n hx hb d_Mo_bind_72 rfl (lv_at hl 0 rfl) ?_
                    refine va_get (D := (dC, dI)) (ci := 12) (v := .ref am_does) (C := R_Mo) (T := F_Mo) (N := 87) hx hb hts (fun w h => List.mem_cons_of_mem _ (in_Mo w h)) hown hK.1 hP 0 rfl rfl 49 (by decide) (hts _ (List.mem_cons_of_mem _ mw_1843)) (fun _ h9 => h9) hm_does d_Mo_bind_73 ?_
                    refine lv_iload_n hx hb d_Mo_bind_76 rfl (lv_at hl 1 rfl) ?_
                    refine lv_iload_n hx hb d_Mo_bind_77 rfl (lv_at hl 2 rfl) ?_
                    refine va_iast hx hb hK.1 hP hD hS 1 0 rfl rfl (ir_in h1 h7 (by decide) (by decide)) d_Mo_bind_78 (fun H locs hP hD hS => ?_)
                    have hP : va_P (dC, dI) classes [(oM, .inr (12, fm)), (am_does, .inl (cI, 32, .inl ((upd ((fun _ => (-1))) (ka : Int32).toNatClampNeg wh)))), (am_xs, .inl (cI, 32, .inl (fun _ => 0))), (am_ys, .inl (cI, 32, .inl (fun _ => 0))), (am_zs, .inl (cI, 32, .inl (fun _ => 0)))] H := hP
                    have hD : va_D A [(oM, .inr (12, fm)), (am_does, .inl (cI, 32, .inl ((upd ((fun _ => (-1))) (ka : Int32).toNatClampNeg wh)))), (am_xs, .inl (cI, 32, .inl (fun _ => 0))), (am_ys, .inl (cI, 32, .inl (fun _ => 0))), (am_zs, .inl (cI, 32, .inl (fun _ => 0)))] := hD
                    generalize (upd ((fun _ => (-1))) (ka : Int32).toNatClampNeg wh) = f78_10 at hP hD
                    refine lv_aload_n hx hb d_Mo_bind_79 rfl (lv_at hl 0 rfl) ?_
                    refine va_get (D := (dC, dI)) (ci := 12) (v := .ref am_xs) (C := R_Mo) (T := F_Mo) (N := 87) hx hb hts (fun w h => List.mem_cons_of_mem _ (in_Mo w h)) hown hK.1 hP 0 rfl rfl 50 (by decide) (hts _ (List.mem_cons_of_mem _ mw_1844)) (fun _ h9 => h9) hm_xs d_Mo_bind_80 ?_
                    refine lv_iload_n hx hb d_Mo_bind_83 rfl (lv_at hl 1 rfl) ?_
                    refine lv_iload_n hx hb d_Mo_bind_84 rfl (lv_at hl 3 rfl) ?_
                    refine va_iast hx hb hK.1 hP hD hS 2 0 rfl rfl (ir_in h1 h7 (by decide) (by decide)) d_Mo_bind_85 (fun H locs hP hD hS => ?_)
                    have hP : va_P (dC, dI) classes [(oM, .inr (12, fm)), (am_does, .inl (cI, 32, .inl f78_10)), (am_xs, .inl (cI, 32, .inl ((upd (fun _ => 0) (ka : Int32).toNatClampNeg xx)))), (am_ys, .inl (cI, 32, .inl (fun _ => 0))), (am_zs, .inl (cI, 32, .inl (fun _ => 0)))] H := hP
                    have hD : va_D A [(oM, .inr (12, fm)), (am_does, .inl (cI, 32, .inl f78_10)), (am_xs, .inl (cI, 32, .inl ((upd (fun _ => 0) (ka : Int32).toNatClampNeg xx)))), (am_ys, .inl (cI, 32, .inl (fun _ => 0))), (am_zs, .inl (cI, 32, .inl (fun _ => 0)))] := hD
                    generalize (upd (fun _ => 0) (ka : Int32).toNatClampNeg xx) = f85_11 at hP hD
                    refine lv_aload_n hx hb d_Mo_bind_86 rfl (lv_at hl 0 rfl) ?_
                    refine va_get (D := (dC, dI)) (ci := 12) (v := .ref am_ys) (C := R_Mo) (T := F_Mo) (N := 87) hx hb hts (fun w h => List.mem_cons_of_mem _ (in_Mo w h)) hown hK.1 hP 0 rfl rfl 51 (by decide) (hts _ (List.mem_cons_of_mem _ mw_1845)) (fun _ h9 => h9) hm_ys d_Mo_bind_87 ?_
                    refine lv_iload_n hx hb d_Mo_bind_90 rfl (lv_at hl 1 rfl) ?_
                    refine lv_iload hx hb d_Mo_bind_91 (lv_at hl 4 rfl) ?_
                    refine va_iast hx hb hK.1 hP hD hS 3 0 rfl rfl (ir_in h1 h7 (by decide) (by decide)) d_Mo_bind_93 (fun H locs hP hD hS => ?_)
                    have hP : va_P (dC, dI) classes [(oM, .inr (12, fm)), (am_does, .inl (cI, 32, .inl f78_10)), (am_xs, .inl (cI, 32, .inl f85_11)), (am_ys, .inl (cI, 32, .inl ((upd (fun _ => 0) (ka : Int32).toNatClampNeg yy)))), (am_zs, .inl (cI, 32, .inl (fun _ => 0)))] H := hP
                    have hD : va_D A [(oM, .inr (12, fm)), (am_does, .inl (cI, 32, .inl f78_10)), (am_xs, .inl (cI, 32, .inl f85_11)), (am_ys, .inl (cI, 32, .inl ((upd (fun _ => 0) (ka : Int32).toNatClampNeg yy)))), (am_zs, .inl (cI, 32, .inl (fun _ => 0)))] := hD
                    generalize (upd (fun _ => 0) (ka : Int32).toNatClampNeg yy) = f93_12 at hP hD
                    refine lv_aload_n hx hb d_Mo_bind_94 rfl (lv_at hl 0 rfl) ?_
                    refine va_get (D := (dC, dI)) (ci := 12) (v := .ref am_zs) (C := R_Mo) (T := F_Mo) (N := 87) hx hb hts (fun w h => List.mem_cons_of_mem _ (in_Mo w h)) hown hK.1 hP 0 rfl rfl 52 (by decide) (hts _ (List.mem_cons_of_mem _ mw_1846)) (fun _ h9 => h9) hm_zs d_Mo_bind_95 ?_
                    refine lv_iload_n hx hb d_Mo_bind_98 rfl (lv_at hl 1 rfl) ?_
                    refine lv_iload hx hb d_Mo_bind_99 (lv_at hl 5 rfl) ?_
                    refine va_iast hx hb hK.1 hP hD hS 4 0 rfl rfl (ir_in h1 h7 (by decide) (by decide)) d_Mo_bind_101 (fun H locs hP hD hS => ?_)
                    have hP : va_P (dC, dI) classes [(oM, .inr (12, fm)), (am_does, .inl (cI, 32, .inl f78_10)), (am_xs, .inl (cI, 32, .inl f85_11)), (am_ys, .inl (cI, 32, .inl f93_12)), (am_zs, .inl (cI, 32, .inl ((upd (fun _ => 0) (ka : Int32).toNatClampNeg zz))))] H := hP
                    have hD : va_D A [(oM, .inr (12, fm)), (am_does, .inl (cI, 32, .inl f78_10)), (am_xs, .inl (cI, 32, .inl f85_11)), (am_ys, .inl (cI, 32, .inl f93_12)), (am_zs, .inl (cI, 32, .inl ((upd (fun _ => 0) (ka : Int32).toNatClampNeg zz))))] := hD
                    generalize (upd (fun _ => 0) (ka : Int32).toNatClampNeg zz) = f101_13 at hP hD
                    refine lv_iconst (v := 1) hx hb d_Mo_bind_102 (by decide) ?_
                    exact W.zret (v := 1) (ty := .boolean) hx hb hr (by decide) (fun t ht hW => ⟨⟨_, (), rfl, (by unfold fn_Mo_bind; rw [if_neg h1, if_neg h7, if_neg h11, if_neg h16, if_pos h20, if_neg h26, if_neg h33, if_neg h38, if_neg h55]), trivial⟩, hS.F ht⟩) hS.2.2 d_Mo_bind_103
                  · refine lv_iload hx hb d_Mo_bind_58 (lv_at hl 4 rfl) ?_
                    refine lv_iconst (v := 1) hx hb d_Mo_bind_60 (by decide) ?_
                    refine lv_icmp_lt (tgt := 70) hx hb d_Mo_bind_61 (by decide) (fun h61 => ?_) (fun h61 => ?_)
                    · refine lv_iconst (v := 0) hx hb d_Mo_bind_70 (by decide) ?_
                      exact W.zret (v := 0) (ty := .boolean) hx hb hr (by decide) (fun t ht hW => ⟨⟨_, (), rfl, (by unfold fn_Mo_bind; rw [if_neg h1, if_neg h7, if_neg h11, if_neg h16, if_pos h20, if_neg h26, if_neg h33, if_neg h38, if_pos h55, if_pos h61]), trivial⟩, hS.F ht⟩) hS.2.2 d_Mo_bind_71
                    · refine lv_iload hx hb d_Mo_bind_64 (lv_at hl 4 rfl) ?_
                      refine lv_iconst (v := 5) hx hb d_Mo_bind_66 (by decide) ?_
                      refine lv_icmp_le (tgt := 72) hx hb d_Mo_bind_67 (by decide) (fun h67 => ?_) (fun h67 => ?_)
                      · refine lv_aload_n hx hb d_Mo_bind_72 rfl (lv_at hl 0 rfl) ?_
                        refine va_get (D := (dC, dI)) (ci := 12) (v := .ref am_does) (C := R_Mo) (T := F_Mo) (N := 87) hx hb hts (fun w h => List.mem_cons_of_mem _ (in_Mo w h)) hown hK.1 hP 0 rfl rfl 49 (by decide) (hts _ (List.mem_cons_of_mem _ mw_1843)) (fun _ h9 => h9) hm_does d_Mo_bind_73 ?_
                        refine lv_iload_n hx hb d_Mo_bind_76 rfl (lv_at hl 1 rfl) ?_
                        refine lv_iload_n hx hb d_Mo_bind_77 rfl (lv_at hl 2 rfl) ?_
                        refine va_iast hx hb hK.1 hP hD hS 1 0 rfl rfl (ir_in h1 h7 (by decide) (by decide)) d_Mo_bind_78 (fun H locs hP hD hS => ?_)
                        have hP : va_P (dC, dI) classes [(oM, .inr (12, fm)), (am_does, .inl (cI, 32, .inl ((upd ((fun _ => (-1))) (ka : Int32).toNatClampNeg wh)))), (am_xs, .inl (cI, 32, .inl (fun _ => 0))), (am_ys, .inl (cI, 32, .inl (fun _ => 0))), (am_zs, .inl (cI, 32, .inl (fun _ => 0)))] H := hP
                        have hD : va_D A [(oM, .inr (12, fm)), (am_does, .inl (cI, 32, .inl ((upd ((fun _ => (-1))) (ka : Int32).toNatClampNeg wh)))), (am_xs, .inl (cI, 32, .inl (fun _ => 0))), (am_ys, .inl (cI, 32, .inl (fun _ => 0))), (am_zs, .inl (cI, 32, .inl (fun _ => 0)))] := hD
                        generalize (upd ((fun _ => (-1))) (ka : Int32).toNatClampNeg wh) = f78_12 at hP hD
                        refine lv_aload_n hx hb d_Mo_bind_79 rfl (lv_at hl 0 rfl) ?_
                        refine va_get (D := (dC, dI)) (ci := 12) (v := .ref am_xs) (C := R_Mo) (T := F_Mo) (N := 87) hx hb hts (fun w h => List.mem_cons_of_mem _ (in_Mo w h)) hown hK.1 hP 0 rfl rfl 50 (by decide) (hts _ (List.mem_cons_of_mem _ mw_1844)) (fun _ h9 => h9) hm_xs d_Mo_bind_80 ?_
                        refine lv_iload_n hx hb d_Mo_bind_83 rfl (lv_at hl 1 rfl) ?_
                        refine lv_iload_n hx hb d_Mo_bind_84 rfl (lv_at hl 3 rfl) ?_
                        refine va_iast hx hb hK.1 hP hD hS 2 0 rfl rfl (ir_in h1 h7 (by decide) (by decide)) d_Mo_bind_85 (fun H locs hP hD hS => ?_)
                        have hP : va_P (dC, dI) classes [(oM, .inr (12, fm)), (am_does, .inl (cI, 32, .inl f78_12)), (am_xs, .inl (cI, 32, .inl ((upd (fun _ => 0) (ka : Int32).toNatClampNeg xx)))), (am_ys, .inl (cI, 32, .inl (fun _ => 0))), (am_zs, .inl (cI, 32, .inl (fun _ => 0)))] H := hP
                        have hD : va_D A [(oM, .inr (12, fm)), (am_does, .inl (cI, 32, .inl f78_12)), (am_xs, .inl (cI, 32, .inl ((upd (fun _ => 0) (ka : Int32).toNatClampNeg xx)))), (am_ys, .inl (cI, 32, .inl (fun _ => 0))), (am_zs, .inl (cI, 32, .inl (fun _ => 0)))] := hD
                        generalize (upd (fun _ => 0) (ka : Int32).toNatClampNeg xx) = f85_13 at hP hD
                        refine lv_aload_n hx hb d_Mo_bind_86 rfl (lv_at hl 0 rfl) ?_
                        refine va_get (D := (dC, dI)) (ci := 12) (v := .ref am_ys) (C := R_Mo) (T := F_Mo) (N := 87) hx hb hts (fun w h => List.mem_cons_of_mem _ (in_Mo w h)) hown hK.1 hP 0 rfl rfl 51 (by decide) (hts _ (List.mem_cons_of_mem _ mw_1845)) (fun _ h9 => h9) hm_ys d_Mo_bind_87 ?_
                        refine lv_iload_n hx hb d_Mo_bind_90 rfl (lv_at hl 1 rfl) ?_
                        refine lv_iload hx hb d_Mo_bind_91 (lv_at hl 4 rfl) ?_
                        refine va_iast hx hb hK.1 hP hD hS 3 0 rfl rfl (ir_in h1 h7 (by decide) (by decide)) d_Mo_bind_93 (fun H locs hP hD hS => ?_)
                        have hP : va_P (dC, dI) classes [(oM, .inr (12, fm)), (am_does, .inl (cI, 32, .inl f78_12)), (am_xs, .inl (cI, 32, .inl f85_13)), (am_ys, .inl (cI, 32, .inl ((upd (fun _ => 0) (ka : Int32).toNatClampNeg yy)))), (am_zs, .inl (cI, 32, .inl (fun _ => 0)))] H := hP
                        have hD : va_D A [(oM, .inr (12, fm)), (am_does, .inl (cI, 32, .inl f78_12)), (am_xs, .inl (cI, 32, .inl f85_13)), (am_ys, .inl (cI, 32, .inl ((upd (fun _ => 0) (ka : Int32).toNatClampNeg yy)))), (am_zs, .inl (cI, 32, .inl (fun _ => 0)))] := hD
                        generalize (upd (fun _ => 0) (ka : Int32).toNatClampNeg yy) = f93_14 at hP hD
                        refine lv_aload_n hx hb d_Mo_bind_94 rfl (lv_at hl 0 rfl) ?_
                        refine va_get (D := (dC, dI)) (ci := 12) (v := .ref am_zs) (C := R_Mo) (T := F_Mo) (N := 87) hx hb hts (fun w h => List.mem_cons_of_mem _ (in_Mo w h)) hown hK.1 hP 0 rfl rfl 52 (by decide) (hts _ (List.mem_cons_of_mem _ mw_1846)) (fun _ h9 => h9) hm_zs d_Mo_bind_95 ?_
                        refine lv_iload_n hx hb d_Mo_bind_98 rfl (lv_at hl 1 rfl) ?_
                        refine lv_iload hx hb d_Mo_bind_99 (lv_at hl 5 rfl) ?_
                        refine va_iast hx hb hK.1 hP hD hS 4 0 rfl rfl (ir_in h1 h7 (by decide) (by decide)) d_Mo_bind_101 (fun H locs hP hD hS => ?_)
                        have hP : va_P (dC, dI) classes [(oM, .inr (12, fm)), (am_does, .inl (cI, 32, .inl f78_12)), (am_xs, .inl (cI, 32, .inl f85_13)), (am_ys, .inl (cI, 32, .inl f93_14)), (am_zs, .inl (cI, 32, .inl ((upd (fun _ => 0) (ka : Int32).toNatClampNeg zz))))] H := hP
                        have hD : va_D A [(oM, .inr (12, fm)), (am_does, .inl (cI, 32, .inl f78_12)), (am_xs, .inl (cI, 32, .inl f85_13)), (am_ys, .inl (cI, 32, .inl f93_14)), (am_zs, .inl (cI, 32, .inl ((upd (fun _ => 0) (ka : Int32).toNatClampNeg zz))))] := hD
                        generalize (upd (fun _ => 0) (ka : Int32).toNatClampNeg zz) = f101_15 at hP hD
                        refine lv_iconst (v := 1) hx hb d_Mo_bind_102 (by decide) ?_
                        exact W.zret (v := 1) (ty := .boolean) hx hb hr (by decide) (fun t ht hW => ⟨⟨_, (), rfl, (by unfold fn_Mo_bind; rw [if_neg h1, if_neg h7, if_neg h11, if_neg h16, if_pos h20, if_neg h26, if_neg h33, if_neg h38, if_pos h55, if_neg h61, if_pos h67]), trivial⟩, hS.F ht⟩) hS.2.2 d_Mo_bind_103
                      · refine lv_iconst (v := 0) hx hb d_Mo_bind_70 (by decide) ?_
                        exact W.zret (v := 0) (ty := .boolean) hx hb hr (by decide) (fun t ht hW => ⟨⟨_, (), rfl, (by unfold fn_Mo_bind; rw [if_neg h1, if_neg h7, if_neg h11, if_neg h16, if_pos h20, if_neg h26, if_neg h33, if_neg h38, if_pos h55, if_neg h61, if_neg h67]), trivial⟩, hS.F ht⟩) hS.2.2 d_Mo_bind_71
                · refine lv_iload hx hb d_Mo_bind_41 (lv_at hl 4 rfl) ?_
                  refine lv_if_lt (tgt := 70) hx hb d_Mo_bind_43 (by decide) (fun h43 => ?_) (fun h43 => ?_)
                  · refine lv_iconst (v := 0) hx hb d_Mo_bind_70 (by decide) ?_
                    exact W.zret (v := 0) (ty := .boolean) hx hb hr (by decide) (fun t ht hW => ⟨⟨_, (), rfl, (by unfold fn_Mo_bind; rw [if_neg h1, if_neg h7, if_neg h11, if_neg h16, if_pos h20, if_neg h26, if_neg h33, if_pos h38, if_pos h43]), trivial⟩, hS.F ht⟩) hS.2.2 d_Mo_bind_71
                  · refine lv_iload hx hb d_Mo_bind_46 (lv_at hl 4 rfl) ?_
                    refine lv_bipush (v := 9) hx hb d_Mo_bind_48 (by decide) ?_
                    refine lv_icmp_gt (tgt := 70) hx hb d_Mo_bind_50 (by decide) (fun h50 => ?_) (fun h50 => ?_)
                    · refine lv_iconst (v := 0) hx hb d_Mo_bind_70 (by decide) ?_
                      exact W.zret (v := 0) (ty := .boolean) hx hb hr (by decide) (fun t ht hW => ⟨⟨_, (), rfl, (by unfold fn_Mo_bind; rw [if_neg h1, if_neg h7, if_neg h11, if_neg h16, if_pos h20, if_neg h26, if_neg h33, if_pos h38, if_neg h43, if_pos h50]), trivial⟩, hS.F ht⟩) hS.2.2 d_Mo_bind_71
                    · refine lv_iload_n hx hb d_Mo_bind_53 rfl (lv_at hl 2 rfl) ?_
                      refine lv_iconst (v := 3) hx hb d_Mo_bind_54 (by decide) ?_
                      refine lv_icmp_ne (tgt := 72) hx hb d_Mo_bind_55 (by decide) (fun h55 => ?_) (fun h55 => ?_)
                      · refine lv_aload_n hx hb d_Mo_bind_72 rfl (lv_at hl 0 rfl) ?_
                        refine va_get (D := (dC, dI)) (ci := 12) (v := .ref am_does) (C := R_Mo) (T := F_Mo) (N := 87) hx hb hts (fun w h => List.mem_cons_of_mem _ (in_Mo w h)) hown hK.1 hP 0 rfl rfl 49 (by decide) (hts _ (List.mem_cons_of_mem _ mw_1843)) (fun _ h9 => h9) hm_does d_Mo_bind_73 ?_
                        refine lv_iload_n hx hb d_Mo_bind_76 rfl (lv_at hl 1 rfl) ?_
                        refine lv_iload_n hx hb d_Mo_bind_77 rfl (lv_at hl 2 rfl) ?_
                        refine va_iast hx hb hK.1 hP hD hS 1 0 rfl rfl (ir_in h1 h7 (by decide) (by decide)) d_Mo_bind_78 (fun H locs hP hD hS => ?_)
                        have hP : va_P (dC, dI) classes [(oM, .inr (12, fm)), (am_does, .inl (cI, 32, .inl ((upd ((fun _ => (-1))) (ka : Int32).toNatClampNeg wh)))), (am_xs, .inl (cI, 32, .inl (fun _ => 0))), (am_ys, .inl (cI, 32, .inl (fun _ => 0))), (am_zs, .inl (cI, 32, .inl (fun _ => 0)))] H := hP
                        have hD : va_D A [(oM, .inr (12, fm)), (am_does, .inl (cI, 32, .inl ((upd ((fun _ => (-1))) (ka : Int32).toNatClampNeg wh)))), (am_xs, .inl (cI, 32, .inl (fun _ => 0))), (am_ys, .inl (cI, 32, .inl (fun _ => 0))), (am_zs, .inl (cI, 32, .inl (fun _ => 0)))] := hD
                        generalize (upd ((fun _ => (-1))) (ka : Int32).toNatClampNeg wh) = f78_12 at hP hD
                        refine lv_aload_n hx hb d_Mo_bind_79 rfl (lv_at hl 0 rfl) ?_
                        refine va_get (D := (dC, dI)) (ci := 12) (v := .ref am_xs) (C := R_Mo) (T := F_Mo) (N := 87) hx hb hts (fun w h => List.mem_cons_of_mem _ (in_Mo w h)) hown hK.1 hP 0 rfl rfl 50 (by decide) (hts _ (List.mem_cons_of_mem _ mw_1844)) (fun _ h9 => h9) hm_xs d_Mo_bind_80 ?_
                        refine lv_iload_n hx hb d_Mo_bind_83 rfl (lv_at hl 1 rfl) ?_
                        refine lv_iload_n hx hb d_Mo_bind_84 rfl (lv_at hl 3 rfl) ?_
                        refine va_iast hx hb hK.1 hP hD hS 2 0 rfl rfl (ir_in h1 h7 (by decide) (by decide)) d_Mo_bind_85 (fun H locs hP hD hS => ?_)
                        have hP : va_P (dC, dI) classes [(oM, .inr (12, fm)), (am_does, .inl (cI, 32, .inl f78_12)), (am_xs, .inl (cI, 32, .inl ((upd (fun _ => 0) (ka : Int32).toNatClampNeg xx)))), (am_ys, .inl (cI, 32, .inl (fun _ => 0))), (am_zs, .inl (cI, 32, .inl (fun _ => 0)))] H := hP
                        have hD : va_D A [(oM, .inr (12, fm)), (am_does, .inl (cI, 32, .inl f78_12)), (am_xs, .inl (cI, 32, .inl ((upd (fun _ => 0) (ka : Int32).toNatClampNeg xx)))), (am_ys, .inl (cI, 32, .inl (fun _ => 0))), (am_zs, .inl (cI, 32, .inl (fun _ => 0)))] := hD
                        generalize (upd (fun _ => 0) (ka : Int32).toNatClampNeg xx) = f85_13 at hP hD
                        refine lv_aload_n hx hb d_Mo_bind_86 rfl (lv_at hl 0 rfl) ?_
                        refine va_get (D := (dC, dI)) (ci := 12) (v := .ref am_ys) (C := R_Mo) (T := F_Mo) (N := 87) hx hb hts (fun w h => List.mem_cons_of_mem _ (in_Mo w h)) hown hK.1 hP 0 rfl rfl 51 (by decide) (hts _ (List.mem_cons_of_mem _ mw_1845)) (fun _ h9 => h9) hm_ys d_Mo_bind_87 ?_
                        refine lv_iload_n hx hb d_Mo_bind_90 rfl (lv_at hl 1 rfl) ?_
                        refine lv_iload hx hb d_Mo_bind_91 (lv_at hl 4 rfl) ?_
                        refine va_iast hx hb hK.1 hP hD hS 3 0 rfl rfl (ir_in h1 h7 (by decide) (by decide)) d_Mo_bind_93 (fun H locs hP hD hS => ?_)
                        have hP : va_P (dC, dI) classes [(oM, .inr (12, fm)), (am_does, .inl (cI, 32, .inl f78_12)), (am_xs, .inl (cI, 32, .inl f85_13)), (am_ys, .inl (cI, 32, .inl ((upd (fun _ => 0) (ka : Int32).toNatClampNeg yy)))), (am_zs, .inl (cI, 32, .inl (fun _ => 0)))] H := hP
                        have hD : va_D A [(oM, .inr (12, fm)), (am_does, .inl (cI, 32, .inl f78_12)), (am_xs, .inl (cI, 32, .inl f85_13)), (am_ys, .inl (cI, 32, .inl ((upd (fun _ => 0) (ka : Int32).toNatClampNeg yy)))), (am_zs, .inl (cI, 32, .inl (fun _ => 0)))] := hD
                        generalize (upd (fun _ => 0) (ka : Int32).toNatClampNeg yy) = f93_14 at hP hD
                        refine lv_aload_n hx hb d_Mo_bind_94 rfl (lv_at hl 0 rfl) ?_
                        refine va_get (D := (dC, dI)) (ci := 12) (v := .ref am_zs) (C := R_Mo) (T := F_Mo) (N := 87) hx hb hts (fun w h => List.mem_cons_of_mem _ (in_Mo w h)) hown hK.1 hP 0 rfl rfl 52 (by decide) (hts _ (List.mem_cons_of_mem _ mw_1846)) (fun _ h9 => h9) hm_zs d_Mo_bind_95 ?_
                        refine lv_iload_n hx hb d_Mo_bind_98 rfl (lv_at hl 1 rfl) ?_
                        refine lv_iload hx hb d_Mo_bind_99 (lv_at hl 5 rfl) ?_
                        refine va_iast hx hb hK.1 hP hD hS 4 0 rfl rfl (ir_in h1 h7 (by decide) (by decide)) d_Mo_bind_101 (fun H locs hP hD hS => ?_)
                        have hP : va_P (dC, dI) classes [(oM, .inr (12, fm)), (am_does, .inl (cI, 32, .inl f78_12)), (am_xs, .inl (cI, 32, .inl f85_13)), (am_ys, .inl (cI, 32, .inl f93_14)), (am_zs, .inl (cI, 32, .inl ((upd (fun _ => 0) (ka : Int32).toNatClampNeg zz))))] H := hP
                        have hD : va_D A [(oM, .inr (12, fm)), (am_does, .inl (cI, 32, .inl f78_12)), (am_xs, .inl (cI, 32, .inl f85_13)), (am_ys, .inl (cI, 32, .inl f93_14)), (am_zs, .inl (cI, 32, .inl ((upd (fun _ => 0) (ka : Int32).toNatClampNeg zz))))] := hD
                        generalize (upd (fun _ => 0) (ka : Int32).toNatClampNeg zz) = f101_15 at hP hD
                        refine lv_iconst (v := 1) hx hb d_Mo_bind_102 (by decide) ?_
                        exact W.zret (v := 1) (ty := .boolean) hx hb hr (by decide) (fun t ht hW => ⟨⟨_, (), rfl, (by unfold fn_Mo_bind; rw [if_neg h1, if_neg h7, if_neg h11, if_neg h16, if_pos h20, if_neg h26, if_neg h33, if_pos h38, if_neg h43, if_neg h50, if_neg h55]), trivial⟩, hS.F ht⟩) hS.2.2 d_Mo_bind_103
                      · refine lv_iload hx hb d_Mo_bind_58 (lv_at hl 4 rfl) ?_
                        refine lv_iconst (v := 1) hx hb d_Mo_bind_60 (by decide) ?_
                        refine lv_icmp_lt (tgt := 70) hx hb d_Mo_bind_61 (by decide) (fun h61 => ?_) (fun h61 => ?_)
                        · refine lv_iconst (v := 0) hx hb d_Mo_bind_70 (by decide) ?_
                          exact W.zret (v := 0) (ty := .boolean) hx hb hr (by decide) (fun t ht hW => ⟨⟨_, (), rfl, (by unfold fn_Mo_bind; rw [if_neg h1, if_neg h7, if_neg h11, if_neg h16, if_pos h20, if_neg h26, if_neg h33, if_pos h38, if_neg h43, if_neg h50, if_pos h55, if_pos h61]), trivial⟩, hS.F ht⟩) hS.2.2 d_Mo_bind_71
                        · refine lv_iload hx hb d_Mo_bind_64 (lv_at hl 4 rfl) ?_
                          refine lv_iconst (v := 5) hx hb d_Mo_bind_66 (by decide) ?_
                          refine lv_icmp_le (tgt := 72) hx hb d_Mo_bind_67 (by decide) (fun h67 => ?_) (fun h67 => ?_)
                          · refine lv_aload_n hx hb d_Mo_bind_72 rfl (lv_at hl 0 rfl) ?_
                            refine va_get (D := (dC, dI)) (ci := 12) (v := .ref am_does) (C := R_Mo) (T := F_Mo) (N := 87) hx hb hts (fun w h => List.mem_cons_of_mem _ (in_Mo w h)) hown hK.1 hP 0 rfl rfl 49 (by decide) (hts _ (List.mem_cons_of_mem _ mw_1843)) (fun _ h9 => h9) hm_does d_Mo_bind_73 ?_
                            refine lv_iload_n hx hb d_Mo_bind_76 rfl (lv_at hl 1 rfl) ?_
                            refine lv_iload_n hx hb d_Mo_bind_77 rfl (lv_at hl 2 rfl) ?_
                            refine va_iast hx hb hK.1 hP hD hS 1 0 rfl rfl (ir_in h1 h7 (by decide) (by decide)) d_Mo_bind_78 (fun H locs hP hD hS => ?_)
                            have hP : va_P (dC, dI) classes [(oM, .inr (12, fm)), (am_does, .inl (cI, 32, .inl ((upd ((fun _ => (-1))) (ka : Int32).toNatClampNeg wh)))), (am_xs, .inl (cI, 32, .inl (fun _ => 0))), (am_ys, .inl (cI, 32, .inl (fun _ => 0))), (am_zs, .inl (cI, 32, .inl (fun _ => 0)))] H := hP
                            have hD : va_D A [(oM, .inr (12, fm)), (am_does, .inl (cI, 32, .inl ((upd ((fun _ => (-1))) (ka : Int32).toNatClampNeg wh)))), (am_xs, .inl (cI, 32, .inl (fun _ => 0))), (am_ys, .inl (cI, 32, .inl (fun _ => 0))), (am_zs, .inl (cI, 32, .inl (fun _ => 0)))] := hD
                            generalize (upd ((fun _ => (-1))) (ka : Int32).toNatClampNeg wh) = f78_14 at hP hD
                            refine lv_aload_n hx hb d_Mo_bind_79 rfl (lv_at hl 0 rfl) ?_
                            refine va_get (D := (dC, dI)) (ci := 12) (v := .ref am_xs) (C := R_Mo) (T := F_Mo) (N := 87) hx hb hts (fun w h => List.mem_cons_of_mem _ (in_Mo w h)) hown hK.1 hP 0 rfl rfl 50 (by decide) (hts _ (List.mem_cons_of_mem _ mw_1844)) (fun _ h9 => h9) hm_xs d_Mo_bind_80 ?_
                            refine lv_iload_n hx hb d_Mo_bind_83 rfl (lv_at hl 1 rfl) ?_
                            refine lv_iload_n hx hb d_Mo_bind_84 rfl (lv_at hl 3 rfl) ?_
                            refine va_iast hx hb hK.1 hP hD hS 2 0 rfl rfl (ir_in h1 h7 (by decide) (by decide)) d_Mo_bind_85 (fun H locs hP hD hS => ?_)
                            have hP : va_P (dC, dI) classes [(oM, .inr (12, fm)), (am_does, .inl (cI, 32, .inl f78_14)), (am_xs, .inl (cI, 32, .inl ((upd (fun _ => 0) (ka : Int32).toNatClampNeg xx)))), (am_ys, .inl (cI, 32, .inl (fun _ => 0))), (am_zs, .inl (cI, 32, .inl (fun _ => 0)))] H := hP
                            have hD : va_D A [(oM, .inr (12, fm)), (am_does, .inl (cI, 32, .inl f78_14)), (am_xs, .inl (cI, 32, .inl ((upd (fun _ => 0) (ka : Int32).toNatClampNeg xx)))), (am_ys, .inl (cI, 32, .inl (fun _ => 0))), (am_zs, .inl (cI, 32, .inl (fun _ => 0)))] := hD
                            generalize (upd (fun _ => 0) (ka : Int32).toNatClampNeg xx) = f85_15 at hP hD
                            refine lv_aload_n hx hb d_Mo_bind_86 rfl (lv_at hl 0 rfl) ?_
                            refine va_get (D := (dC, dI)) (ci := 12) (v := .ref am_ys) (C := R_Mo) (T := F_Mo) (N := 87) hx hb hts (fun w h => List.mem_cons_of_mem _ (in_Mo w h)) hown hK.1 hP 0 rfl rfl 51 (by decide) (hts _ (List.mem_cons_of_mem _ mw_1845)) (fun _ h9 => h9) hm_ys d_Mo_bind_87 ?_
                            refine lv_iload_n hx hb d_Mo_bind_90 rfl (lv_at hl 1 rfl) ?_
                            refine lv_iload hx hb d_Mo_bind_91 (lv_at hl 4 rfl) ?_
                            refine va_iast hx hb hK.1 hP hD hS 3 0 rfl rfl (ir_in h1 h7 (by decide) (by decide)) d_Mo_bind_93 (fun H locs hP hD hS => ?_)
                            have hP : va_P (dC, dI) classes [(oM, .inr (12, fm)), (am_does, .inl (cI, 32, .inl f78_14)), (am_xs, .inl (cI, 32, .inl f85_15)), (am_ys, .inl (cI, 32, .inl ((upd (fun _ => 0) (ka : Int32).toNatClampNeg yy)))), (am_zs, .inl (cI, 32, .inl (fun _ => 0)))] H := hP
                            have hD : va_D A [(oM, .inr (12, fm)), (am_does, .inl (cI, 32, .inl f78_14)), (am_xs, .inl (cI, 32, .inl f85_15)), (am_ys, .inl (cI, 32, .inl ((upd (fun _ => 0) (ka : Int32).toNatClampNeg yy)))), (am_zs, .inl (cI, 32, .inl (fun _ => 0)))] := hD
                            generalize (upd (fun _ => 0) (ka : Int32).toNatClampNeg yy) = f93_16 at hP hD
                            refine lv_aload_n hx hb d_Mo_bind_94 rfl (lv_at hl 0 rfl) ?_
                            refine va_get (D := (dC, dI)) (ci := 12) (v := .ref am_zs) (C := R_Mo) (T := F_Mo) (N := 87) hx hb hts (fun w h => List.mem_cons_of_mem _ (in_Mo w h)) hown hK.1 hP 0 rfl rfl 52 (by decide) (hts _ (List.mem_cons_of_mem _ mw_1846)) (fun _ h9 => h9) hm_zs d_Mo_bind_95 ?_
                            refine lv_iload_n hx hb d_Mo_bind_98 rfl (lv_at hl 1 rfl) ?_
                            refine lv_iload hx hb d_Mo_bind_99 (lv_at hl 5 rfl) ?_
                            refine va_iast hx hb hK.1 hP hD hS 4 0 rfl rfl (ir_in h1 h7 (by decide) (by decide)) d_Mo_bind_101 (fun H locs hP hD hS => ?_)
                            have hP : va_P (dC, dI) classes [(oM, .inr (12, fm)), (am_does, .inl (cI, 32, .inl f78_14)), (am_xs, .inl (cI, 32, .inl f85_15)), (am_ys, .inl (cI, 32, .inl f93_16)), (am_zs, .inl (cI, 32, .inl ((upd (fun _ => 0) (ka : Int32).toNatClampNeg zz))))] H := hP
                            have hD : va_D A [(oM, .inr (12, fm)), (am_does, .inl (cI, 32, .inl f78_14)), (am_xs, .inl (cI, 32, .inl f85_15)), (am_ys, .inl (cI, 32, .inl f93_16)), (am_zs, .inl (cI, 32, .inl ((upd (fun _ => 0) (ka : Int32).toNatClampNeg zz))))] := hD
                            generalize (upd (fun _ => 0) (ka : Int32).toNatClampNeg zz) = f101_17 at hP hD
                            refine lv_iconst (v := 1) hx hb d_Mo_bind_102 (by decide) ?_
                            exact W.zret (v := 1) (ty := .boolean) hx hb hr (by decide) (fun t ht hW => ⟨⟨_, (), rfl, (by unfold fn_Mo_bind; rw [if_neg h1, if_neg h7, if_neg h11, if_neg h16, if_pos h20, if_neg h26, if_neg h33, if_pos h38, if_neg h43, if_neg h50, if_pos h55, if_neg h61, if_pos h67]), trivial⟩, hS.F ht⟩) hS.2.2 d_Mo_bind_103
                          · refine lv_iconst (v := 0) hx hb d_Mo_bind_70 (by decide) ?_
                            exact W.zret (v := 0) (ty := .boolean) hx hb hr (by decide) (fun t ht hW => ⟨⟨_, (), rfl, (by unfold fn_Mo_bind; rw [if_neg h1, if_neg h7, if_neg h11, if_neg h16, if_pos h20, if_neg h26, if_neg h33, if_pos h38, if_neg h43, if_neg h50, if_pos h55, if_neg h61, if_neg h67]), trivial⟩, hS.F ht⟩) hS.2.2 d_Mo_bind_71
abbrev t_Mo_lasts_31 : List UInt8 := 172 :: []
abbrev t_Mo_lasts_30 : List UInt8 := 4 :: t_Mo_lasts_31
abbrev t_Mo_lasts_29 : List UInt8 := 79 :: t_Mo_lasts_30
abbrev t_Mo_lasts_28 : List UInt8 := 28 :: t_Mo_lasts_29
abbrev t_Mo_lasts_27 : List UInt8 := 27 :: t_Mo_lasts_28
abbrev t_Mo_lasts_24 : List UInt8 := 180 :: 0 :: 71 :: t_Mo_lasts_27
abbrev t_Mo_lasts_23 : List UInt8 := 42 :: t_Mo_lasts_24
abbrev t_Mo_lasts_22 : List UInt8 := 172 :: t_Mo_lasts_23
abbrev t_Mo_lasts_21 : List UInt8 := 3 :: t_Mo_lasts_22
abbrev t_Mo_lasts_18 : List UInt8 := 164 :: 0 :: 5 :: t_Mo_lasts_21
abbrev t_Mo_lasts_15 : List UInt8 := 19 :: 1 :: 167 :: t_Mo_lasts_18
abbrev t_Mo_lasts_14 : List UInt8 := 28 :: t_Mo_lasts_15
abbrev t_Mo_lasts_11 : List UInt8 := 155 :: 0 :: 10 :: t_Mo_lasts_14
abbrev t_Mo_lasts_10 : List UInt8 := 28 :: t_Mo_lasts_11
abbrev t_Mo_lasts_7 : List UInt8 := 163 :: 0 :: 14 :: t_Mo_lasts_10
abbrev t_Mo_lasts_6 : List UInt8 := 8 :: t_Mo_lasts_7
abbrev t_Mo_lasts_5 : List UInt8 := 27 :: t_Mo_lasts_6
abbrev t_Mo_lasts_2 : List UInt8 := 161 :: 0 :: 19 :: t_Mo_lasts_5
abbrev t_Mo_lasts_1 : List UInt8 := 4 :: t_Mo_lasts_2
abbrev t_Mo_lasts_0 : List UInt8 := 27 :: t_Mo_lasts_1
theorem a_Mo_lasts_0 : dk_at b_Mo_lasts 0 t_Mo_lasts_0 := dk_start (by decide +kernel)
theorem a_Mo_lasts_1 : dk_at b_Mo_lasts 1 t_Mo_lasts_1 := dk_go 1 a_Mo_lasts_0 rfl
theorem a_Mo_lasts_2 : dk_at b_Mo_lasts 2 t_Mo_lasts_2 := dk_go 1 a_Mo_lasts_1 rfl
theorem a_Mo_lasts_5 : dk_at b_Mo_lasts 5 t_Mo_lasts_5 := dk_go 3 a_Mo_lasts_2 rfl
theorem a_Mo_lasts_6 : dk_at b_Mo_lasts 6 t_Mo_lasts_6 := dk_go 1 a_Mo_lasts_5 rfl
theorem a_Mo_lasts_7 : dk_at b_Mo_lasts 7 t_Mo_lasts_7 := dk_go 1 a_Mo_lasts_6 rfl
theorem a_Mo_lasts_10 : dk_at b_Mo_lasts 10 t_Mo_lasts_10 := dk_go 3 a_Mo_lasts_7 rfl
theorem a_Mo_lasts_11 : dk_at b_Mo_lasts 11 t_Mo_lasts_11 := dk_go 1 a_Mo_lasts_10 rfl
theorem a_Mo_lasts_14 : dk_at b_Mo_lasts 14 t_Mo_lasts_14 := dk_go 3 a_Mo_lasts_11 rfl
theorem a_Mo_lasts_15 : dk_at b_Mo_lasts 15 t_Mo_lasts_15 := dk_go 1 a_Mo_lasts_14 rfl
theorem a_Mo_lasts_18 : dk_at b_Mo_lasts 18 t_Mo_lasts_18 := dk_go 3 a_Mo_lasts_15 rfl
theorem a_Mo_lasts_21 : dk_at b_Mo_lasts 21 t_Mo_lasts_21 := dk_go 3 a_Mo_lasts_18 rfl
theorem a_Mo_lasts_22 : dk_at b_Mo_lasts 22 t_Mo_lasts_22 := dk_go 1 a_Mo_lasts_21 rfl
theorem a_Mo_lasts_23 : dk_at b_Mo_lasts 23 t_Mo_lasts_23 := dk_go 1 a_Mo_lasts_22 rfl
theorem a_Mo_lasts_24 : dk_at b_Mo_lasts 24 t_Mo_lasts_24 := dk_go 1 a_Mo_lasts_23 rfl
theorem a_Mo_lasts_27 : dk_at b_Mo_lasts 27 t_Mo_lasts_27 := dk_go 3 a_Mo_lasts_24 rfl
theorem a_Mo_lasts_28 : dk_at b_Mo_lasts 28 t_Mo_lasts_28 := dk_go 1 a_Mo_lasts_27 rfl
theorem a_Mo_lasts_29 : dk_at b_Mo_lasts 29 t_Mo_lasts_29 := dk_go 1 a_Mo_lasts_28 rfl
theorem a_Mo_lasts_30 : dk_at b_Mo_lasts 30 t_Mo_lasts_30 := dk_go 1 a_Mo_lasts_29 rfl
theorem a_Mo_lasts_31 : dk_at b_Mo_lasts 31 t_Mo_lasts_31 := dk_go 1 a_Mo_lasts_30 rfl
theorem d_Mo_lasts_0 : decode b_Mo_lasts 0 = .ok (.iload_n 1, 1) := dk_0 a_Mo_lasts_0 (dko_27 _)
theorem d_Mo_lasts_1 : decode b_Mo_lasts 1 = .ok (.iconst 1, 1) := dk_0 a_Mo_lasts_1 (dko_4 _)
theorem d_Mo_lasts_2 : decode b_Mo_lasts 2 = .ok (.if_icmp .lt 19, 3) := dk_S2 a_Mo_lasts_2 (dko_161 _) (by decide +kernel)
theorem d_Mo_lasts_5 : decode b_Mo_lasts 5 = .ok (.iload_n 1, 1) := dk_0 a_Mo_lasts_5 (dko_27 _)
theorem d_Mo_lasts_6 : decode b_Mo_lasts 6 = .ok (.iconst 5, 1) := dk_0 a_Mo_lasts_6 (dko_8 _)
theorem d_Mo_lasts_7 : decode b_Mo_lasts 7 = .ok (.if_icmp .gt 14, 3) := dk_S2 a_Mo_lasts_7 (dko_163 _) (by decide +kernel)
theorem d_Mo_lasts_10 : decode b_Mo_lasts 10 = .ok (.iload_n 2, 1) := dk_0 a_Mo_lasts_10 (dko_28 _)
theorem d_Mo_lasts_11 : decode b_Mo_lasts 11 = .ok (.ifCond .lt 10, 3) := dk_S2 a_Mo_lasts_11 (dko_155 _) (by decide +kernel)
theorem d_Mo_lasts_14 : decode b_Mo_lasts 14 = .ok (.iload_n 2, 1) := dk_0 a_Mo_lasts_14 (dko_28 _)
theorem d_Mo_lasts_15 : decode b_Mo_lasts 15 = .ok (.ldc_w 423, 3) := dk_U2 a_Mo_lasts_15 (dko_19 _) rfl
theorem d_Mo_lasts_18 : decode b_Mo_lasts 18 = .ok (.if_icmp .le 5, 3) := dk_S2 a_Mo_lasts_18 (dko_164 _) (by decide +kernel)
theorem d_Mo_lasts_21 : decode b_Mo_lasts 21 = .ok (.iconst 0, 1) := dk_0 a_Mo_lasts_21 (dko_3 _)
theorem d_Mo_lasts_22 : decode b_Mo_lasts 22 = .ok (.ireturn, 1) := dk_0 a_Mo_lasts_22 (dko_172 _)
theorem d_Mo_lasts_23 : decode b_Mo_lasts 23 = .ok (.aload_n 0, 1) := dk_0 a_Mo_lasts_23 (dko_42 _)
theorem d_Mo_lasts_24 : decode b_Mo_lasts 24 = .ok (.getfield 71, 3) := dk_U2 a_Mo_lasts_24 (dko_180 _) rfl
theorem d_Mo_lasts_27 : decode b_Mo_lasts 27 = .ok (.iload_n 1, 1) := dk_0 a_Mo_lasts_27 (dko_27 _)
theorem d_Mo_lasts_28 : decode b_Mo_lasts 28 = .ok (.iload_n 2, 1) := dk_0 a_Mo_lasts_28 (dko_28 _)
theorem d_Mo_lasts_29 : decode b_Mo_lasts 29 = .ok (.iastore, 1) := dk_0 a_Mo_lasts_29 (dko_79 _)
theorem d_Mo_lasts_30 : decode b_Mo_lasts 30 = .ok (.iconst 1, 1) := dk_0 a_Mo_lasts_30 (dko_4 _)
theorem d_Mo_lasts_31 : decode b_Mo_lasts 31 = .ok (.ireturn, 1) := dk_0 a_Mo_lasts_31 (dko_172 _)
def fn_Mo_lasts (lv : Int32) (se : Int32) : Int32 := (if lv < 1 then 0 else (if 5 < lv then 0 else (if se < 0 then 0 else (if se ≤ 1000000 then 1 else 0))))
set_option maxHeartbeats 4000000 in
set_option maxRecDepth 100000 in
theorem c_Mo_lasts (l : Launch) (dC : Nat → ClassId) (dI : Nat → Nat → Nat) (cI cB cZ cJ : ClassId) (lv : Int32) (se : Int32) (oM : Nat) (am_lasting : Nat) (fm : List Value) (hm_lasting : fx fm 20 (.ref am_lasting)) (sz : Nat) : Met l y_Mo_lasts w_Mo_lasts ({ frames := 0, cells := 0, slots := 0, locals := 0 }) (va_Pc [.ref oM, .int lv, .int se] (PW dC dI cI cB cZ cJ [(oM, .inr (12, fm)), (am_lasting, .inl (cI, 6, .inl (fun _ => 86400)))] sz)) (va_Qi (fun (r : Int32) (_ : Unit) => r = fn_Mo_lasts lv se) (fun _ _ => True) (va_A [(oM, .inr (12, fm)), (am_lasting, .inl (cI, 6, .inl (fun _ => 86400)))] sz)) 0 0 (va_A [(oM, .inr (12, fm)), (am_lasting, .inl (cI, 6, .inl (fun _ => 86400)))] sz) := by
  refine Met.ofW (cc := b_Mo_lasts) (maxL := 3) (ret := (some .boolean)) (by decide) rfl ?_
  intro p e s m args below meth c s₁ B hml hv
  obtain ⟨rfl, hsz, hP, hK, hD⟩ := hv
  have hx := B.exec
  have hb := B.bytes
  have hr := B.returns
  have hts := atoms_spec (ws := w_Mo_lasts) B.pre
  have hown : s.vm.findClass R_Mo = some m.cls := findClass_of_methodNamed B.named
  have hlocks := B.notSynchronized
  subst hsz
  have hD := hD.self (sz := s.heap.size)
  generalize hAe : va_A [(oM, .inr (12, fm)), (am_lasting, .inl (cI, 6, .inl (fun _ => 86400)))] s.heap.size = A at hD ⊢
  have hA : ∀ q : Nat, s.heap.size ≤ q → A q := fun q h => by rw [← hAe]; exact Or.inr h
  have hS : va_S A s.heap s.heap [] := va_S.rf
  have hP : va_P (dC, dI) classes [(oM, .inr (12, fm)), (am_lasting, .inl (cI, 6, .inl (fun _ => 86400)))] s.heap := hP
  have hl := lv_entry ([.ref oM, .int lv, .int se]) (n := 3) (Nat.le_of_ble_eq_true rfl)
  rw [lg_entry_eq]
  generalize (lg_sl ([.ref oM, .int lv, .int se]) ++ List.replicate (3 - (lg_sl ([.ref oM, .int lv, .int se])).length) Slot.unset).toArray = ls at hl ⊢
  have hl : lv_has ls 3 [(0, .ref oM), (1, .int lv), (2, .int se)] := hl
  refine lv_iload_n hx hb d_Mo_lasts_0 rfl (lv_at hl 1 rfl) ?_
  refine lv_iconst (v := 1) hx hb d_Mo_lasts_1 (by decide) ?_
  refine lv_icmp_lt (tgt := 21) hx hb d_Mo_lasts_2 (by decide) (fun h2 => ?_) (fun h2 => ?_)
  · refine lv_iconst (v := 0) hx hb d_Mo_lasts_21 (by decide) ?_
    exact W.zret (v := 0) (ty := .boolean) hx hb hr (by decide) (fun t ht hW => ⟨⟨_, (), rfl, (by unfold fn_Mo_lasts; rw [if_pos h2]), trivial⟩, hS.F ht⟩) hS.2.2 d_Mo_lasts_22
  · refine lv_iload_n hx hb d_Mo_lasts_5 rfl (lv_at hl 1 rfl) ?_
    refine lv_iconst (v := 5) hx hb d_Mo_lasts_6 (by decide) ?_
    refine lv_icmp_gt (tgt := 21) hx hb d_Mo_lasts_7 (by decide) (fun h7 => ?_) (fun h7 => ?_)
    · refine lv_iconst (v := 0) hx hb d_Mo_lasts_21 (by decide) ?_
      exact W.zret (v := 0) (ty := .boolean) hx hb hr (by decide) (fun t ht hW => ⟨⟨_, (), rfl, (by unfold fn_Mo_lasts; rw [if_neg h2, if_pos h7]), trivial⟩, hS.F ht⟩) hS.2.2 d_Mo_lasts_22
    · refine lv_iload_n hx hb d_Mo_lasts_10 rfl (lv_at hl 2 rfl) ?_
      refine lv_if_lt (tgt := 21) hx hb d_Mo_lasts_11 (by decide) (fun h11 => ?_) (fun h11 => ?_)
      · refine lv_iconst (v := 0) hx hb d_Mo_lasts_21 (by decide) ?_
        exact W.zret (v := 0) (ty := .boolean) hx hb hr (by decide) (fun t ht hW => ⟨⟨_, (), rfl, (by unfold fn_Mo_lasts; rw [if_neg h2, if_neg h7, if_pos h11]), trivial⟩, hS.F ht⟩) hS.2.2 d_Mo_lasts_22
      · refine lv_iload_n hx hb d_Mo_lasts_14 rfl (lv_at hl 2 rfl) ?_
        refine lv_ldcw (v := 1000000) hx hb hown (hts _ (List.mem_cons_of_mem _ mw_2465)) d_Mo_lasts_15 ?_
        refine lv_icmp_le (tgt := 23) hx hb d_Mo_lasts_18 (by decide) (fun h18 => ?_) (fun h18 => ?_)
        · refine lv_aload_n hx hb d_Mo_lasts_23 rfl (lv_at hl 0 rfl) ?_
          refine va_get (D := (dC, dI)) (ci := 12) (v := .ref am_lasting) (C := R_Mo) (T := F_Mo) (N := 87) hx hb hts (fun w h => List.mem_cons_of_mem _ (in_Mo w h)) hown hK.1 hP 0 rfl rfl 20 (by decide) (hts _ (List.mem_cons_of_mem _ mw_1814)) (fun _ h9 => h9) hm_lasting d_Mo_lasts_24 ?_
          refine lv_iload_n hx hb d_Mo_lasts_27 rfl (lv_at hl 1 rfl) ?_
          refine lv_iload_n hx hb d_Mo_lasts_28 rfl (lv_at hl 2 rfl) ?_
          refine va_iast hx hb hK.1 hP hD hS 1 0 rfl rfl (ir_in h2 h7 (by decide) (by decide)) d_Mo_lasts_29 (fun H locs hP hD hS => ?_)
          have hP : va_P (dC, dI) classes [(oM, .inr (12, fm)), (am_lasting, .inl (cI, 6, .inl ((upd (fun _ => 86400) (lv : Int32).toNatClampNeg se))))] H := hP
          have hD : va_D A [(oM, .inr (12, fm)), (am_lasting, .inl (cI, 6, .inl ((upd (fun _ => 86400) (lv : Int32).toNatClampNeg se))))] := hD
          generalize (upd (fun _ => 86400) (lv : Int32).toNatClampNeg se) = f29_5 at hP hD
          refine lv_iconst (v := 1) hx hb d_Mo_lasts_30 (by decide) ?_
          exact W.zret (v := 1) (ty := .boolean) hx hb hr (by decide) (fun t ht hW => ⟨⟨_, (), rfl, (by unfold fn_Mo_lasts; rw [if_neg h2, if_neg h7, if_neg h11, if_pos h18]), trivial⟩, hS.F ht⟩) hS.2.2 d_Mo_lasts_31
        · refine lv_iconst (v := 0) hx hb d_Mo_lasts_21 (by decide) ?_
          exact W.zret (v := 0) (ty := .boolean) hx hb hr (by decide) (fun t ht hW => ⟨⟨_, (), rfl, (by unfold fn_Mo_lasts; rw [if_neg h2, if_neg h7, if_neg h11, if_neg h18]), trivial⟩, hS.F ht⟩) hS.2.2 d_Mo_lasts_22
abbrev t_Mo_need_46 : List UInt8 := 172 :: []
abbrev t_Mo_need_45 : List UInt8 := 4 :: t_Mo_need_46
abbrev t_Mo_need_44 : List UInt8 := 79 :: t_Mo_need_45
abbrev t_Mo_need_43 : List UInt8 := 29 :: t_Mo_need_44
abbrev t_Mo_need_42 : List UInt8 := 96 :: t_Mo_need_43
abbrev t_Mo_need_41 : List UInt8 := 28 :: t_Mo_need_42
abbrev t_Mo_need_40 : List UInt8 := 104 :: t_Mo_need_41
abbrev t_Mo_need_39 : List UInt8 := 27 :: t_Mo_need_40
abbrev t_Mo_need_37 : List UInt8 := 16 :: 16 :: t_Mo_need_39
abbrev t_Mo_need_34 : List UInt8 := 180 :: 0 :: 68 :: t_Mo_need_37
abbrev t_Mo_need_33 : List UInt8 := 42 :: t_Mo_need_34
abbrev t_Mo_need_32 : List UInt8 := 172 :: t_Mo_need_33
abbrev t_Mo_need_31 : List UInt8 := 3 :: t_Mo_need_32
abbrev t_Mo_need_28 : List UInt8 := 164 :: 0 :: 5 :: t_Mo_need_31
abbrev t_Mo_need_27 : List UInt8 := 8 :: t_Mo_need_28
abbrev t_Mo_need_26 : List UInt8 := 29 :: t_Mo_need_27
abbrev t_Mo_need_23 : List UInt8 := 155 :: 0 :: 8 :: t_Mo_need_26
abbrev t_Mo_need_22 : List UInt8 := 29 :: t_Mo_need_23
abbrev t_Mo_need_19 : List UInt8 := 163 :: 0 :: 12 :: t_Mo_need_22
abbrev t_Mo_need_17 : List UInt8 := 16 :: 14 :: t_Mo_need_19
abbrev t_Mo_need_16 : List UInt8 := 28 :: t_Mo_need_17
abbrev t_Mo_need_13 : List UInt8 := 161 :: 0 :: 18 :: t_Mo_need_16
abbrev t_Mo_need_12 : List UInt8 := 4 :: t_Mo_need_13
abbrev t_Mo_need_11 : List UInt8 := 28 :: t_Mo_need_12
abbrev t_Mo_need_8 : List UInt8 := 163 :: 0 :: 23 :: t_Mo_need_11
abbrev t_Mo_need_6 : List UInt8 := 16 :: 14 :: t_Mo_need_8
abbrev t_Mo_need_5 : List UInt8 := 27 :: t_Mo_need_6
abbrev t_Mo_need_2 : List UInt8 := 161 :: 0 :: 29 :: t_Mo_need_5
abbrev t_Mo_need_1 : List UInt8 := 4 :: t_Mo_need_2
abbrev t_Mo_need_0 : List UInt8 := 27 :: t_Mo_need_1
theorem a_Mo_need_0 : dk_at b_Mo_need 0 t_Mo_need_0 := dk_start (by decide +kernel)
theorem a_Mo_need_1 : dk_at b_Mo_need 1 t_Mo_need_1 := dk_go 1 a_Mo_need_0 rfl
theorem a_Mo_need_2 : dk_at b_Mo_need 2 t_Mo_need_2 := dk_go 1 a_Mo_need_1 rfl
theorem a_Mo_need_5 : dk_at b_Mo_need 5 t_Mo_need_5 := dk_go 3 a_Mo_need_2 rfl
theorem a_Mo_need_6 : dk_at b_Mo_need 6 t_Mo_need_6 := dk_go 1 a_Mo_need_5 rfl
theorem a_Mo_need_8 : dk_at b_Mo_need 8 t_Mo_need_8 := dk_go 2 a_Mo_need_6 rfl
theorem a_Mo_need_11 : dk_at b_Mo_need 11 t_Mo_need_11 := dk_go 3 a_Mo_need_8 rfl
theorem a_Mo_need_12 : dk_at b_Mo_need 12 t_Mo_need_12 := dk_go 1 a_Mo_need_11 rfl
theorem a_Mo_need_13 : dk_at b_Mo_need 13 t_Mo_need_13 := dk_go 1 a_Mo_need_12 rfl
theorem a_Mo_need_16 : dk_at b_Mo_need 16 t_Mo_need_16 := dk_go 3 a_Mo_need_13 rfl
theorem a_Mo_need_17 : dk_at b_Mo_need 17 t_Mo_need_17 := dk_go 1 a_Mo_need_16 rfl
theorem a_Mo_need_19 : dk_at b_Mo_need 19 t_Mo_need_19 := dk_go 2 a_Mo_need_17 rfl
theorem a_Mo_need_22 : dk_at b_Mo_need 22 t_Mo_need_22 := dk_go 3 a_Mo_need_19 rfl
theorem a_Mo_need_23 : dk_at b_Mo_need 23 t_Mo_need_23 := dk_go 1 a_Mo_need_22 rfl
theorem a_Mo_need_26 : dk_at b_Mo_need 26 t_Mo_need_26 := dk_go 3 a_Mo_need_23 rfl
theorem a_Mo_need_27 : dk_at b_Mo_need 27 t_Mo_need_27 := dk_go 1 a_Mo_need_26 rfl
theorem a_Mo_need_28 : dk_at b_Mo_need 28 t_Mo_need_28 := dk_go 1 a_Mo_need_27 rfl
theorem a_Mo_need_31 : dk_at b_Mo_need 31 t_Mo_need_31 := dk_go 3 a_Mo_need_28 rfl
theorem a_Mo_need_32 : dk_at b_Mo_need 32 t_Mo_need_32 := dk_go 1 a_Mo_need_31 rfl
theorem a_Mo_need_33 : dk_at b_Mo_need 33 t_Mo_need_33 := dk_go 1 a_Mo_need_32 rfl
theorem a_Mo_need_34 : dk_at b_Mo_need 34 t_Mo_need_34 := dk_go 1 a_Mo_need_33 rfl
theorem a_Mo_need_37 : dk_at b_Mo_need 37 t_Mo_need_37 := dk_go 3 a_Mo_need_34 rfl
theorem a_Mo_need_39 : dk_at b_Mo_need 39 t_Mo_need_39 := dk_go 2 a_Mo_need_37 rfl
theorem a_Mo_need_40 : dk_at b_Mo_need 40 t_Mo_need_40 := dk_go 1 a_Mo_need_39 rfl
theorem a_Mo_need_41 : dk_at b_Mo_need 41 t_Mo_need_41 := dk_go 1 a_Mo_need_40 rfl
theorem a_Mo_need_42 : dk_at b_Mo_need 42 t_Mo_need_42 := dk_go 1 a_Mo_need_41 rfl
theorem a_Mo_need_43 : dk_at b_Mo_need 43 t_Mo_need_43 := dk_go 1 a_Mo_need_42 rfl
theorem a_Mo_need_44 : dk_at b_Mo_need 44 t_Mo_need_44 := dk_go 1 a_Mo_need_43 rfl
theorem a_Mo_need_45 : dk_at b_Mo_need 45 t_Mo_need_45 := dk_go 1 a_Mo_need_44 rfl
theorem a_Mo_need_46 : dk_at b_Mo_need 46 t_Mo_need_46 := dk_go 1 a_Mo_need_45 rfl
theorem d_Mo_need_0 : decode b_Mo_need 0 = .ok (.iload_n 1, 1) := dk_0 a_Mo_need_0 (dko_27 _)
theorem d_Mo_need_1 : decode b_Mo_need 1 = .ok (.iconst 1, 1) := dk_0 a_Mo_need_1 (dko_4 _)
theorem d_Mo_need_2 : decode b_Mo_need 2 = .ok (.if_icmp .lt 29, 3) := dk_S2 a_Mo_need_2 (dko_161 _) (by decide +kernel)
theorem d_Mo_need_5 : decode b_Mo_need 5 = .ok (.iload_n 1, 1) := dk_0 a_Mo_need_5 (dko_27 _)
theorem d_Mo_need_6 : decode b_Mo_need 6 = .ok (.bipush 14, 2) := dk_S1 a_Mo_need_6 (dko_16 _) (by decide +kernel)
theorem d_Mo_need_8 : decode b_Mo_need 8 = .ok (.if_icmp .gt 23, 3) := dk_S2 a_Mo_need_8 (dko_163 _) (by decide +kernel)
theorem d_Mo_need_11 : decode b_Mo_need 11 = .ok (.iload_n 2, 1) := dk_0 a_Mo_need_11 (dko_28 _)
theorem d_Mo_need_12 : decode b_Mo_need 12 = .ok (.iconst 1, 1) := dk_0 a_Mo_need_12 (dko_4 _)
theorem d_Mo_need_13 : decode b_Mo_need 13 = .ok (.if_icmp .lt 18, 3) := dk_S2 a_Mo_need_13 (dko_161 _) (by decide +kernel)
theorem d_Mo_need_16 : decode b_Mo_need 16 = .ok (.iload_n 2, 1) := dk_0 a_Mo_need_16 (dko_28 _)
theorem d_Mo_need_17 : decode b_Mo_need 17 = .ok (.bipush 14, 2) := dk_S1 a_Mo_need_17 (dko_16 _) (by decide +kernel)
theorem d_Mo_need_19 : decode b_Mo_need 19 = .ok (.if_icmp .gt 12, 3) := dk_S2 a_Mo_need_19 (dko_163 _) (by decide +kernel)
theorem d_Mo_need_22 : decode b_Mo_need 22 = .ok (.iload_n 3, 1) := dk_0 a_Mo_need_22 (dko_29 _)
theorem d_Mo_need_23 : decode b_Mo_need 23 = .ok (.ifCond .lt 8, 3) := dk_S2 a_Mo_need_23 (dko_155 _) (by decide +kernel)
theorem d_Mo_need_26 : decode b_Mo_need 26 = .ok (.iload_n 3, 1) := dk_0 a_Mo_need_26 (dko_29 _)
theorem d_Mo_need_27 : decode b_Mo_need 27 = .ok (.iconst 5, 1) := dk_0 a_Mo_need_27 (dko_8 _)
theorem d_Mo_need_28 : decode b_Mo_need 28 = .ok (.if_icmp .le 5, 3) := dk_S2 a_Mo_need_28 (dko_164 _) (by decide +kernel)
theorem d_Mo_need_31 : decode b_Mo_need 31 = .ok (.iconst 0, 1) := dk_0 a_Mo_need_31 (dko_3 _)
theorem d_Mo_need_32 : decode b_Mo_need 32 = .ok (.ireturn, 1) := dk_0 a_Mo_need_32 (dko_172 _)
theorem d_Mo_need_33 : decode b_Mo_need 33 = .ok (.aload_n 0, 1) := dk_0 a_Mo_need_33 (dko_42 _)
theorem d_Mo_need_34 : decode b_Mo_need 34 = .ok (.getfield 68, 3) := dk_U2 a_Mo_need_34 (dko_180 _) rfl
theorem d_Mo_need_37 : decode b_Mo_need 37 = .ok (.bipush 16, 2) := dk_S1 a_Mo_need_37 (dko_16 _) (by decide +kernel)
theorem d_Mo_need_39 : decode b_Mo_need 39 = .ok (.iload_n 1, 1) := dk_0 a_Mo_need_39 (dko_27 _)
theorem d_Mo_need_40 : decode b_Mo_need 40 = .ok (.imul, 1) := dk_0 a_Mo_need_40 (dko_104 _)
theorem d_Mo_need_41 : decode b_Mo_need 41 = .ok (.iload_n 2, 1) := dk_0 a_Mo_need_41 (dko_28 _)
theorem d_Mo_need_42 : decode b_Mo_need 42 = .ok (.iadd, 1) := dk_0 a_Mo_need_42 (dko_96 _)
theorem d_Mo_need_43 : decode b_Mo_need 43 = .ok (.iload_n 3, 1) := dk_0 a_Mo_need_43 (dko_29 _)
theorem d_Mo_need_44 : decode b_Mo_need 44 = .ok (.iastore, 1) := dk_0 a_Mo_need_44 (dko_79 _)
theorem d_Mo_need_45 : decode b_Mo_need 45 = .ok (.iconst 1, 1) := dk_0 a_Mo_need_45 (dko_4 _)
theorem d_Mo_need_46 : decode b_Mo_need 46 = .ok (.ireturn, 1) := dk_0 a_Mo_need_46 (dko_172 _)
def fn_Mo_need (la : Int32) (li : Int32) (lv : Int32) : Int32 := (if la < 1 then 0 else (if 14 < la then 0 else (if li < 1 then 0 else (if 14 < li then 0 else (if lv < 0 then 0 else (if lv ≤ 5 then 1 else 0))))))
set_option maxHeartbeats 4000000 in
set_option maxRecDepth 100000 in
theorem c_Mo_need (l : Launch) (dC : Nat → ClassId) (dI : Nat → Nat → Nat) (cI cB cZ cJ : ClassId) (la : Int32) (li : Int32) (lv : Int32) (oM : Nat) (am_needs : Nat) (fm : List Value) (hm_needs : fx fm 19 (.ref am_needs)) (sz : Nat) : Met l y_Mo_need w_Mo_need ({ frames := 0, cells := 0, slots := 0, locals := 0 }) (va_Pc [.ref oM, .int la, .int li, .int lv] (PW dC dI cI cB cZ cJ [(oM, .inr (12, fm)), (am_needs, .inl (cI, 256, .inl (fun _ => 5)))] sz)) (va_Qi (fun (r : Int32) (_ : Unit) => r = fn_Mo_need la li lv) (fun _ _ => True) (va_A [(oM, .inr (12, fm)), (am_needs, .inl (cI, 256, .inl (fun _ => 5)))] sz)) 0 0 (va_A [(oM, .inr (12, fm)), (am_needs, .inl (cI, 256, .inl (fun _ => 5)))] sz) := by
  refine Met.ofW (cc := b_Mo_need) (maxL := 4) (ret := (some .boolean)) (by decide) rfl ?_
  intro p e s m args below meth c s₁ B hml hv
  obtain ⟨rfl, hsz, hP, hK, hD⟩ := hv
  have hx := B.exec
  have hb := B.bytes
  have hr := B.returns
  have hts := atoms_spec (ws := w_Mo_need) B.pre
  have hown : s.vm.findClass R_Mo = some m.cls := findClass_of_methodNamed B.named
  have hlocks := B.notSynchronized
  subst hsz
  have hD := hD.self (sz := s.heap.size)
  generalize hAe : va_A [(oM, .inr (12, fm)), (am_needs, .inl (cI, 256, .inl (fun _ => 5)))] s.heap.size = A at hD ⊢
  have hA : ∀ q : Nat, s.heap.size ≤ q → A q := fun q h => by rw [← hAe]; exact Or.inr h
  have hS : va_S A s.heap s.heap [] := va_S.rf
  have hP : va_P (dC, dI) classes [(oM, .inr (12, fm)), (am_needs, .inl (cI, 256, .inl (fun _ => 5)))] s.heap := hP
  have hl := lv_entry ([.ref oM, .int la, .int li, .int lv]) (n := 4) (Nat.le_of_ble_eq_true rfl)
  rw [lg_entry_eq]
  generalize (lg_sl ([.ref oM, .int la, .int li, .int lv]) ++ List.replicate (4 - (lg_sl ([.ref oM, .int la, .int li, .int lv])).length) Slot.unset).toArray = ls at hl ⊢
  have hl : lv_has ls 4 [(0, .ref oM), (1, .int la), (2, .int li), (3, .int lv)] := hl
  refine lv_iload_n hx hb d_Mo_need_0 rfl (lv_at hl 1 rfl) ?_
  refine lv_iconst (v := 1) hx hb d_Mo_need_1 (by decide) ?_
  refine lv_icmp_lt (tgt := 31) hx hb d_Mo_need_2 (by decide) (fun h2 => ?_) (fun h2 => ?_)
  · refine lv_iconst (v := 0) hx hb d_Mo_need_31 (by decide) ?_
    exact W.zret (v := 0) (ty := .boolean) hx hb hr (by decide) (fun t ht hW => ⟨⟨_, (), rfl, (by unfold fn_Mo_need; rw [if_pos h2]), trivial⟩, hS.F ht⟩) hS.2.2 d_Mo_need_32
  · refine lv_iload_n hx hb d_Mo_need_5 rfl (lv_at hl 1 rfl) ?_
    refine lv_bipush (v := 14) hx hb d_Mo_need_6 (by decide) ?_
    refine lv_icmp_gt (tgt := 31) hx hb d_Mo_need_8 (by decide) (fun h8 => ?_) (fun h8 => ?_)
    · refine lv_iconst (v := 0) hx hb d_Mo_need_31 (by decide) ?_
      exact W.zret (v := 0) (ty := .boolean) hx hb hr (by decide) (fun t ht hW => ⟨⟨_, (), rfl, (by unfold fn_Mo_need; rw [if_neg h2, if_pos h8]), trivial⟩, hS.F ht⟩) hS.2.2 d_Mo_need_32
    · refine lv_iload_n hx hb d_Mo_need_11 rfl (lv_at hl 2 rfl) ?_
      refine lv_iconst (v := 1) hx hb d_Mo_need_12 (by decide) ?_
      refine lv_icmp_lt (tgt := 31) hx hb d_Mo_need_13 (by decide) (fun h13 => ?_) (fun h13 => ?_)
      · refine lv_iconst (v := 0) hx hb d_Mo_need_31 (by decide) ?_
        exact W.zret (v := 0) (ty := .boolean) hx hb hr (by decide) (fun t ht hW => ⟨⟨_, (), rfl, (by unfold fn_Mo_need; rw [if_neg h2, if_neg h8, if_pos h13]), trivial⟩, hS.F ht⟩) hS.2.2 d_Mo_need_32
      · refine lv_iload_n hx hb d_Mo_need_16 rfl (lv_at hl 2 rfl) ?_
        refine lv_bipush (v := 14) hx hb d_Mo_need_17 (by decide) ?_
        refine lv_icmp_gt (tgt := 31) hx hb d_Mo_need_19 (by decide) (fun h19 => ?_) (fun h19 => ?_)
        · refine lv_iconst (v := 0) hx hb d_Mo_need_31 (by decide) ?_
          exact W.zret (v := 0) (ty := .boolean) hx hb hr (by decide) (fun t ht hW => ⟨⟨_, (), rfl, (by unfold fn_Mo_need; rw [if_neg h2, if_neg h8, if_neg h13, if_pos h19]), trivial⟩, hS.F ht⟩) hS.2.2 d_Mo_need_32
        · refine lv_iload_n hx hb d_Mo_need_22 rfl (lv_at hl 3 rfl) ?_
          refine lv_if_lt (tgt := 31) hx hb d_Mo_need_23 (by decide) (fun h23 => ?_) (fun h23 => ?_)
          · refine lv_iconst (v := 0) hx hb d_Mo_need_31 (by decide) ?_
            exact W.zret (v := 0) (ty := .boolean) hx hb hr (by decide) (fun t ht hW => ⟨⟨_, (), rfl, (by unfold fn_Mo_need; rw [if_neg h2, if_neg h8, if_neg h13, if_neg h19, if_pos h23]), trivial⟩, hS.F ht⟩) hS.2.2 d_Mo_need_32
          · refine lv_iload_n hx hb d_Mo_need_26 rfl (lv_at hl 3 rfl) ?_
            refine lv_iconst (v := 5) hx hb d_Mo_need_27 (by decide) ?_
            refine lv_icmp_le (tgt := 33) hx hb d_Mo_need_28 (by decide) (fun h28 => ?_) (fun h28 => ?_)
            · refine lv_aload_n hx hb d_Mo_need_33 rfl (lv_at hl 0 rfl) ?_
              refine va_get (D := (dC, dI)) (ci := 12) (v := .ref am_needs) (C := R_Mo) (T := F_Mo) (N := 87) hx hb hts (fun w h => List.mem_cons_of_mem _ (in_Mo w h)) hown hK.1 hP 0 rfl rfl 19 (by decide) (hts _ (List.mem_cons_of_mem _ mw_1813)) (fun _ h9 => h9) hm_needs d_Mo_need_34 ?_
              refine lv_bipush (v := 16) hx hb d_Mo_need_37 (by decide) ?_
              refine lv_iload_n hx hb d_Mo_need_39 rfl (lv_at hl 1 rfl) ?_
              refine lv_imul hx hb d_Mo_need_40 ?_
              refine lv_iload_n hx hb d_Mo_need_41 rfl (lv_at hl 2 rfl) ?_
              refine lv_iadd hx hb d_Mo_need_42 ?_
              refine lv_iload_n hx hb d_Mo_need_43 rfl (lv_at hl 3 rfl) ?_
              refine va_iast hx hb hK.1 hP hD hS 1 0 rfl rfl (ir_16 h2 h8 h13 h19) d_Mo_need_44 (fun H locs hP hD hS => ?_)
              have hP : va_P (dC, dI) classes [(oM, .inr (12, fm)), (am_needs, .inl (cI, 256, .inl ((upd (fun _ => 5) (((16 * la) + li) : Int32).toNatClampNeg lv))))] H := hP
              have hD : va_D A [(oM, .inr (12, fm)), (am_needs, .inl (cI, 256, .inl ((upd (fun _ => 5) (((16 * la) + li) : Int32).toNatClampNeg lv))))] := hD
              generalize (upd (fun _ => 5) (((16 * la) + li) : Int32).toNatClampNeg lv) = f44_7 at hP hD
              refine lv_iconst (v := 1) hx hb d_Mo_need_45 (by decide) ?_
              exact W.zret (v := 1) (ty := .boolean) hx hb hr (by decide) (fun t ht hW => ⟨⟨_, (), rfl, (by unfold fn_Mo_need; rw [if_neg h2, if_neg h8, if_neg h13, if_neg h19, if_neg h23, if_pos h28]), trivial⟩, hS.F ht⟩) hS.2.2 d_Mo_need_46
            · refine lv_iconst (v := 0) hx hb d_Mo_need_31 (by decide) ?_
              exact W.zret (v := 0) (ty := .boolean) hx hb hr (by decide) (fun t ht hW => ⟨⟨_, (), rfl, (by unfold fn_Mo_need; rw [if_neg h2, if_neg h8, if_neg h13, if_neg h19, if_neg h23, if_neg h28]), trivial⟩, hS.F ht⟩) hS.2.2 d_Mo_need_32
abbrev t_Mo_may_76 : List UInt8 := 172 :: []
abbrev t_Mo_may_75 : List UInt8 := 29 :: t_Mo_may_76
abbrev t_Mo_may_74 : List UInt8 := 84 :: t_Mo_may_75
abbrev t_Mo_may_73 : List UInt8 := 4 :: t_Mo_may_74
abbrev t_Mo_may_72 : List UInt8 := 96 :: t_Mo_may_73
abbrev t_Mo_may_71 : List UInt8 := 27 :: t_Mo_may_72
abbrev t_Mo_may_70 : List UInt8 := 104 :: t_Mo_may_71
abbrev t_Mo_may_69 : List UInt8 := 28 :: t_Mo_may_70
abbrev t_Mo_may_67 : List UInt8 := 16 :: 16 :: t_Mo_may_69
abbrev t_Mo_may_64 : List UInt8 := 180 :: 0 :: 64 :: t_Mo_may_67
abbrev t_Mo_may_63 : List UInt8 := 42 :: t_Mo_may_64
abbrev t_Mo_may_62 : List UInt8 := 84 :: t_Mo_may_63
abbrev t_Mo_may_61 : List UInt8 := 4 :: t_Mo_may_62
abbrev t_Mo_may_60 : List UInt8 := 96 :: t_Mo_may_61
abbrev t_Mo_may_59 : List UInt8 := 28 :: t_Mo_may_60
abbrev t_Mo_may_58 : List UInt8 := 104 :: t_Mo_may_59
abbrev t_Mo_may_57 : List UInt8 := 27 :: t_Mo_may_58
abbrev t_Mo_may_55 : List UInt8 := 16 :: 16 :: t_Mo_may_57
abbrev t_Mo_may_52 : List UInt8 := 180 :: 0 :: 64 :: t_Mo_may_55
abbrev t_Mo_may_51 : List UInt8 := 42 :: t_Mo_may_52
abbrev t_Mo_may_48 : List UInt8 := 153 :: 0 :: 27 :: t_Mo_may_51
abbrev t_Mo_may_47 : List UInt8 := 29 :: t_Mo_may_48
abbrev t_Mo_may_46 : List UInt8 := 62 :: t_Mo_may_47
abbrev t_Mo_may_45 : List UInt8 := 3 :: t_Mo_may_46
abbrev t_Mo_may_42 : List UInt8 := 167 :: 0 :: 4 :: t_Mo_may_45
abbrev t_Mo_may_41 : List UInt8 := 4 :: t_Mo_may_42
abbrev t_Mo_may_38 : List UInt8 := 154 :: 0 :: 7 :: t_Mo_may_41
abbrev t_Mo_may_37 : List UInt8 := 51 :: t_Mo_may_38
abbrev t_Mo_may_36 : List UInt8 := 96 :: t_Mo_may_37
abbrev t_Mo_may_35 : List UInt8 := 28 :: t_Mo_may_36
abbrev t_Mo_may_34 : List UInt8 := 104 :: t_Mo_may_35
abbrev t_Mo_may_33 : List UInt8 := 27 :: t_Mo_may_34
abbrev t_Mo_may_31 : List UInt8 := 16 :: 16 :: t_Mo_may_33
abbrev t_Mo_may_28 : List UInt8 := 180 :: 0 :: 64 :: t_Mo_may_31
abbrev t_Mo_may_27 : List UInt8 := 42 :: t_Mo_may_28
abbrev t_Mo_may_24 : List UInt8 := 159 :: 0 :: 21 :: t_Mo_may_27
abbrev t_Mo_may_23 : List UInt8 := 28 :: t_Mo_may_24
abbrev t_Mo_may_22 : List UInt8 := 27 :: t_Mo_may_23
abbrev t_Mo_may_19 : List UInt8 := 163 :: 0 :: 26 :: t_Mo_may_22
abbrev t_Mo_may_17 : List UInt8 := 16 :: 14 :: t_Mo_may_19
abbrev t_Mo_may_16 : List UInt8 := 28 :: t_Mo_may_17
abbrev t_Mo_may_13 : List UInt8 := 161 :: 0 :: 32 :: t_Mo_may_16
abbrev t_Mo_may_12 : List UInt8 := 4 :: t_Mo_may_13
abbrev t_Mo_may_11 : List UInt8 := 28 :: t_Mo_may_12
abbrev t_Mo_may_8 : List UInt8 := 163 :: 0 :: 37 :: t_Mo_may_11
abbrev t_Mo_may_6 : List UInt8 := 16 :: 14 :: t_Mo_may_8
abbrev t_Mo_may_5 : List UInt8 := 27 :: t_Mo_may_6
abbrev t_Mo_may_2 : List UInt8 := 161 :: 0 :: 43 :: t_Mo_may_5
abbrev t_Mo_may_1 : List UInt8 := 4 :: t_Mo_may_2
abbrev t_Mo_may_0 : List UInt8 := 27 :: t_Mo_may_1
theorem a_Mo_may_0 : dk_at b_Mo_may 0 t_Mo_may_0 := dk_start (by decide +kernel)
theorem a_Mo_may_1 : dk_at b_Mo_may 1 t_Mo_may_1 := dk_go 1 a_Mo_may_0 rfl
theorem a_Mo_may_2 : dk_at b_Mo_may 2 t_Mo_may_2 := dk_go 1 a_Mo_may_1 rfl
theorem a_Mo_may_5 : dk_at b_Mo_may 5 t_Mo_may_5 := dk_go 3 a_Mo_may_2 rfl
theorem a_Mo_may_6 : dk_at b_Mo_may 6 t_Mo_may_6 := dk_go 1 a_Mo_may_5 rfl
theorem a_Mo_may_8 : dk_at b_Mo_may 8 t_Mo_may_8 := dk_go 2 a_Mo_may_6 rfl
theorem a_Mo_may_11 : dk_at b_Mo_may 11 t_Mo_may_11 := dk_go 3 a_Mo_may_8 rfl
theorem a_Mo_may_12 : dk_at b_Mo_may 12 t_Mo_may_12 := dk_go 1 a_Mo_may_11 rfl
theorem a_Mo_may_13 : dk_at b_Mo_may 13 t_Mo_may_13 := dk_go 1 a_Mo_may_12 rfl
theorem a_Mo_may_16 : dk_at b_Mo_may 16 t_Mo_may_16 := dk_go 3 a_Mo_may_13 rfl
theorem a_Mo_may_17 : dk_at b_Mo_may 17 t_Mo_may_17 := dk_go 1 a_Mo_may_16 rfl
theorem a_Mo_may_19 : dk_at b_Mo_may 19 t_Mo_may_19 := dk_go 2 a_Mo_may_17 rfl
theorem a_Mo_may_22 : dk_at b_Mo_may 22 t_Mo_may_22 := dk_go 3 a_Mo_may_19 rfl
theorem a_Mo_may_23 : dk_at b_Mo_may 23 t_Mo_may_23 := dk_go 1 a_Mo_may_22 rfl
theorem a_Mo_may_24 : dk_at b_Mo_may 24 t_Mo_may_24 := dk_go 1 a_Mo_may_23 rfl
theorem a_Mo_may_27 : dk_at b_Mo_may 27 t_Mo_may_27 := dk_go 3 a_Mo_may_24 rfl
theorem a_Mo_may_28 : dk_at b_Mo_may 28 t_Mo_may_28 := dk_go 1 a_Mo_may_27 rfl
theorem a_Mo_may_31 : dk_at b_Mo_may 31 t_Mo_may_31 := dk_go 3 a_Mo_may_28 rfl
theorem a_Mo_may_33 : dk_at b_Mo_may 33 t_Mo_may_33 := dk_go 2 a_Mo_may_31 rfl
theorem a_Mo_may_34 : dk_at b_Mo_may 34 t_Mo_may_34 := dk_go 1 a_Mo_may_33 rfl
theorem a_Mo_may_35 : dk_at b_Mo_may 35 t_Mo_may_35 := dk_go 1 a_Mo_may_34 rfl
theorem a_Mo_may_36 : dk_at b_Mo_may 36 t_Mo_may_36 := dk_go 1 a_Mo_may_35 rfl
theorem a_Mo_may_37 : dk_at b_Mo_may 37 t_Mo_may_37 := dk_go 1 a_Mo_may_36 rfl
theorem a_Mo_may_38 : dk_at b_Mo_may 38 t_Mo_may_38 := dk_go 1 a_Mo_may_37 rfl
theorem a_Mo_may_41 : dk_at b_Mo_may 41 t_Mo_may_41 := dk_go 3 a_Mo_may_38 rfl
theorem a_Mo_may_42 : dk_at b_Mo_may 42 t_Mo_may_42 := dk_go 1 a_Mo_may_41 rfl
theorem a_Mo_may_45 : dk_at b_Mo_may 45 t_Mo_may_45 := dk_go 3 a_Mo_may_42 rfl
theorem a_Mo_may_46 : dk_at b_Mo_may 46 t_Mo_may_46 := dk_go 1 a_Mo_may_45 rfl
theorem a_Mo_may_47 : dk_at b_Mo_may 47 t_Mo_may_47 := dk_go 1 a_Mo_may_46 rfl
theorem a_Mo_may_48 : dk_at b_Mo_may 48 t_Mo_may_48 := dk_go 1 a_Mo_may_47 rfl
theorem a_Mo_may_51 : dk_at b_Mo_may 51 t_Mo_may_51 := dk_go 3 a_Mo_may_48 rfl
theorem a_Mo_may_52 : dk_at b_Mo_may 52 t_Mo_may_52 := dk_go 1 a_Mo_may_51 rfl
theorem a_Mo_may_55 : dk_at b_Mo_may 55 t_Mo_may_55 := dk_go 3 a_Mo_may_52 rfl
theorem a_Mo_may_57 : dk_at b_Mo_may 57 t_Mo_may_57 := dk_go 2 a_Mo_may_55 rfl
theorem a_Mo_may_58 : dk_at b_Mo_may 58 t_Mo_may_58 := dk_go 1 a_Mo_may_57 rfl
theorem a_Mo_may_59 : dk_at b_Mo_may 59 t_Mo_may_59 := dk_go 1 a_Mo_may_58 rfl
theorem a_Mo_may_60 : dk_at b_Mo_may 60 t_Mo_may_60 := dk_go 1 a_Mo_may_59 rfl
theorem a_Mo_may_61 : dk_at b_Mo_may 61 t_Mo_may_61 := dk_go 1 a_Mo_may_60 rfl
theorem a_Mo_may_62 : dk_at b_Mo_may 62 t_Mo_may_62 := dk_go 1 a_Mo_may_61 rfl
theorem a_Mo_may_63 : dk_at b_Mo_may 63 t_Mo_may_63 := dk_go 1 a_Mo_may_62 rfl
theorem a_Mo_may_64 : dk_at b_Mo_may 64 t_Mo_may_64 := dk_go 1 a_Mo_may_63 rfl
theorem a_Mo_may_67 : dk_at b_Mo_may 67 t_Mo_may_67 := dk_go 3 a_Mo_may_64 rfl
theorem a_Mo_may_69 : dk_at b_Mo_may 69 t_Mo_may_69 := dk_go 2 a_Mo_may_67 rfl
theorem a_Mo_may_70 : dk_at b_Mo_may 70 t_Mo_may_70 := dk_go 1 a_Mo_may_69 rfl
theorem a_Mo_may_71 : dk_at b_Mo_may 71 t_Mo_may_71 := dk_go 1 a_Mo_may_70 rfl
theorem a_Mo_may_72 : dk_at b_Mo_may 72 t_Mo_may_72 := dk_go 1 a_Mo_may_71 rfl
theorem a_Mo_may_73 : dk_at b_Mo_may 73 t_Mo_may_73 := dk_go 1 a_Mo_may_72 rfl
theorem a_Mo_may_74 : dk_at b_Mo_may 74 t_Mo_may_74 := dk_go 1 a_Mo_may_73 rfl
theorem a_Mo_may_75 : dk_at b_Mo_may 75 t_Mo_may_75 := dk_go 1 a_Mo_may_74 rfl
theorem a_Mo_may_76 : dk_at b_Mo_may 76 t_Mo_may_76 := dk_go 1 a_Mo_may_75 rfl
theorem d_Mo_may_0 : decode b_Mo_may 0 = .ok (.iload_n 1, 1) := dk_0 a_Mo_may_0 (dko_27 _)
theorem d_Mo_may_1 : decode b_Mo_may 1 = .ok (.iconst 1, 1) := dk_0 a_Mo_may_1 (dko_4 _)
theorem d_Mo_may_2 : decode b_Mo_may 2 = .ok (.if_icmp .lt 43, 3) := dk_S2 a_Mo_may_2 (dko_161 _) (by decide +kernel)
theorem d_Mo_may_5 : decode b_Mo_may 5 = .ok (.iload_n 1, 1) := dk_0 a_Mo_may_5 (dko_27 _)
theorem d_Mo_may_6 : decode b_Mo_may 6 = .ok (.bipush 14, 2) := dk_S1 a_Mo_may_6 (dko_16 _) (by decide +kernel)
theorem d_Mo_may_8 : decode b_Mo_may 8 = .ok (.if_icmp .gt 37, 3) := dk_S2 a_Mo_may_8 (dko_163 _) (by decide +kernel)
theorem d_Mo_may_11 : decode b_Mo_may 11 = .ok (.iload_n 2, 1) := dk_0 a_Mo_may_11 (dko_28 _)
theorem d_Mo_may_12 : decode b_Mo_may 12 = .ok (.iconst 1, 1) := dk_0 a_Mo_may_12 (dko_4 _)
theorem d_Mo_may_13 : decode b_Mo_may 13 = .ok (.if_icmp .lt 32, 3) := dk_S2 a_Mo_may_13 (dko_161 _) (by decide +kernel)
theorem d_Mo_may_16 : decode b_Mo_may 16 = .ok (.iload_n 2, 1) := dk_0 a_Mo_may_16 (dko_28 _)
theorem d_Mo_may_17 : decode b_Mo_may 17 = .ok (.bipush 14, 2) := dk_S1 a_Mo_may_17 (dko_16 _) (by decide +kernel)
theorem d_Mo_may_19 : decode b_Mo_may 19 = .ok (.if_icmp .gt 26, 3) := dk_S2 a_Mo_may_19 (dko_163 _) (by decide +kernel)
theorem d_Mo_may_22 : decode b_Mo_may 22 = .ok (.iload_n 1, 1) := dk_0 a_Mo_may_22 (dko_27 _)
theorem d_Mo_may_23 : decode b_Mo_may 23 = .ok (.iload_n 2, 1) := dk_0 a_Mo_may_23 (dko_28 _)
theorem d_Mo_may_24 : decode b_Mo_may 24 = .ok (.if_icmp .eq 21, 3) := dk_S2 a_Mo_may_24 (dko_159 _) (by decide +kernel)
theorem d_Mo_may_27 : decode b_Mo_may 27 = .ok (.aload_n 0, 1) := dk_0 a_Mo_may_27 (dko_42 _)
theorem d_Mo_may_28 : decode b_Mo_may 28 = .ok (.getfield 64, 3) := dk_U2 a_Mo_may_28 (dko_180 _) rfl
theorem d_Mo_may_31 : decode b_Mo_may 31 = .ok (.bipush 16, 2) := dk_S1 a_Mo_may_31 (dko_16 _) (by decide +kernel)
theorem d_Mo_may_33 : decode b_Mo_may 33 = .ok (.iload_n 1, 1) := dk_0 a_Mo_may_33 (dko_27 _)
theorem d_Mo_may_34 : decode b_Mo_may 34 = .ok (.imul, 1) := dk_0 a_Mo_may_34 (dko_104 _)
theorem d_Mo_may_35 : decode b_Mo_may 35 = .ok (.iload_n 2, 1) := dk_0 a_Mo_may_35 (dko_28 _)
theorem d_Mo_may_36 : decode b_Mo_may 36 = .ok (.iadd, 1) := dk_0 a_Mo_may_36 (dko_96 _)
theorem d_Mo_may_37 : decode b_Mo_may 37 = .ok (.baload, 1) := dk_0 a_Mo_may_37 (dko_51 _)
theorem d_Mo_may_38 : decode b_Mo_may 38 = .ok (.ifCond .ne 7, 3) := dk_S2 a_Mo_may_38 (dko_154 _) (by decide +kernel)
theorem d_Mo_may_41 : decode b_Mo_may 41 = .ok (.iconst 1, 1) := dk_0 a_Mo_may_41 (dko_4 _)
theorem d_Mo_may_42 : decode b_Mo_may 42 = .ok (.goto 4, 3) := dk_S2 a_Mo_may_42 (dko_167 _) (by decide +kernel)
theorem d_Mo_may_45 : decode b_Mo_may 45 = .ok (.iconst 0, 1) := dk_0 a_Mo_may_45 (dko_3 _)
theorem d_Mo_may_46 : decode b_Mo_may 46 = .ok (.istore_n 3, 1) := dk_0 a_Mo_may_46 (dko_62 _)
theorem d_Mo_may_47 : decode b_Mo_may 47 = .ok (.iload_n 3, 1) := dk_0 a_Mo_may_47 (dko_29 _)
theorem d_Mo_may_48 : decode b_Mo_may 48 = .ok (.ifCond .eq 27, 3) := dk_S2 a_Mo_may_48 (dko_153 _) (by decide +kernel)
theorem d_Mo_may_51 : decode b_Mo_may 51 = .ok (.aload_n 0, 1) := dk_0 a_Mo_may_51 (dko_42 _)
theorem d_Mo_may_52 : decode b_Mo_may 52 = .ok (.getfield 64, 3) := dk_U2 a_Mo_may_52 (dko_180 _) rfl
theorem d_Mo_may_55 : decode b_Mo_may 55 = .ok (.bipush 16, 2) := dk_S1 a_Mo_may_55 (dko_16 _) (by decide +kernel)
theorem d_Mo_may_57 : decode b_Mo_may 57 = .ok (.iload_n 1, 1) := dk_0 a_Mo_may_57 (dko_27 _)
theorem d_Mo_may_58 : decode b_Mo_may 58 = .ok (.imul, 1) := dk_0 a_Mo_may_58 (dko_104 _)
theorem d_Mo_may_59 : decode b_Mo_may 59 = .ok (.iload_n 2, 1) := dk_0 a_Mo_may_59 (dko_28 _)
theorem d_Mo_may_60 : decode b_Mo_may 60 = .ok (.iadd, 1) := dk_0 a_Mo_may_60 (dko_96 _)
theorem d_Mo_may_61 : decode b_Mo_may 61 = .ok (.iconst 1, 1) := dk_0 a_Mo_may_61 (dko_4 _)
theorem d_Mo_may_62 : decode b_Mo_may 62 = .ok (.bastore, 1) := dk_0 a_Mo_may_62 (dko_84 _)
theorem d_Mo_may_63 : decode b_Mo_may 63 = .ok (.aload_n 0, 1) := dk_0 a_Mo_may_63 (dko_42 _)
theorem d_Mo_may_64 : decode b_Mo_may 64 = .ok (.getfield 64, 3) := dk_U2 a_Mo_may_64 (dko_180 _) rfl
theorem d_Mo_may_67 : decode b_Mo_may 67 = .ok (.bipush 16, 2) := dk_S1 a_Mo_may_67 (dko_16 _) (by decide +kernel)
theorem d_Mo_may_69 : decode b_Mo_may 69 = .ok (.iload_n 2, 1) := dk_0 a_Mo_may_69 (dko_28 _)
theorem d_Mo_may_70 : decode b_Mo_may 70 = .ok (.imul, 1) := dk_0 a_Mo_may_70 (dko_104 _)
theorem d_Mo_may_71 : decode b_Mo_may 71 = .ok (.iload_n 1, 1) := dk_0 a_Mo_may_71 (dko_27 _)
theorem d_Mo_may_72 : decode b_Mo_may 72 = .ok (.iadd, 1) := dk_0 a_Mo_may_72 (dko_96 _)
theorem d_Mo_may_73 : decode b_Mo_may 73 = .ok (.iconst 1, 1) := dk_0 a_Mo_may_73 (dko_4 _)
theorem d_Mo_may_74 : decode b_Mo_may 74 = .ok (.bastore, 1) := dk_0 a_Mo_may_74 (dko_84 _)
theorem d_Mo_may_75 : decode b_Mo_may 75 = .ok (.iload_n 3, 1) := dk_0 a_Mo_may_75 (dko_29 _)
theorem d_Mo_may_76 : decode b_Mo_may 76 = .ok (.ireturn, 1) := dk_0 a_Mo_may_76 (dko_172 _)
def fn_Mo_may (li : Int32) (ot : Int32) : Int32 := (if li < 1 then 0 else (if 14 < li then 0 else (if ot < 1 then 0 else (if 14 < ot then 0 else (if li = ot then 0 else 1)))))
set_option maxHeartbeats 4000000 in
set_option maxRecDepth 100000 in
theorem c_Mo_may (l : Launch) (dC : Nat → ClassId) (dI : Nat → Nat → Nat) (cI cB cZ cJ : ClassId) (li : Int32) (ot : Int32) (oM : Nat) (am_meet : Nat) (fm : List Value) (hm_meet : fx fm 18 (.ref am_meet)) (sz : Nat) : Met l y_Mo_may w_Mo_may ({ frames := 0, cells := 0, slots := 0, locals := 0 }) (va_Pc [.ref oM, .int li, .int ot] (PW dC dI cI cB cZ cJ [(oM, .inr (12, fm)), (am_meet, .inl (cZ, 256, .inl (fun _ => 0)))] sz)) (va_Qi (fun (r : Int32) (_ : Unit) => r = fn_Mo_may li ot) (fun _ _ => True) (va_A [(oM, .inr (12, fm)), (am_meet, .inl (cZ, 256, .inl (fun _ => 0)))] sz)) 0 0 (va_A [(oM, .inr (12, fm)), (am_meet, .inl (cZ, 256, .inl (fun _ => 0)))] sz) := by
  refine Met.ofW (cc := b_Mo_may) (maxL := 4) (ret := (some .boolean)) (by decide) rfl ?_
  intro p e s m args below meth c s₁ B hml hv
  obtain ⟨rfl, hsz, hP, hK, hD⟩ := hv
  have hx := B.exec
  have hb := B.bytes
  have hr := B.returns
  have hts := atoms_spec (ws := w_Mo_may) B.pre
  have hown : s.vm.findClass R_Mo = some m.cls := findClass_of_methodNamed B.named
  have hlocks := B.notSynchronized
  subst hsz
  have hD := hD.self (sz := s.heap.size)
  generalize hAe : va_A [(oM, .inr (12, fm)), (am_meet, .inl (cZ, 256, .inl (fun _ => 0)))] s.heap.size = A at hD ⊢
  have hA : ∀ q : Nat, s.heap.size ≤ q → A q := fun q h => by rw [← hAe]; exact Or.inr h
  have hS : va_S A s.heap s.heap [] := va_S.rf
  have hP : va_P (dC, dI) classes [(oM, .inr (12, fm)), (am_meet, .inl (cZ, 256, .inl (fun _ => 0)))] s.heap := hP
  have hl := lv_entry ([.ref oM, .int li, .int ot]) (n := 4) (Nat.le_of_ble_eq_true rfl)
  rw [lg_entry_eq]
  generalize (lg_sl ([.ref oM, .int li, .int ot]) ++ List.replicate (4 - (lg_sl ([.ref oM, .int li, .int ot])).length) Slot.unset).toArray = ls at hl ⊢
  have hl : lv_has ls 4 [(0, .ref oM), (1, .int li), (2, .int ot)] := hl
  refine lv_iload_n hx hb d_Mo_may_0 rfl (lv_at hl 1 rfl) ?_
  refine lv_iconst (v := 1) hx hb d_Mo_may_1 (by decide) ?_
  refine lv_icmp_lt (tgt := 45) hx hb d_Mo_may_2 (by decide) (fun h2 => ?_) (fun h2 => ?_)
  · refine lv_iconst (v := 0) hx hb d_Mo_may_45 (by decide) ?_
    refine lv_istore_n hx hb d_Mo_may_46 rfl hl (by decide) rfl (fun ls hl => ?_)
    have hl : lv_has ls 4 [(3, .int 0), (0, .ref oM), (1, .int li), (2, .int ot)] := hl
    refine lv_iload_n hx hb d_Mo_may_47 rfl (lv_at hl 0 rfl) ?_
    refine lv_if_eq (tgt := 75) hx hb d_Mo_may_48 (by decide) (fun _ => ?_) (fun h => absurd (by decide) h)
    refine lv_iload_n hx hb d_Mo_may_75 rfl (lv_at hl 0 rfl) ?_
    exact W.zret (v := 0) (ty := .boolean) hx hb hr (by decide) (fun t ht hW => ⟨⟨_, (), rfl, (by unfold fn_Mo_may; rw [if_pos h2]), trivial⟩, hS.F ht⟩) hS.2.2 d_Mo_may_76
  · refine lv_iload_n hx hb d_Mo_may_5 rfl (lv_at hl 1 rfl) ?_
    refine lv_bipush (v := 14) hx hb d_Mo_may_6 (by decide) ?_
    refine lv_icmp_gt (tgt := 45) hx hb d_Mo_may_8 (by decide) (fun h8 => ?_) (fun h8 => ?_)
    · refine lv_iconst (v := 0) hx hb d_Mo_may_45 (by decide) ?_
      refine lv_istore_n hx hb d_Mo_may_46 rfl hl (by decide) rfl (fun ls hl => ?_)
      have hl : lv_has ls 4 [(3, .int 0), (0, .ref oM), (1, .int li), (2, .int ot)] := hl
      refine lv_iload_n hx hb d_Mo_may_47 rfl (lv_at hl 0 rfl) ?_
      refine lv_if_eq (tgt := 75) hx hb d_Mo_may_48 (by decide) (fun _ => ?_) (fun h => absurd (by decide) h)
      refine lv_iload_n hx hb d_Mo_may_75 rfl (lv_at hl 0 rfl) ?_
      exact W.zret (v := 0) (ty := .boolean) hx hb hr (by decide) (fun t ht hW => ⟨⟨_, (), rfl, (by unfold fn_Mo_may; rw [if_neg h2, if_pos h8]), trivial⟩, hS.F ht⟩) hS.2.2 d_Mo_may_76
    · refine lv_iload_n hx hb d_Mo_may_11 rfl (lv_at hl 2 rfl) ?_
      refine lv_iconst (v := 1) hx hb d_Mo_may_12 (by decide) ?_
      refine lv_icmp_lt (tgt := 45) hx hb d_Mo_may_13 (by decide) (fun h13 => ?_) (fun h13 => ?_)
      · refine lv_iconst (v := 0) hx hb d_Mo_may_45 (by decide) ?_
        refine lv_istore_n hx hb d_Mo_may_46 rfl hl (by decide) rfl (fun ls hl => ?_)
        have hl : lv_has ls 4 [(3, .int 0), (0, .ref oM), (1, .int li), (2, .int ot)] := hl
        refine lv_iload_n hx hb d_Mo_may_47 rfl (lv_at hl 0 rfl) ?_
        refine lv_if_eq (tgt := 75) hx hb d_Mo_may_48 (by decide) (fun _ => ?_) (fun h => absurd (by decide) h)
        refine lv_iload_n hx hb d_Mo_may_75 rfl (lv_at hl 0 rfl) ?_
        exact W.zret (v := 0) (ty := .boolean) hx hb hr (by decide) (fun t ht hW => ⟨⟨_, (), rfl, (by unfold fn_Mo_may; rw [if_neg h2, if_neg h8, if_pos h13]), trivial⟩, hS.F ht⟩) hS.2.2 d_Mo_may_76
      · refine lv_iload_n hx hb d_Mo_may_16 rfl (lv_at hl 2 rfl) ?_
        refine lv_bipush (v := 14) hx hb d_Mo_may_17 (by decide) ?_
        refine lv_icmp_gt (tgt := 45) hx hb d_Mo_may_19 (by decide) (fun h19 => ?_) (fun h19 => ?_)
        · refine lv_iconst (v := 0) hx hb d_Mo_may_45 (by decide) ?_
          refine lv_istore_n hx hb d_Mo_may_46 rfl hl (by decide) rfl (fun ls hl => ?_)
          have hl : lv_has ls 4 [(3, .int 0), (0, .ref oM), (1, .int li), (2, .int ot)] := hl
          refine lv_iload_n hx hb d_Mo_may_47 rfl (lv_at hl 0 rfl) ?_
          refine lv_if_eq (tgt := 75) hx hb d_Mo_may_48 (by decide) (fun _ => ?_) (fun h => absurd (by decide) h)
          refine lv_iload_n hx hb d_Mo_may_75 rfl (lv_at hl 0 rfl) ?_
          exact W.zret (v := 0) (ty := .boolean) hx hb hr (by decide) (fun t ht hW => ⟨⟨_, (), rfl, (by unfold fn_Mo_may; rw [if_neg h2, if_neg h8, if_neg h13, if_pos h19]), trivial⟩, hS.F ht⟩) hS.2.2 d_Mo_may_76
        · refine lv_iload_n hx hb d_Mo_may_22 rfl (lv_at hl 1 rfl) ?_
          refine lv_iload_n hx hb d_Mo_may_23 rfl (lv_at hl 2 rfl) ?_
          refine lv_icmp_eq (tgt := 45) hx hb d_Mo_may_24 (by decide) (fun h24 => ?_) (fun h24 => ?_)
          · refine lv_iconst (v := 0) hx hb d_Mo_may_45 (by decide) ?_
            refine lv_istore_n hx hb d_Mo_may_46 rfl hl (by decide) rfl (fun ls hl => ?_)
            have hl : lv_has ls 4 [(3, .int 0), (0, .ref oM), (1, .int li), (2, .int ot)] := hl
            refine lv_iload_n hx hb d_Mo_may_47 rfl (lv_at hl 0 rfl) ?_
            refine lv_if_eq (tgt := 75) hx hb d_Mo_may_48 (by decide) (fun _ => ?_) (fun h => absurd (by decide) h)
            refine lv_iload_n hx hb d_Mo_may_75 rfl (lv_at hl 0 rfl) ?_
            exact W.zret (v := 0) (ty := .boolean) hx hb hr (by decide) (fun t ht hW => ⟨⟨_, (), rfl, (by unfold fn_Mo_may; rw [if_neg h2, if_neg h8, if_neg h13, if_neg h19, if_pos h24]), trivial⟩, hS.F ht⟩) hS.2.2 d_Mo_may_76
          · refine lv_aload_n hx hb d_Mo_may_27 rfl (lv_at hl 0 rfl) ?_
            refine va_get (D := (dC, dI)) (ci := 12) (v := .ref am_meet) (C := R_Mo) (T := F_Mo) (N := 87) hx hb hts (fun w h => List.mem_cons_of_mem _ (in_Mo w h)) hown hK.1 hP 0 rfl rfl 18 (by decide) (hts _ (List.mem_cons_of_mem _ mw_1812)) (fun _ h9 => h9) hm_meet d_Mo_may_28 ?_
            refine lv_bipush (v := 16) hx hb d_Mo_may_31 (by decide) ?_
            refine lv_iload_n hx hb d_Mo_may_33 rfl (lv_at hl 1 rfl) ?_
            refine lv_imul hx hb d_Mo_may_34 ?_
            refine lv_iload_n hx hb d_Mo_may_35 rfl (lv_at hl 2 rfl) ?_
            refine lv_iadd hx hb d_Mo_may_36 ?_
            refine va_zald hx hb hK.1 hP 1 2 rfl rfl (ir_16 h2 h8 h13 h19) d_Mo_may_37 ?_
            refine lv_if_ne (tgt := 45) hx hb d_Mo_may_38 (by decide) (fun h => absurd rfl h) (fun _ => ?_)
            refine lv_iconst (v := 1) hx hb d_Mo_may_41 (by decide) ?_
            refine lv_goto (tgt := 46) hx hb d_Mo_may_42 (by decide) ?_
            refine lv_istore_n hx hb d_Mo_may_46 rfl hl (by decide) rfl (fun ls hl => ?_)
            have hl : lv_has ls 4 [(3, .int 1), (0, .ref oM), (1, .int li), (2, .int ot)] := hl
            refine lv_iload_n hx hb d_Mo_may_47 rfl (lv_at hl 0 rfl) ?_
            refine lv_if_eq (tgt := 75) hx hb d_Mo_may_48 (by decide) (fun h => absurd h (by decide)) (fun _ => ?_)
            refine lv_aload_n hx hb d_Mo_may_51 rfl (lv_at hl 1 rfl) ?_
            refine va_get (D := (dC, dI)) (ci := 12) (v := .ref am_meet) (C := R_Mo) (T := F_Mo) (N := 87) hx hb hts (fun w h => List.mem_cons_of_mem _ (in_Mo w h)) hown hK.1 hP 0 rfl rfl 18 (by decide) (hts _ (List.mem_cons_of_mem _ mw_1812)) (fun _ h9 => h9) hm_meet d_Mo_may_52 ?_
            refine lv_bipush (v := 16) hx hb d_Mo_may_55 (by decide) ?_
            refine lv_iload_n hx hb d_Mo_may_57 rfl (lv_at hl 2 rfl) ?_
            refine lv_imul hx hb d_Mo_may_58 ?_
            refine lv_iload_n hx hb d_Mo_may_59 rfl (lv_at hl 3 rfl) ?_
            refine lv_iadd hx hb d_Mo_may_60 ?_
            refine lv_iconst (v := 1) hx hb d_Mo_may_61 (by decide) ?_
            refine va_zast hx hb hK.1 hP hD hS 1 2 rfl rfl (ir_16 h2 h8 h13 h19) d_Mo_may_62 (fun H locs hP hD hS => ?_)
            have hP : va_P (dC, dI) classes [(oM, .inr (12, fm)), (am_meet, .inl (cZ, 256, .inl ((upd (fun _ => 0) (((16 * li) + ot) : Int32).toNatClampNeg (vp_nar .boolean 1)))))] H := hP
            have hD : va_D A [(oM, .inr (12, fm)), (am_meet, .inl (cZ, 256, .inl ((upd (fun _ => 0) (((16 * li) + ot) : Int32).toNatClampNeg (vp_nar .boolean 1)))))] := hD
            generalize (upd (fun _ => 0) (((16 * li) + ot) : Int32).toNatClampNeg (vp_nar .boolean 1)) = f62_6 at hP hD
            refine lv_aload_n hx hb d_Mo_may_63 rfl (lv_at hl 1 rfl) ?_
            refine va_get (D := (dC, dI)) (ci := 12) (v := .ref am_meet) (C := R_Mo) (T := F_Mo) (N := 87) hx hb hts (fun w h => List.mem_cons_of_mem _ (in_Mo w h)) hown hK.1 hP 0 rfl rfl 18 (by decide) (hts _ (List.mem_cons_of_mem _ mw_1812)) (fun _ h9 => h9) hm_meet d_Mo_may_64 ?_
            refine lv_bipush (v := 16) hx hb d_Mo_may_67 (by decide) ?_
            refine lv_iload_n hx hb d_Mo_may_69 rfl (lv_at hl 3 rfl) ?_
            refine lv_imul hx hb d_Mo_may_70 ?_
            refine lv_iload_n hx hb d_Mo_may_71 rfl (lv_at hl 2 rfl) ?_
            refine lv_iadd hx hb d_Mo_may_72 ?_
            refine lv_iconst (v := 1) hx hb d_Mo_may_73 (by decide) ?_
            refine va_zast hx hb hK.1 hP hD hS 1 2 rfl rfl (ir_16 h13 h19 h2 h8) d_Mo_may_74 (fun H locs hP hD hS => ?_)
            have hP : va_P (dC, dI) classes [(oM, .inr (12, fm)), (am_meet, .inl (cZ, 256, .inl ((upd f62_6 (((16 * ot) + li) : Int32).toNatClampNeg (vp_nar .boolean 1)))))] H := hP
            have hD : va_D A [(oM, .inr (12, fm)), (am_meet, .inl (cZ, 256, .inl ((upd f62_6 (((16 * ot) + li) : Int32).toNatClampNeg (vp_nar .boolean 1)))))] := hD
            generalize (upd f62_6 (((16 * ot) + li) : Int32).toNatClampNeg (vp_nar .boolean 1)) = f74_7 at hP hD
            refine lv_iload_n hx hb d_Mo_may_75 rfl (lv_at hl 0 rfl) ?_
            exact W.zret (v := 1) (ty := .boolean) hx hb hr (by decide) (fun t ht hW => ⟨⟨_, (), rfl, (by unfold fn_Mo_may; rw [if_neg h2, if_neg h8, if_neg h13, if_neg h19, if_neg h24]), trivial⟩, hS.F ht⟩) hS.2.2 d_Mo_may_76
abbrev t_Mo_answer_66 : List UInt8 := 172 :: []
abbrev t_Mo_answer_65 : List UInt8 := 4 :: t_Mo_answer_66
abbrev t_Mo_answer_64 : List UInt8 := 80 :: t_Mo_answer_65
abbrev t_Mo_answer_63 : List UInt8 := 31 :: t_Mo_answer_64
abbrev t_Mo_answer_62 : List UInt8 := 136 :: t_Mo_answer_63
abbrev t_Mo_answer_61 : List UInt8 := 47 :: t_Mo_answer_62
abbrev t_Mo_answer_58 : List UInt8 := 182 :: 1 :: 231 :: t_Mo_answer_61
abbrev t_Mo_answer_57 : List UInt8 := 46 :: t_Mo_answer_58
abbrev t_Mo_answer_56 : List UInt8 := 29 :: t_Mo_answer_57
abbrev t_Mo_answer_53 : List UInt8 := 180 :: 0 :: 166 :: t_Mo_answer_56
abbrev t_Mo_answer_52 : List UInt8 := 42 :: t_Mo_answer_53
abbrev t_Mo_answer_49 : List UInt8 := 180 :: 0 :: 16 :: t_Mo_answer_52
abbrev t_Mo_answer_48 : List UInt8 := 42 :: t_Mo_answer_49
abbrev t_Mo_answer_45 : List UInt8 := 180 :: 1 :: 243 :: t_Mo_answer_48
abbrev t_Mo_answer_42 : List UInt8 := 180 :: 0 :: 16 :: t_Mo_answer_45
abbrev t_Mo_answer_41 : List UInt8 := 42 :: t_Mo_answer_42
abbrev t_Mo_answer_38 : List UInt8 := 180 :: 0 :: 159 :: t_Mo_answer_41
abbrev t_Mo_answer_37 : List UInt8 := 42 :: t_Mo_answer_38
abbrev t_Mo_answer_36 : List UInt8 := 84 :: t_Mo_answer_37
abbrev t_Mo_answer_35 : List UInt8 := 4 :: t_Mo_answer_36
abbrev t_Mo_answer_34 : List UInt8 := 29 :: t_Mo_answer_35
abbrev t_Mo_answer_31 : List UInt8 := 180 :: 0 :: 178 :: t_Mo_answer_34
abbrev t_Mo_answer_30 : List UInt8 := 42 :: t_Mo_answer_31
abbrev t_Mo_answer_29 : List UInt8 := 172 :: t_Mo_answer_30
abbrev t_Mo_answer_28 : List UInt8 := 3 :: t_Mo_answer_29
abbrev t_Mo_answer_25 : List UInt8 := 160 :: 0 :: 5 :: t_Mo_answer_28
abbrev t_Mo_answer_24 : List UInt8 := 2 :: t_Mo_answer_25
abbrev t_Mo_answer_23 : List UInt8 := 29 :: t_Mo_answer_24
abbrev t_Mo_answer_22 : List UInt8 := 62 :: t_Mo_answer_23
abbrev t_Mo_answer_21 : List UInt8 := 2 :: t_Mo_answer_22
abbrev t_Mo_answer_18 : List UInt8 := 167 :: 0 :: 4 :: t_Mo_answer_21
abbrev t_Mo_answer_15 : List UInt8 := 182 :: 2 :: 60 :: t_Mo_answer_18
abbrev t_Mo_answer_14 : List UInt8 := 4 :: t_Mo_answer_15
abbrev t_Mo_answer_13 : List UInt8 := 3 :: t_Mo_answer_14
abbrev t_Mo_answer_12 : List UInt8 := 42 :: t_Mo_answer_13
abbrev t_Mo_answer_9 : List UInt8 := 154 :: 0 :: 12 :: t_Mo_answer_12
abbrev t_Mo_answer_6 : List UInt8 := 180 :: 0 :: 162 :: t_Mo_answer_9
abbrev t_Mo_answer_5 : List UInt8 := 42 :: t_Mo_answer_6
abbrev t_Mo_answer_2 : List UInt8 := 181 :: 2 :: 64 :: t_Mo_answer_5
abbrev t_Mo_answer_1 : List UInt8 := 3 :: t_Mo_answer_2
abbrev t_Mo_answer_0 : List UInt8 := 42 :: t_Mo_answer_1
theorem a_Mo_answer_0 : dk_at b_Mo_answer 0 t_Mo_answer_0 := dk_start (by decide +kernel)
theorem a_Mo_answer_1 : dk_at b_Mo_answer 1 t_Mo_answer_1 := dk_go 1 a_Mo_answer_0 rfl
theorem a_Mo_answer_2 : dk_at b_Mo_answer 2 t_Mo_answer_2 := dk_go 1 a_Mo_answer_1 rfl
theorem a_Mo_answer_5 : dk_at b_Mo_answer 5 t_Mo_answer_5 := dk_go 3 a_Mo_answer_2 rfl
theorem a_Mo_answer_6 : dk_at b_Mo_answer 6 t_Mo_answer_6 := dk_go 1 a_Mo_answer_5 rfl
theorem a_Mo_answer_9 : dk_at b_Mo_answer 9 t_Mo_answer_9 := dk_go 3 a_Mo_answer_6 rfl
theorem a_Mo_answer_12 : dk_at b_Mo_answer 12 t_Mo_answer_12 := dk_go 3 a_Mo_answer_9 rfl
theorem a_Mo_answer_13 : dk_at b_Mo_answer 13 t_Mo_answer_13 := dk_go 1 a_Mo_answer_12 rfl
theorem a_Mo_answer_14 : dk_at b_Mo_answer 14 t_Mo_answer_14 := dk_go 1 a_Mo_answer_13 rfl
theorem a_Mo_answer_15 : dk_at b_Mo_answer 15 t_Mo_answer_15 := dk_go 1 a_Mo_answer_14 rfl
theorem a_Mo_answer_18 : dk_at b_Mo_answer 18 t_Mo_answer_18 := dk_go 3 a_Mo_answer_15 rfl
theorem a_Mo_answer_21 : dk_at b_Mo_answer 21 t_Mo_answer_21 := dk_go 3 a_Mo_answer_18 rfl
theorem a_Mo_answer_22 : dk_at b_Mo_answer 22 t_Mo_answer_22 := dk_go 1 a_Mo_answer_21 rfl
theorem a_Mo_answer_23 : dk_at b_Mo_answer 23 t_Mo_answer_23 := dk_go 1 a_Mo_answer_22 rfl
theorem a_Mo_answer_24 : dk_at b_Mo_answer 24 t_Mo_answer_24 := dk_go 1 a_Mo_answer_23 rfl
theorem a_Mo_answer_25 : dk_at b_Mo_answer 25 t_Mo_answer_25 := dk_go 1 a_Mo_answer_24 rfl
theorem a_Mo_answer_28 : dk_at b_Mo_answer 28 t_Mo_answer_28 := dk_go 3 a_Mo_answer_25 rfl
theorem a_Mo_answer_29 : dk_at b_Mo_answer 29 t_Mo_answer_29 := dk_go 1 a_Mo_answer_28 rfl
theorem a_Mo_answer_30 : dk_at b_Mo_answer 30 t_Mo_answer_30 := dk_go 1 a_Mo_answer_29 rfl
theorem a_Mo_answer_31 : dk_at b_Mo_answer 31 t_Mo_answer_31 := dk_go 1 a_Mo_answer_30 rfl
theorem a_Mo_answer_34 : dk_at b_Mo_answer 34 t_Mo_answer_34 := dk_go 3 a_Mo_answer_31 rfl
theorem a_Mo_answer_35 : dk_at b_Mo_answer 35 t_Mo_answer_35 := dk_go 1 a_Mo_answer_34 rfl
theorem a_Mo_answer_36 : dk_at b_Mo_answer 36 t_Mo_answer_36 := dk_go 1 a_Mo_answer_35 rfl
theorem a_Mo_answer_37 : dk_at b_Mo_answer 37 t_Mo_answer_37 := dk_go 1 a_Mo_answer_36 rfl
theorem a_Mo_answer_38 : dk_at b_Mo_answer 38 t_Mo_answer_38 := dk_go 1 a_Mo_answer_37 rfl
theorem a_Mo_answer_41 : dk_at b_Mo_answer 41 t_Mo_answer_41 := dk_go 3 a_Mo_answer_38 rfl
theorem a_Mo_answer_42 : dk_at b_Mo_answer 42 t_Mo_answer_42 := dk_go 1 a_Mo_answer_41 rfl
theorem a_Mo_answer_45 : dk_at b_Mo_answer 45 t_Mo_answer_45 := dk_go 3 a_Mo_answer_42 rfl
theorem a_Mo_answer_48 : dk_at b_Mo_answer 48 t_Mo_answer_48 := dk_go 3 a_Mo_answer_45 rfl
theorem a_Mo_answer_49 : dk_at b_Mo_answer 49 t_Mo_answer_49 := dk_go 1 a_Mo_answer_48 rfl
theorem a_Mo_answer_52 : dk_at b_Mo_answer 52 t_Mo_answer_52 := dk_go 3 a_Mo_answer_49 rfl
theorem a_Mo_answer_53 : dk_at b_Mo_answer 53 t_Mo_answer_53 := dk_go 1 a_Mo_answer_52 rfl
theorem a_Mo_answer_56 : dk_at b_Mo_answer 56 t_Mo_answer_56 := dk_go 3 a_Mo_answer_53 rfl
theorem a_Mo_answer_57 : dk_at b_Mo_answer 57 t_Mo_answer_57 := dk_go 1 a_Mo_answer_56 rfl
theorem a_Mo_answer_58 : dk_at b_Mo_answer 58 t_Mo_answer_58 := dk_go 1 a_Mo_answer_57 rfl
theorem a_Mo_answer_61 : dk_at b_Mo_answer 61 t_Mo_answer_61 := dk_go 3 a_Mo_answer_58 rfl
theorem a_Mo_answer_62 : dk_at b_Mo_answer 62 t_Mo_answer_62 := dk_go 1 a_Mo_answer_61 rfl
theorem a_Mo_answer_63 : dk_at b_Mo_answer 63 t_Mo_answer_63 := dk_go 1 a_Mo_answer_62 rfl
theorem a_Mo_answer_64 : dk_at b_Mo_answer 64 t_Mo_answer_64 := dk_go 1 a_Mo_answer_63 rfl
theorem a_Mo_answer_65 : dk_at b_Mo_answer 65 t_Mo_answer_65 := dk_go 1 a_Mo_answer_64 rfl
theorem a_Mo_answer_66 : dk_at b_Mo_answer 66 t_Mo_answer_66 := dk_go 1 a_Mo_answer_65 rfl
theorem d_Mo_answer_0 : decode b_Mo_answer 0 = .ok (.aload_n 0, 1) := dk_0 a_Mo_answer_0 (dko_42 _)
theorem d_Mo_answer_1 : decode b_Mo_answer 1 = .ok (.iconst 0, 1) := dk_0 a_Mo_answer_1 (dko_3 _)
theorem d_Mo_answer_2 : decode b_Mo_answer 2 = .ok (.putfield 576, 3) := dk_U2 a_Mo_answer_2 (dko_181 _) rfl
theorem d_Mo_answer_5 : decode b_Mo_answer 5 = .ok (.aload_n 0, 1) := dk_0 a_Mo_answer_5 (dko_42 _)
theorem d_Mo_answer_6 : decode b_Mo_answer 6 = .ok (.getfield 162, 3) := dk_U2 a_Mo_answer_6 (dko_180 _) rfl
theorem d_Mo_answer_9 : decode b_Mo_answer 9 = .ok (.ifCond .ne 12, 3) := dk_S2 a_Mo_answer_9 (dko_154 _) (by decide +kernel)
theorem d_Mo_answer_21 : decode b_Mo_answer 21 = .ok (.iconst (-1), 1) := dk_0 a_Mo_answer_21 (dko_2 _)
theorem d_Mo_answer_22 : decode b_Mo_answer 22 = .ok (.istore_n 3, 1) := dk_0 a_Mo_answer_22 (dko_62 _)
theorem d_Mo_answer_23 : decode b_Mo_answer 23 = .ok (.iload_n 3, 1) := dk_0 a_Mo_answer_23 (dko_29 _)
theorem d_Mo_answer_24 : decode b_Mo_answer 24 = .ok (.iconst (-1), 1) := dk_0 a_Mo_answer_24 (dko_2 _)
theorem d_Mo_answer_25 : decode b_Mo_answer 25 = .ok (.if_icmp .ne 5, 3) := dk_S2 a_Mo_answer_25 (dko_160 _) (by decide +kernel)
theorem d_Mo_answer_28 : decode b_Mo_answer 28 = .ok (.iconst 0, 1) := dk_0 a_Mo_answer_28 (dko_3 _)
theorem d_Mo_answer_29 : decode b_Mo_answer 29 = .ok (.ireturn, 1) := dk_0 a_Mo_answer_29 (dko_172 _)
set_option maxHeartbeats 4000000 in
set_option maxRecDepth 100000 in
theorem c_Mo_answer (l : Launch) (dC : Nat → ClassId) (dI : Nat → Nat → Nat) (cI cB cZ cJ : ClassId) (vv : Int64) (oM : Nat) (fm : List Value) (hm_state : fx fm 59 (.int 4)) (hm_left : fx fm 77 (.int 0)) (sz : Nat) : Met l y_Mo_answer w_Mo_answer ({ frames := 0, cells := 0, slots := 0, locals := 0 }) (va_Pc [.ref oM, .long vv] (PW dC dI cI cB cZ cJ [(oM, .inr (12, fm))] sz)) (va_Qi (fun (r : Int32) (_ : Unit) => r = 0) (fun _ _ => True) (va_A [(oM, .inr (12, fm))] sz)) 0 0 (va_A [(oM, .inr (12, fm))] sz) := by
  refine Met.ofW (cc := b_Mo_answer) (maxL := 4) (ret := (some .boolean)) (by decide) rfl ?_
  intro p e s m args below meth c s₁ B hml hv
  obtain ⟨rfl, hsz, hP, hK, hD⟩ := hv
  have hx := B.exec
  have hb := B.bytes
  have hr := B.returns
  have hts := atoms_spec (ws := w_Mo_answer) B.pre
  have hown : s.vm.findClass R_Mo = some m.cls := findClass_of_methodNamed B.named
  have hlocks := B.notSynchronized
  subst hsz
  have hD := hD.self (sz := s.heap.size)
  generalize hAe : va_A [(oM, .inr (12, fm))] s.heap.size = A at hD ⊢
  have hA : ∀ q : Nat, s.heap.size ≤ q → A q := fun q h => by rw [← hAe]; exact Or.inr h
  have hS : va_S A s.heap s.heap [] := va_S.rf
  have hP : va_P (dC, dI) classes [(oM, .inr (12, fm))] s.heap := hP
  have hl := lv_entry ([.ref oM, .long vv]) (n := 4) (Nat.le_of_ble_eq_true rfl)
  rw [lg_entry_eq]
  generalize (lg_sl ([.ref oM, .long vv]) ++ List.replicate (4 - (lg_sl ([.ref oM, .long vv])).length) Slot.unset).toArray = ls at hl ⊢
  have hl : lv_has ls 4 [(0, .ref oM), (1, .long vv)] := hl
  refine lv_aload_n hx hb d_Mo_answer_0 rfl (lv_at hl 0 rfl) ?_
  refine lv_iconst (v := 0) hx hb d_Mo_answer_1 (by decide) ?_
  refine va_put (D := (dC, dI)) (ci := 12) (v := .int 0) (ty := .int) (C := R_Mo) (T := F_Mo) (N := 87) hx hb hts (fun w h => List.mem_cons_of_mem _ (in_Mo w h)) t_Mo t_Mo_ok n_Mo hown hK.1 hP hD hS 0 rfl rfl 77 (by decide) (hts _ (List.mem_cons_of_mem _ mw_1871)) (fun _ h9 => h9) rfl (by decide +kernel) rfl rfl (st_lt hm_left) d_Mo_answer_2 (fun H locs hP hD hS => ?_)
  have g2_77 : fx (fm.set 77 (.int 0)) 77 (.int 0) := (st_eq hm_left)
  have g2_59 : fx (fm.set 77 (.int 0)) 59 (.int 4) := (st_ne hm_state (by decide))
  have hP : va_P (dC, dI) classes [(oM, .inr (12, (fm.set 77 (.int 0))))] H := hP
  have hD : va_D A [(oM, .inr (12, (fm.set 77 (.int 0))))] := hD
  refine lv_aload_n hx hb d_Mo_answer_5 rfl (lv_at hl 0 rfl) ?_
  refine va_get (D := (dC, dI)) (ci := 12) (v := .int 4) (C := R_Mo) (T := F_Mo) (N := 87) hx hb hts (fun w h => List.mem_cons_of_mem _ (in_Mo w h)) hown hK.1 hP 0 rfl rfl 59 (by decide) (hts _ (List.mem_cons_of_mem _ mw_1853)) (fun _ h9 => h9) g2_59 d_Mo_answer_6 ?_
  refine lv_if_ne (tgt := 21) hx hb d_Mo_answer_9 (by decide) (fun _ => ?_) (fun h => absurd h (by decide))
  refine lv_iconst (v := (-1)) hx hb d_Mo_answer_21 (by decide) ?_
  refine lv_istore_n hx hb d_Mo_answer_22 rfl hl (by decide) rfl (fun ls hl => ?_)
  have hl : lv_has ls 4 [(3, .int (-1)), (0, .ref oM), (1, .long vv)] := hl
  refine lv_iload_n hx hb d_Mo_answer_23 rfl (lv_at hl 0 rfl) ?_
  refine lv_iconst (v := (-1)) hx hb d_Mo_answer_24 (by decide) ?_
  refine lv_icmp_ne (tgt := 30) hx hb d_Mo_answer_25 (by decide) (fun h => absurd rfl h) (fun _ => ?_)
  refine lv_iconst (v := 0) hx hb d_Mo_answer_28 (by decide) ?_
  exact W.zret (v := 0) (ty := .boolean) hx hb hr (by decide) (fun t ht hW => ⟨⟨_, (), rfl, (rfl), trivial⟩, hS.F ht⟩) hS.2.2 d_Mo_answer_29
abbrev t_Mo_still_50 : List UInt8 := 172 :: []
abbrev t_Mo_still_49 : List UInt8 := 46 :: t_Mo_still_50
abbrev t_Mo_still_48 : List UInt8 := 28 :: t_Mo_still_49
abbrev t_Mo_still_45 : List UInt8 := 180 :: 0 :: 166 :: t_Mo_still_48
abbrev t_Mo_still_44 : List UInt8 := 42 :: t_Mo_still_45
abbrev t_Mo_still_41 : List UInt8 := 167 :: 0 :: 9 :: t_Mo_still_44
abbrev t_Mo_still_40 : List UInt8 := 2 :: t_Mo_still_41
abbrev t_Mo_still_37 : List UInt8 := 160 :: 0 :: 7 :: t_Mo_still_40
abbrev t_Mo_still_36 : List UInt8 := 2 :: t_Mo_still_37
abbrev t_Mo_still_35 : List UInt8 := 28 :: t_Mo_still_36
abbrev t_Mo_still_34 : List UInt8 := 61 :: t_Mo_still_35
abbrev t_Mo_still_33 : List UInt8 := 2 :: t_Mo_still_34
abbrev t_Mo_still_30 : List UInt8 := 167 :: 0 :: 4 :: t_Mo_still_33
abbrev t_Mo_still_27 : List UInt8 := 182 :: 2 :: 60 :: t_Mo_still_30
abbrev t_Mo_still_26 : List UInt8 := 3 :: t_Mo_still_27
abbrev t_Mo_still_25 : List UInt8 := 3 :: t_Mo_still_26
abbrev t_Mo_still_24 : List UInt8 := 42 :: t_Mo_still_25
abbrev t_Mo_still_21 : List UInt8 := 160 :: 0 :: 12 :: t_Mo_still_24
abbrev t_Mo_still_20 : List UInt8 := 5 :: t_Mo_still_21
abbrev t_Mo_still_17 : List UInt8 := 180 :: 0 :: 162 :: t_Mo_still_20
abbrev t_Mo_still_16 : List UInt8 := 42 :: t_Mo_still_17
abbrev t_Mo_still_13 : List UInt8 := 153 :: 0 :: 11 :: t_Mo_still_16
abbrev t_Mo_still_10 : List UInt8 := 180 :: 0 :: 162 :: t_Mo_still_13
abbrev t_Mo_still_9 : List UInt8 := 42 :: t_Mo_still_10
abbrev t_Mo_still_6 : List UInt8 := 155 :: 0 :: 27 :: t_Mo_still_9
abbrev t_Mo_still_5 : List UInt8 := 27 :: t_Mo_still_6
abbrev t_Mo_still_2 : List UInt8 := 181 :: 2 :: 64 :: t_Mo_still_5
abbrev t_Mo_still_1 : List UInt8 := 27 :: t_Mo_still_2
abbrev t_Mo_still_0 : List UInt8 := 42 :: t_Mo_still_1
theorem a_Mo_still_0 : dk_at b_Mo_still 0 t_Mo_still_0 := dk_start (by decide +kernel)
theorem a_Mo_still_1 : dk_at b_Mo_still 1 t_Mo_still_1 := dk_go 1 a_Mo_still_0 rfl
theorem a_Mo_still_2 : dk_at b_Mo_still 2 t_Mo_still_2 := dk_go 1 a_Mo_still_1 rfl
theorem a_Mo_still_5 : dk_at b_Mo_still 5 t_Mo_still_5 := dk_go 3 a_Mo_still_2 rfl
theorem a_Mo_still_6 : dk_at b_Mo_still 6 t_Mo_still_6 := dk_go 1 a_Mo_still_5 rfl
theorem a_Mo_still_9 : dk_at b_Mo_still 9 t_Mo_still_9 := dk_go 3 a_Mo_still_6 rfl
theorem a_Mo_still_10 : dk_at b_Mo_still 10 t_Mo_still_10 := dk_go 1 a_Mo_still_9 rfl
theorem a_Mo_still_13 : dk_at b_Mo_still 13 t_Mo_still_13 := dk_go 3 a_Mo_still_10 rfl
theorem a_Mo_still_16 : dk_at b_Mo_still 16 t_Mo_still_16 := dk_go 3 a_Mo_still_13 rfl
theorem a_Mo_still_17 : dk_at b_Mo_still 17 t_Mo_still_17 := dk_go 1 a_Mo_still_16 rfl
theorem a_Mo_still_20 : dk_at b_Mo_still 20 t_Mo_still_20 := dk_go 3 a_Mo_still_17 rfl
theorem a_Mo_still_21 : dk_at b_Mo_still 21 t_Mo_still_21 := dk_go 1 a_Mo_still_20 rfl
theorem a_Mo_still_24 : dk_at b_Mo_still 24 t_Mo_still_24 := dk_go 3 a_Mo_still_21 rfl
theorem a_Mo_still_25 : dk_at b_Mo_still 25 t_Mo_still_25 := dk_go 1 a_Mo_still_24 rfl
theorem a_Mo_still_26 : dk_at b_Mo_still 26 t_Mo_still_26 := dk_go 1 a_Mo_still_25 rfl
theorem a_Mo_still_27 : dk_at b_Mo_still 27 t_Mo_still_27 := dk_go 1 a_Mo_still_26 rfl
theorem a_Mo_still_30 : dk_at b_Mo_still 30 t_Mo_still_30 := dk_go 3 a_Mo_still_27 rfl
theorem a_Mo_still_33 : dk_at b_Mo_still 33 t_Mo_still_33 := dk_go 3 a_Mo_still_30 rfl
theorem a_Mo_still_34 : dk_at b_Mo_still 34 t_Mo_still_34 := dk_go 1 a_Mo_still_33 rfl
theorem a_Mo_still_35 : dk_at b_Mo_still 35 t_Mo_still_35 := dk_go 1 a_Mo_still_34 rfl
theorem a_Mo_still_36 : dk_at b_Mo_still 36 t_Mo_still_36 := dk_go 1 a_Mo_still_35 rfl
theorem a_Mo_still_37 : dk_at b_Mo_still 37 t_Mo_still_37 := dk_go 1 a_Mo_still_36 rfl
theorem a_Mo_still_40 : dk_at b_Mo_still 40 t_Mo_still_40 := dk_go 3 a_Mo_still_37 rfl
theorem a_Mo_still_41 : dk_at b_Mo_still 41 t_Mo_still_41 := dk_go 1 a_Mo_still_40 rfl
theorem a_Mo_still_44 : dk_at b_Mo_still 44 t_Mo_still_44 := dk_go 3 a_Mo_still_41 rfl
theorem a_Mo_still_45 : dk_at b_Mo_still 45 t_Mo_still_45 := dk_go 1 a_Mo_still_44 rfl
theorem a_Mo_still_48 : dk_at b_Mo_still 48 t_Mo_still_48 := dk_go 3 a_Mo_still_45 rfl
theorem a_Mo_still_49 : dk_at b_Mo_still 49 t_Mo_still_49 := dk_go 1 a_Mo_still_48 rfl
theorem a_Mo_still_50 : dk_at b_Mo_still 50 t_Mo_still_50 := dk_go 1 a_Mo_still_49 rfl
theorem d_Mo_still_0 : decode b_Mo_still 0 = .ok (.aload_n 0, 1) := dk_0 a_Mo_still_0 (dko_42 _)
theorem d_Mo_still_1 : decode b_Mo_still 1 = .ok (.iload_n 1, 1) := dk_0 a_Mo_still_1 (dko_27 _)
theorem d_Mo_still_2 : decode b_Mo_still 2 = .ok (.putfield 576, 3) := dk_U2 a_Mo_still_2 (dko_181 _) rfl
theorem d_Mo_still_5 : decode b_Mo_still 5 = .ok (.iload_n 1, 1) := dk_0 a_Mo_still_5 (dko_27 _)
theorem d_Mo_still_6 : decode b_Mo_still 6 = .ok (.ifCond .lt 27, 3) := dk_S2 a_Mo_still_6 (dko_155 _) (by decide +kernel)
theorem d_Mo_still_9 : decode b_Mo_still 9 = .ok (.aload_n 0, 1) := dk_0 a_Mo_still_9 (dko_42 _)
theorem d_Mo_still_10 : decode b_Mo_still 10 = .ok (.getfield 162, 3) := dk_U2 a_Mo_still_10 (dko_180 _) rfl
theorem d_Mo_still_13 : decode b_Mo_still 13 = .ok (.ifCond .eq 11, 3) := dk_S2 a_Mo_still_13 (dko_153 _) (by decide +kernel)
theorem d_Mo_still_16 : decode b_Mo_still 16 = .ok (.aload_n 0, 1) := dk_0 a_Mo_still_16 (dko_42 _)
theorem d_Mo_still_17 : decode b_Mo_still 17 = .ok (.getfield 162, 3) := dk_U2 a_Mo_still_17 (dko_180 _) rfl
theorem d_Mo_still_20 : decode b_Mo_still 20 = .ok (.iconst 2, 1) := dk_0 a_Mo_still_20 (dko_5 _)
theorem d_Mo_still_21 : decode b_Mo_still 21 = .ok (.if_icmp .ne 12, 3) := dk_S2 a_Mo_still_21 (dko_160 _) (by decide +kernel)
theorem d_Mo_still_33 : decode b_Mo_still 33 = .ok (.iconst (-1), 1) := dk_0 a_Mo_still_33 (dko_2 _)
theorem d_Mo_still_34 : decode b_Mo_still 34 = .ok (.istore_n 2, 1) := dk_0 a_Mo_still_34 (dko_61 _)
theorem d_Mo_still_35 : decode b_Mo_still 35 = .ok (.iload_n 2, 1) := dk_0 a_Mo_still_35 (dko_28 _)
theorem d_Mo_still_36 : decode b_Mo_still 36 = .ok (.iconst (-1), 1) := dk_0 a_Mo_still_36 (dko_2 _)
theorem d_Mo_still_37 : decode b_Mo_still 37 = .ok (.if_icmp .ne 7, 3) := dk_S2 a_Mo_still_37 (dko_160 _) (by decide +kernel)
theorem d_Mo_still_40 : decode b_Mo_still 40 = .ok (.iconst (-1), 1) := dk_0 a_Mo_still_40 (dko_2 _)
theorem d_Mo_still_41 : decode b_Mo_still 41 = .ok (.goto 9, 3) := dk_S2 a_Mo_still_41 (dko_167 _) (by decide +kernel)
theorem d_Mo_still_50 : decode b_Mo_still 50 = .ok (.ireturn, 1) := dk_0 a_Mo_still_50 (dko_172 _)
set_option maxHeartbeats 4000000 in
set_option maxRecDepth 100000 in
theorem c_Mo_still (l : Launch) (dC : Nat → ClassId) (dI : Nat → Nat → Nat) (cI cB cZ cJ : ClassId) (kk : Int32) (oM : Nat) (fm : List Value) (hm_state : fx fm 59 (.int 4)) (hm_left : fx fm 77 (.int 0)) (sz : Nat) : Met l y_Mo_still w_Mo_still ({ frames := 0, cells := 0, slots := 0, locals := 0 }) (va_Pc [.ref oM, .int kk] (PW dC dI cI cB cZ cJ [(oM, .inr (12, fm))] sz)) (va_Qi (fun (r : Int32) (_ : Unit) => r = (-1)) (fun _ _ => True) (va_A [(oM, .inr (12, fm))] sz)) 0 0 (va_A [(oM, .inr (12, fm))] sz) := by
  refine Met.ofW (cc := b_Mo_still) (maxL := 3) (ret := (some .int)) (by decide) rfl ?_
  intro p e s m args below meth c s₁ B hml hv
  obtain ⟨rfl, hsz, hP, hK, hD⟩ := hv
  have hx := B.exec
  have hb := B.bytes
  have hr := B.returns
  have hts := atoms_spec (ws := w_Mo_still) B.pre
  have hown : s.vm.findClass R_Mo = some m.cls := findClass_of_methodNamed B.named
  have hlocks := B.notSynchronized
  subst hsz
  have hD := hD.self (sz := s.heap.size)
  generalize hAe : va_A [(oM, .inr (12, fm))] s.heap.size = A at hD ⊢
  have hA : ∀ q : Nat, s.heap.size ≤ q → A q := fun q h => by rw [← hAe]; exact Or.inr h
  have hS : va_S A s.heap s.heap [] := va_S.rf
  have hP : va_P (dC, dI) classes [(oM, .inr (12, fm))] s.heap := hP
  have hl := lv_entry ([.ref oM, .int kk]) (n := 3) (Nat.le_of_ble_eq_true rfl)
  rw [lg_entry_eq]
  generalize (lg_sl ([.ref oM, .int kk]) ++ List.replicate (3 - (lg_sl ([.ref oM, .int kk])).length) Slot.unset).toArray = ls at hl ⊢
  have hl : lv_has ls 3 [(0, .ref oM), (1, .int kk)] := hl
  refine lv_aload_n hx hb d_Mo_still_0 rfl (lv_at hl 0 rfl) ?_
  refine lv_iload_n hx hb d_Mo_still_1 rfl (lv_at hl 1 rfl) ?_
  refine va_put (D := (dC, dI)) (ci := 12) (v := .int kk) (ty := .int) (C := R_Mo) (T := F_Mo) (N := 87) hx hb hts (fun w h => List.mem_cons_of_mem _ (in_Mo w h)) t_Mo t_Mo_ok n_Mo hown hK.1 hP hD hS 0 rfl rfl 77 (by decide) (hts _ (List.mem_cons_of_mem _ mw_1871)) (fun _ h9 => h9) rfl (by decide +kernel) rfl rfl (st_lt hm_left) d_Mo_still_2 (fun H locs hP hD hS => ?_)
  have g2_77 : fx (fm.set 77 (.int kk)) 77 (.int kk) := (st_eq hm_left)
  have g2_59 : fx (fm.set 77 (.int kk)) 59 (.int 4) := (st_ne hm_state (by decide))
  have hP : va_P (dC, dI) classes [(oM, .inr (12, (fm.set 77 (.int kk))))] H := hP
  have hD : va_D A [(oM, .inr (12, (fm.set 77 (.int kk))))] := hD
  refine lv_iload_n hx hb d_Mo_still_5 rfl (lv_at hl 1 rfl) ?_
  refine lv_if_lt (tgt := 33) hx hb d_Mo_still_6 (by decide) (fun h6 => ?_) (fun h6 => ?_)
  · refine lv_iconst (v := (-1)) hx hb d_Mo_still_33 (by decide) ?_
    refine lv_istore_n hx hb d_Mo_still_34 rfl hl (by decide) rfl (fun ls hl => ?_)
    have hl : lv_has ls 3 [(2, .int (-1)), (0, .ref oM), (1, .int kk)] := hl
    refine lv_iload_n hx hb d_Mo_still_35 rfl (lv_at hl 0 rfl) ?_
    refine lv_iconst (v := (-1)) hx hb d_Mo_still_36 (by decide) ?_
    refine lv_icmp_ne (tgt := 44) hx hb d_Mo_still_37 (by decide) (fun h => absurd rfl h) (fun _ => ?_)
    refine lv_iconst (v := (-1)) hx hb d_Mo_still_40 (by decide) ?_
    refine lv_goto (tgt := 50) hx hb d_Mo_still_41 (by decide) ?_
    exact W.iret (v := (-1)) hx hb hr (fun t ht hW => ⟨⟨_, (), rfl, (rfl), trivial⟩, hS.F ht⟩) hS.2.2 d_Mo_still_50
  · refine lv_aload_n hx hb d_Mo_still_9 rfl (lv_at hl 0 rfl) ?_
    refine va_get (D := (dC, dI)) (ci := 12) (v := .int 4) (C := R_Mo) (T := F_Mo) (N := 87) hx hb hts (fun w h => List.mem_cons_of_mem _ (in_Mo w h)) hown hK.1 hP 0 rfl rfl 59 (by decide) (hts _ (List.mem_cons_of_mem _ mw_1853)) (fun _ h9 => h9) g2_59 d_Mo_still_10 ?_
    refine lv_if_eq (tgt := 24) hx hb d_Mo_still_13 (by decide) (fun h => absurd h (by decide)) (fun _ => ?_)
    refine lv_aload_n hx hb d_Mo_still_16 rfl (lv_at hl 0 rfl) ?_
    refine va_get (D := (dC, dI)) (ci := 12) (v := .int 4) (C := R_Mo) (T := F_Mo) (N := 87) hx hb hts (fun w h => List.mem_cons_of_mem _ (in_Mo w h)) hown hK.1 hP 0 rfl rfl 59 (by decide) (hts _ (List.mem_cons_of_mem _ mw_1853)) (fun _ h9 => h9) g2_59 d_Mo_still_17 ?_
    refine lv_iconst (v := 2) hx hb d_Mo_still_20 (by decide) ?_
    refine lv_icmp_ne (tgt := 33) hx hb d_Mo_still_21 (by decide) (fun _ => ?_) (fun h => absurd h (by decide))
    refine lv_iconst (v := (-1)) hx hb d_Mo_still_33 (by decide) ?_
    refine lv_istore_n hx hb d_Mo_still_34 rfl hl (by decide) rfl (fun ls hl => ?_)
    have hl : lv_has ls 3 [(2, .int (-1)), (0, .ref oM), (1, .int kk)] := hl
    refine lv_iload_n hx hb d_Mo_still_35 rfl (lv_at hl 0 rfl) ?_
    refine lv_iconst (v := (-1)) hx hb d_Mo_still_36 (by decide) ?_
    refine lv_icmp_ne (tgt := 44) hx hb d_Mo_still_37 (by decide) (fun h => absurd rfl h) (fun _ => ?_)
    refine lv_iconst (v := (-1)) hx hb d_Mo_still_40 (by decide) ?_
    refine lv_goto (tgt := 50) hx hb d_Mo_still_41 (by decide) ?_
    exact W.iret (v := (-1)) hx hb hr (fun t ht hW => ⟨⟨_, (), rfl, (rfl), trivial⟩, hS.F ht⟩) hS.2.2 d_Mo_still_50
abbrev t_Mo_write_187 : List UInt8 := 172 :: []
abbrev t_Mo_write_184 : List UInt8 := 180 :: 1 :: 41 :: t_Mo_write_187
abbrev t_Mo_write_183 : List UInt8 := 42 :: t_Mo_write_184
abbrev t_Mo_write_180 : List UInt8 := 167 :: 255 :: 192 :: t_Mo_write_183
abbrev t_Mo_write_177 : List UInt8 := 132 :: 2 :: 1 :: t_Mo_write_180
abbrev t_Mo_write_174 : List UInt8 := 182 :: 1 :: 44 :: t_Mo_write_177
abbrev t_Mo_write_172 : List UInt8 := 16 :: 10 :: t_Mo_write_174
abbrev t_Mo_write_171 : List UInt8 := 42 :: t_Mo_write_172
abbrev t_Mo_write_168 : List UInt8 := 182 :: 1 :: 53 :: t_Mo_write_171
abbrev t_Mo_write_167 : List UInt8 := 46 :: t_Mo_write_168
abbrev t_Mo_write_166 : List UInt8 := 28 :: t_Mo_write_167
abbrev t_Mo_write_163 : List UInt8 := 180 :: 0 :: 46 :: t_Mo_write_166
abbrev t_Mo_write_162 : List UInt8 := 42 :: t_Mo_write_163
abbrev t_Mo_write_161 : List UInt8 := 42 :: t_Mo_write_162
abbrev t_Mo_write_158 : List UInt8 := 182 :: 1 :: 53 :: t_Mo_write_161
abbrev t_Mo_write_157 : List UInt8 := 46 :: t_Mo_write_158
abbrev t_Mo_write_156 : List UInt8 := 96 :: t_Mo_write_157
abbrev t_Mo_write_155 : List UInt8 := 4 :: t_Mo_write_156
abbrev t_Mo_write_154 : List UInt8 := 104 :: t_Mo_write_155
abbrev t_Mo_write_153 : List UInt8 := 28 :: t_Mo_write_154
abbrev t_Mo_write_152 : List UInt8 := 5 :: t_Mo_write_153
abbrev t_Mo_write_149 : List UInt8 := 180 :: 0 :: 49 :: t_Mo_write_152
abbrev t_Mo_write_148 : List UInt8 := 42 :: t_Mo_write_149
abbrev t_Mo_write_147 : List UInt8 := 42 :: t_Mo_write_148
abbrev t_Mo_write_144 : List UInt8 := 182 :: 1 :: 53 :: t_Mo_write_147
abbrev t_Mo_write_143 : List UInt8 := 46 :: t_Mo_write_144
abbrev t_Mo_write_142 : List UInt8 := 104 :: t_Mo_write_143
abbrev t_Mo_write_141 : List UInt8 := 28 :: t_Mo_write_142
abbrev t_Mo_write_140 : List UInt8 := 5 :: t_Mo_write_141
abbrev t_Mo_write_137 : List UInt8 := 180 :: 0 :: 49 :: t_Mo_write_140
abbrev t_Mo_write_136 : List UInt8 := 42 :: t_Mo_write_137
abbrev t_Mo_write_135 : List UInt8 := 42 :: t_Mo_write_136
abbrev t_Mo_write_132 : List UInt8 := 182 :: 1 :: 49 :: t_Mo_write_135
abbrev t_Mo_write_129 : List UInt8 := 20 :: 1 :: 56 :: t_Mo_write_132
abbrev t_Mo_write_128 : List UInt8 := 42 :: t_Mo_write_129
abbrev t_Mo_write_125 : List UInt8 := 155 :: 0 :: 58 :: t_Mo_write_128
abbrev t_Mo_write_124 : List UInt8 := 27 :: t_Mo_write_125
abbrev t_Mo_write_121 : List UInt8 := 162 :: 0 :: 62 :: t_Mo_write_124
abbrev t_Mo_write_118 : List UInt8 := 180 :: 1 :: 25 :: t_Mo_write_121
abbrev t_Mo_write_117 : List UInt8 := 42 :: t_Mo_write_118
abbrev t_Mo_write_116 : List UInt8 := 28 :: t_Mo_write_117
abbrev t_Mo_write_115 : List UInt8 := 61 :: t_Mo_write_116
abbrev t_Mo_write_114 : List UInt8 := 3 :: t_Mo_write_115
abbrev t_Mo_write_111 : List UInt8 := 167 :: 255 :: 157 :: t_Mo_write_114
abbrev t_Mo_write_108 : List UInt8 := 132 :: 2 :: 1 :: t_Mo_write_111
abbrev t_Mo_write_105 : List UInt8 := 182 :: 1 :: 44 :: t_Mo_write_108
abbrev t_Mo_write_103 : List UInt8 := 16 :: 10 :: t_Mo_write_105
abbrev t_Mo_write_102 : List UInt8 := 42 :: t_Mo_write_103
abbrev t_Mo_write_99 : List UInt8 := 182 :: 1 :: 53 :: t_Mo_write_102
abbrev t_Mo_write_98 : List UInt8 := 100 :: t_Mo_write_99
abbrev t_Mo_write_97 : List UInt8 := 5 :: t_Mo_write_98
abbrev t_Mo_write_96 : List UInt8 := 46 :: t_Mo_write_97
abbrev t_Mo_write_95 : List UInt8 := 28 :: t_Mo_write_96
abbrev t_Mo_write_92 : List UInt8 := 180 :: 0 :: 27 :: t_Mo_write_95
abbrev t_Mo_write_91 : List UInt8 := 42 :: t_Mo_write_92
abbrev t_Mo_write_88 : List UInt8 := 167 :: 0 :: 11 :: t_Mo_write_91
abbrev t_Mo_write_87 : List UInt8 := 46 :: t_Mo_write_88
abbrev t_Mo_write_86 : List UInt8 := 28 :: t_Mo_write_87
abbrev t_Mo_write_83 : List UInt8 := 180 :: 0 :: 31 :: t_Mo_write_86
abbrev t_Mo_write_82 : List UInt8 := 42 :: t_Mo_write_83
abbrev t_Mo_write_79 : List UInt8 := 154 :: 0 :: 12 :: t_Mo_write_82
abbrev t_Mo_write_78 : List UInt8 := 46 :: t_Mo_write_79
abbrev t_Mo_write_77 : List UInt8 := 28 :: t_Mo_write_78
abbrev t_Mo_write_74 : List UInt8 := 180 :: 0 :: 27 :: t_Mo_write_77
abbrev t_Mo_write_73 : List UInt8 := 42 :: t_Mo_write_74
abbrev t_Mo_write_72 : List UInt8 := 42 :: t_Mo_write_73
abbrev t_Mo_write_69 : List UInt8 := 159 :: 0 :: 33 :: t_Mo_write_72
abbrev t_Mo_write_68 : List UInt8 := 4 :: t_Mo_write_69
abbrev t_Mo_write_67 : List UInt8 := 46 :: t_Mo_write_68
abbrev t_Mo_write_66 : List UInt8 := 28 :: t_Mo_write_67
abbrev t_Mo_write_63 : List UInt8 := 180 :: 0 :: 27 :: t_Mo_write_66
abbrev t_Mo_write_62 : List UInt8 := 42 :: t_Mo_write_63
abbrev t_Mo_write_59 : List UInt8 := 182 :: 1 :: 49 :: t_Mo_write_62
abbrev t_Mo_write_56 : List UInt8 := 20 :: 0 :: 249 :: t_Mo_write_59
abbrev t_Mo_write_53 : List UInt8 := 167 :: 0 :: 6 :: t_Mo_write_56
abbrev t_Mo_write_50 : List UInt8 := 20 :: 1 :: 47 :: t_Mo_write_53
abbrev t_Mo_write_47 : List UInt8 := 160 :: 0 :: 9 :: t_Mo_write_50
abbrev t_Mo_write_46 : List UInt8 := 4 :: t_Mo_write_47
abbrev t_Mo_write_45 : List UInt8 := 46 :: t_Mo_write_46
abbrev t_Mo_write_44 : List UInt8 := 28 :: t_Mo_write_45
abbrev t_Mo_write_41 : List UInt8 := 180 :: 0 :: 27 :: t_Mo_write_44
abbrev t_Mo_write_40 : List UInt8 := 42 :: t_Mo_write_41
abbrev t_Mo_write_37 : List UInt8 := 167 :: 0 :: 22 :: t_Mo_write_40
abbrev t_Mo_write_34 : List UInt8 := 20 :: 0 :: 247 :: t_Mo_write_37
abbrev t_Mo_write_31 : List UInt8 := 154 :: 0 :: 9 :: t_Mo_write_34
abbrev t_Mo_write_30 : List UInt8 := 46 :: t_Mo_write_31
abbrev t_Mo_write_29 : List UInt8 := 28 :: t_Mo_write_30
abbrev t_Mo_write_26 : List UInt8 := 180 :: 0 :: 27 :: t_Mo_write_29
abbrev t_Mo_write_25 : List UInt8 := 42 :: t_Mo_write_26
abbrev t_Mo_write_24 : List UInt8 := 42 :: t_Mo_write_25
abbrev t_Mo_write_21 : List UInt8 := 155 :: 0 :: 93 :: t_Mo_write_24
abbrev t_Mo_write_20 : List UInt8 := 27 :: t_Mo_write_21
abbrev t_Mo_write_17 : List UInt8 := 162 :: 0 :: 97 :: t_Mo_write_20
abbrev t_Mo_write_14 : List UInt8 := 180 :: 1 :: 22 :: t_Mo_write_17
abbrev t_Mo_write_13 : List UInt8 := 42 :: t_Mo_write_14
abbrev t_Mo_write_12 : List UInt8 := 28 :: t_Mo_write_13
abbrev t_Mo_write_11 : List UInt8 := 61 :: t_Mo_write_12
abbrev t_Mo_write_10 : List UInt8 := 3 :: t_Mo_write_11
abbrev t_Mo_write_7 : List UInt8 := 181 :: 1 :: 41 :: t_Mo_write_10
abbrev t_Mo_write_6 : List UInt8 := 2 :: t_Mo_write_7
abbrev t_Mo_write_5 : List UInt8 := 42 :: t_Mo_write_6
abbrev t_Mo_write_2 : List UInt8 := 181 :: 1 :: 38 :: t_Mo_write_5
abbrev t_Mo_write_1 : List UInt8 := 27 :: t_Mo_write_2
abbrev t_Mo_write_0 : List UInt8 := 42 :: t_Mo_write_1
theorem a_Mo_write_0 : dk_at b_Mo_write 0 t_Mo_write_0 := dk_start (by decide +kernel)
theorem a_Mo_write_1 : dk_at b_Mo_write 1 t_Mo_write_1 := dk_go 1 a_Mo_write_0 rfl
theorem a_Mo_write_2 : dk_at b_Mo_write 2 t_Mo_write_2 := dk_go 1 a_Mo_write_1 rfl
theorem a_Mo_write_5 : dk_at b_Mo_write 5 t_Mo_write_5 := dk_go 3 a_Mo_write_2 rfl
theorem a_Mo_write_6 : dk_at b_Mo_write 6 t_Mo_write_6 := dk_go 1 a_Mo_write_5 rfl
theorem a_Mo_write_7 : dk_at b_Mo_write 7 t_Mo_write_7 := dk_go 1 a_Mo_write_6 rfl
theorem a_Mo_write_10 : dk_at b_Mo_write 10 t_Mo_write_10 := dk_go 3 a_Mo_write_7 rfl
theorem a_Mo_write_11 : dk_at b_Mo_write 11 t_Mo_write_11 := dk_go 1 a_Mo_write_10 rfl
theorem a_Mo_write_12 : dk_at b_Mo_write 12 t_Mo_write_12 := dk_go 1 a_Mo_write_11 rfl
theorem a_Mo_write_13 : dk_at b_Mo_write 13 t_Mo_write_13 := dk_go 1 a_Mo_write_12 rfl
theorem a_Mo_write_14 : dk_at b_Mo_write 14 t_Mo_write_14 := dk_go 1 a_Mo_write_13 rfl
theorem a_Mo_write_17 : dk_at b_Mo_write 17 t_Mo_write_17 := dk_go 3 a_Mo_write_14 rfl
theorem a_Mo_write_20 : dk_at b_Mo_write 20 t_Mo_write_20 := dk_go 3 a_Mo_write_17 rfl
theorem a_Mo_write_21 : dk_at b_Mo_write 21 t_Mo_write_21 := dk_go 1 a_Mo_write_20 rfl
theorem a_Mo_write_24 : dk_at b_Mo_write 24 t_Mo_write_24 := dk_go 3 a_Mo_write_21 rfl
theorem a_Mo_write_25 : dk_at b_Mo_write 25 t_Mo_write_25 := dk_go 1 a_Mo_write_24 rfl
theorem a_Mo_write_26 : dk_at b_Mo_write 26 t_Mo_write_26 := dk_go 1 a_Mo_write_25 rfl
theorem a_Mo_write_29 : dk_at b_Mo_write 29 t_Mo_write_29 := dk_go 3 a_Mo_write_26 rfl
theorem a_Mo_write_30 : dk_at b_Mo_write 30 t_Mo_write_30 := dk_go 1 a_Mo_write_29 rfl
theorem a_Mo_write_31 : dk_at b_Mo_write 31 t_Mo_write_31 := dk_go 1 a_Mo_write_30 rfl
theorem a_Mo_write_34 : dk_at b_Mo_write 34 t_Mo_write_34 := dk_go 3 a_Mo_write_31 rfl
theorem a_Mo_write_37 : dk_at b_Mo_write 37 t_Mo_write_37 := dk_go 3 a_Mo_write_34 rfl
theorem a_Mo_write_40 : dk_at b_Mo_write 40 t_Mo_write_40 := dk_go 3 a_Mo_write_37 rfl
theorem a_Mo_write_41 : dk_at b_Mo_write 41 t_Mo_write_41 := dk_go 1 a_Mo_write_40 rfl
theorem a_Mo_write_44 : dk_at b_Mo_write 44 t_Mo_write_44 := dk_go 3 a_Mo_write_41 rfl
theorem a_Mo_write_45 : dk_at b_Mo_write 45 t_Mo_write_45 := dk_go 1 a_Mo_write_44 rfl
theorem a_Mo_write_46 : dk_at b_Mo_write 46 t_Mo_write_46 := dk_go 1 a_Mo_write_45 rfl
theorem a_Mo_write_47 : dk_at b_Mo_write 47 t_Mo_write_47 := dk_go 1 a_Mo_write_46 rfl
theorem a_Mo_write_50 : dk_at b_Mo_write 50 t_Mo_write_50 := dk_go 3 a_Mo_write_47 rfl
theorem a_Mo_write_53 : dk_at b_Mo_write 53 t_Mo_write_53 := dk_go 3 a_Mo_write_50 rfl
theorem a_Mo_write_56 : dk_at b_Mo_write 56 t_Mo_write_56 := dk_go 3 a_Mo_write_53 rfl
theorem a_Mo_write_59 : dk_at b_Mo_write 59 t_Mo_write_59 := dk_go 3 a_Mo_write_56 rfl
theorem a_Mo_write_62 : dk_at b_Mo_write 62 t_Mo_write_62 := dk_go 3 a_Mo_write_59 rfl
theorem a_Mo_write_63 : dk_at b_Mo_write 63 t_Mo_write_63 := dk_go 1 a_Mo_write_62 rfl
theorem a_Mo_write_66 : dk_at b_Mo_write 66 t_Mo_write_66 := dk_go 3 a_Mo_write_63 rfl
theorem a_Mo_write_67 : dk_at b_Mo_write 67 t_Mo_write_67 := dk_go 1 a_Mo_write_66 rfl
theorem a_Mo_write_68 : dk_at b_Mo_write 68 t_Mo_write_68 := dk_go 1 a_Mo_write_67 rfl
theorem a_Mo_write_69 : dk_at b_Mo_write 69 t_Mo_write_69 := dk_go 1 a_Mo_write_68 rfl
theorem a_Mo_write_72 : dk_at b_Mo_write 72 t_Mo_write_72 := dk_go 3 a_Mo_write_69 rfl
theorem a_Mo_write_73 : dk_at b_Mo_write 73 t_Mo_write_73 := dk_go 1 a_Mo_write_72 rfl
theorem a_Mo_write_74 : dk_at b_Mo_write 74 t_Mo_write_74 := dk_go 1 a_Mo_write_73 rfl
theorem a_Mo_write_77 : dk_at b_Mo_write 77 t_Mo_write_77 := dk_go 3 a_Mo_write_74 rfl
theorem a_Mo_write_78 : dk_at b_Mo_write 78 t_Mo_write_78 := dk_go 1 a_Mo_write_77 rfl
theorem a_Mo_write_79 : dk_at b_Mo_write 79 t_Mo_write_79 := dk_go 1 a_Mo_write_78 rfl
theorem a_Mo_write_82 : dk_at b_Mo_write 82 t_Mo_write_82 := dk_go 3 a_Mo_write_79 rfl
theorem a_Mo_write_83 : dk_at b_Mo_write 83 t_Mo_write_83 := dk_go 1 a_Mo_write_82 rfl
theorem a_Mo_write_86 : dk_at b_Mo_write 86 t_Mo_write_86 := dk_go 3 a_Mo_write_83 rfl
theorem a_Mo_write_87 : dk_at b_Mo_write 87 t_Mo_write_87 := dk_go 1 a_Mo_write_86 rfl
theorem a_Mo_write_88 : dk_at b_Mo_write 88 t_Mo_write_88 := dk_go 1 a_Mo_write_87 rfl
theorem a_Mo_write_91 : dk_at b_Mo_write 91 t_Mo_write_91 := dk_go 3 a_Mo_write_88 rfl
theorem a_Mo_write_92 : dk_at b_Mo_write 92 t_Mo_write_92 := dk_go 1 a_Mo_write_91 rfl
theorem a_Mo_write_95 : dk_at b_Mo_write 95 t_Mo_write_95 := dk_go 3 a_Mo_write_92 rfl
theorem a_Mo_write_96 : dk_at b_Mo_write 96 t_Mo_write_96 := dk_go 1 a_Mo_write_95 rfl
theorem a_Mo_write_97 : dk_at b_Mo_write 97 t_Mo_write_97 := dk_go 1 a_Mo_write_96 rfl
theorem a_Mo_write_98 : dk_at b_Mo_write 98 t_Mo_write_98 := dk_go 1 a_Mo_write_97 rfl
theorem a_Mo_write_99 : dk_at b_Mo_write 99 t_Mo_write_99 := dk_go 1 a_Mo_write_98 rfl
theorem a_Mo_write_102 : dk_at b_Mo_write 102 t_Mo_write_102 := dk_go 3 a_Mo_write_99 rfl
theorem a_Mo_write_103 : dk_at b_Mo_write 103 t_Mo_write_103 := dk_go 1 a_Mo_write_102 rfl
theorem a_Mo_write_105 : dk_at b_Mo_write 105 t_Mo_write_105 := dk_go 2 a_Mo_write_103 rfl
theorem a_Mo_write_108 : dk_at b_Mo_write 108 t_Mo_write_108 := dk_go 3 a_Mo_write_105 rfl
theorem a_Mo_write_111 : dk_at b_Mo_write 111 t_Mo_write_111 := dk_go 3 a_Mo_write_108 rfl
theorem a_Mo_write_114 : dk_at b_Mo_write 114 t_Mo_write_114 := dk_go 3 a_Mo_write_111 rfl
theorem a_Mo_write_115 : dk_at b_Mo_write 115 t_Mo_write_115 := dk_go 1 a_Mo_write_114 rfl
theorem a_Mo_write_116 : dk_at b_Mo_write 116 t_Mo_write_116 := dk_go 1 a_Mo_write_115 rfl
theorem a_Mo_write_117 : dk_at b_Mo_write 117 t_Mo_write_117 := dk_go 1 a_Mo_write_116 rfl
theorem a_Mo_write_118 : dk_at b_Mo_write 118 t_Mo_write_118 := dk_go 1 a_Mo_write_117 rfl
theorem a_Mo_write_121 : dk_at b_Mo_write 121 t_Mo_write_121 := dk_go 3 a_Mo_write_118 rfl
theorem a_Mo_write_124 : dk_at b_Mo_write 124 t_Mo_write_124 := dk_go 3 a_Mo_write_121 rfl
theorem a_Mo_write_125 : dk_at b_Mo_write 125 t_Mo_write_125 := dk_go 1 a_Mo_write_124 rfl
theorem a_Mo_write_128 : dk_at b_Mo_write 128 t_Mo_write_128 := dk_go 3 a_Mo_write_125 rfl
theorem a_Mo_write_129 : dk_at b_Mo_write 129 t_Mo_write_129 := dk_go 1 a_Mo_write_128 rfl
theorem a_Mo_write_132 : dk_at b_Mo_write 132 t_Mo_write_132 := dk_go 3 a_Mo_write_129 rfl
theorem a_Mo_write_135 : dk_at b_Mo_write 135 t_Mo_write_135 := dk_go 3 a_Mo_write_132 rfl
theorem a_Mo_write_136 : dk_at b_Mo_write 136 t_Mo_write_136 := dk_go 1 a_Mo_write_135 rfl
theorem a_Mo_write_137 : dk_at b_Mo_write 137 t_Mo_write_137 := dk_go 1 a_Mo_write_136 rfl
theorem a_Mo_write_140 : dk_at b_Mo_write 140 t_Mo_write_140 := dk_go 3 a_Mo_write_137 rfl
theorem a_Mo_write_141 : dk_at b_Mo_write 141 t_Mo_write_141 := dk_go 1 a_Mo_write_140 rfl
theorem a_Mo_write_142 : dk_at b_Mo_write 142 t_Mo_write_142 := dk_go 1 a_Mo_write_141 rfl
theorem a_Mo_write_143 : dk_at b_Mo_write 143 t_Mo_write_143 := dk_go 1 a_Mo_write_142 rfl
theorem a_Mo_write_144 : dk_at b_Mo_write 144 t_Mo_write_144 := dk_go 1 a_Mo_write_143 rfl
theorem a_Mo_write_147 : dk_at b_Mo_write 147 t_Mo_write_147 := dk_go 3 a_Mo_write_144 rfl
theorem a_Mo_write_148 : dk_at b_Mo_write 148 t_Mo_write_148 := dk_go 1 a_Mo_write_147 rfl
theorem a_Mo_write_149 : dk_at b_Mo_write 149 t_Mo_write_149 := dk_go 1 a_Mo_write_148 rfl
theorem a_Mo_write_152 : dk_at b_Mo_write 152 t_Mo_write_152 := dk_go 3 a_Mo_write_149 rfl
theorem a_Mo_write_153 : dk_at b_Mo_write 153 t_Mo_write_153 := dk_go 1 a_Mo_write_152 rfl
theorem a_Mo_write_154 : dk_at b_Mo_write 154 t_Mo_write_154 := dk_go 1 a_Mo_write_153 rfl
theorem a_Mo_write_155 : dk_at b_Mo_write 155 t_Mo_write_155 := dk_go 1 a_Mo_write_154 rfl
theorem a_Mo_write_156 : dk_at b_Mo_write 156 t_Mo_write_156 := dk_go 1 a_Mo_write_155 rfl
theorem a_Mo_write_157 : dk_at b_Mo_write 157 t_Mo_write_157 := dk_go 1 a_Mo_write_156 rfl
theorem a_Mo_write_158 : dk_at b_Mo_write 158 t_Mo_write_158 := dk_go 1 a_Mo_write_157 rfl
theorem a_Mo_write_161 : dk_at b_Mo_write 161 t_Mo_write_161 := dk_go 3 a_Mo_write_158 rfl
theorem a_Mo_write_162 : dk_at b_Mo_write 162 t_Mo_write_162 := dk_go 1 a_Mo_write_161 rfl
theorem a_Mo_write_163 : dk_at b_Mo_write 163 t_Mo_write_163 := dk_go 1 a_Mo_write_162 rfl
theorem a_Mo_write_166 : dk_at b_Mo_write 166 t_Mo_write_166 := dk_go 3 a_Mo_write_163 rfl
theorem a_Mo_write_167 : dk_at b_Mo_write 167 t_Mo_write_167 := dk_go 1 a_Mo_write_166 rfl
theorem a_Mo_write_168 : dk_at b_Mo_write 168 t_Mo_write_168 := dk_go 1 a_Mo_write_167 rfl
theorem a_Mo_write_171 : dk_at b_Mo_write 171 t_Mo_write_171 := dk_go 3 a_Mo_write_168 rfl
theorem a_Mo_write_172 : dk_at b_Mo_write 172 t_Mo_write_172 := dk_go 1 a_Mo_write_171 rfl
theorem a_Mo_write_174 : dk_at b_Mo_write 174 t_Mo_write_174 := dk_go 2 a_Mo_write_172 rfl
theorem a_Mo_write_177 : dk_at b_Mo_write 177 t_Mo_write_177 := dk_go 3 a_Mo_write_174 rfl
theorem a_Mo_write_180 : dk_at b_Mo_write 180 t_Mo_write_180 := dk_go 3 a_Mo_write_177 rfl
theorem a_Mo_write_183 : dk_at b_Mo_write 183 t_Mo_write_183 := dk_go 3 a_Mo_write_180 rfl
theorem a_Mo_write_184 : dk_at b_Mo_write 184 t_Mo_write_184 := dk_go 1 a_Mo_write_183 rfl
theorem a_Mo_write_187 : dk_at b_Mo_write 187 t_Mo_write_187 := dk_go 3 a_Mo_write_184 rfl
theorem d_Mo_write_0 : decode b_Mo_write 0 = .ok (.aload_n 0, 1) := dk_0 a_Mo_write_0 (dko_42 _)
theorem d_Mo_write_1 : decode b_Mo_write 1 = .ok (.iload_n 1, 1) := dk_0 a_Mo_write_1 (dko_27 _)
theorem d_Mo_write_2 : decode b_Mo_write 2 = .ok (.putfield 294, 3) := dk_U2 a_Mo_write_2 (dko_181 _) rfl
theorem d_Mo_write_5 : decode b_Mo_write 5 = .ok (.aload_n 0, 1) := dk_0 a_Mo_write_5 (dko_42 _)
theorem d_Mo_write_6 : decode b_Mo_write 6 = .ok (.iconst (-1), 1) := dk_0 a_Mo_write_6 (dko_2 _)
theorem d_Mo_write_7 : decode b_Mo_write 7 = .ok (.putfield 297, 3) := dk_U2 a_Mo_write_7 (dko_181 _) rfl
theorem d_Mo_write_10 : decode b_Mo_write 10 = .ok (.iconst 0, 1) := dk_0 a_Mo_write_10 (dko_3 _)
theorem d_Mo_write_11 : decode b_Mo_write 11 = .ok (.istore_n 2, 1) := dk_0 a_Mo_write_11 (dko_61 _)
theorem d_Mo_write_12 : decode b_Mo_write 12 = .ok (.iload_n 2, 1) := dk_0 a_Mo_write_12 (dko_28 _)
theorem d_Mo_write_13 : decode b_Mo_write 13 = .ok (.aload_n 0, 1) := dk_0 a_Mo_write_13 (dko_42 _)
theorem d_Mo_write_14 : decode b_Mo_write 14 = .ok (.getfield 278, 3) := dk_U2 a_Mo_write_14 (dko_180 _) rfl
theorem d_Mo_write_17 : decode b_Mo_write 17 = .ok (.if_icmp .ge 97, 3) := dk_S2 a_Mo_write_17 (dko_162 _) (by decide +kernel)
theorem d_Mo_write_114 : decode b_Mo_write 114 = .ok (.iconst 0, 1) := dk_0 a_Mo_write_114 (dko_3 _)
theorem d_Mo_write_115 : decode b_Mo_write 115 = .ok (.istore_n 2, 1) := dk_0 a_Mo_write_115 (dko_61 _)
theorem d_Mo_write_116 : decode b_Mo_write 116 = .ok (.iload_n 2, 1) := dk_0 a_Mo_write_116 (dko_28 _)
theorem d_Mo_write_117 : decode b_Mo_write 117 = .ok (.aload_n 0, 1) := dk_0 a_Mo_write_117 (dko_42 _)
theorem d_Mo_write_118 : decode b_Mo_write 118 = .ok (.getfield 281, 3) := dk_U2 a_Mo_write_118 (dko_180 _) rfl
theorem d_Mo_write_121 : decode b_Mo_write 121 = .ok (.if_icmp .ge 62, 3) := dk_S2 a_Mo_write_121 (dko_162 _) (by decide +kernel)
theorem d_Mo_write_183 : decode b_Mo_write 183 = .ok (.aload_n 0, 1) := dk_0 a_Mo_write_183 (dko_42 _)
theorem d_Mo_write_184 : decode b_Mo_write 184 = .ok (.getfield 297, 3) := dk_U2 a_Mo_write_184 (dko_180 _) rfl
theorem d_Mo_write_187 : decode b_Mo_write 187 = .ok (.ireturn, 1) := dk_0 a_Mo_write_187 (dko_172 _)
set_option maxHeartbeats 4000000 in
set_option maxRecDepth 100000 in
theorem c_Mo_write (l : Launch) (dC : Nat → ClassId) (dI : Nat → Nat → Nat) (cI cB cZ cJ : ClassId) (ii : Int32) (oM : Nat) (fm : List Value) (hm_things : fx fm 4 (.int 0)) (hm_pipes : fx fm 11 (.int 0)) (hm_wish : fx fm 83 (.int 0)) (hm_found : fx fm 84 (.int 0)) (sz : Nat) : Met l y_Mo_write w_Mo_write ({ frames := 0, cells := 0, slots := 0, locals := 0 }) (va_Pc [.ref oM, .int ii] (PW dC dI cI cB cZ cJ [(oM, .inr (12, fm))] sz)) (va_Qi (fun (r : Int32) (_ : Unit) => r = (-1)) (fun _ _ => True) (va_A [(oM, .inr (12, fm))] sz)) 0 0 (va_A [(oM, .inr (12, fm))] sz) := by
  refine Met.ofW (cc := b_Mo_write) (maxL := 3) (ret := (some .int)) (by decide) rfl ?_
  intro p e s m args below meth c s₁ B hml hv
  obtain ⟨rfl, hsz, hP, hK, hD⟩ := hv
  have hx := B.exec
  have hb := B.bytes
  have hr := B.returns
  have hts := atoms_spec (ws := w_Mo_write) B.pre
  have hown : s.vm.findClass R_Mo = some m.cls := findClass_of_methodNamed B.named
  have hlocks := B.notSynchronized
  subst hsz
  have hD := hD.self (sz := s.heap.size)
  generalize hAe : va_A [(oM, .inr (12, fm))] s.heap.size = A at hD ⊢
  have hA : ∀ q : Nat, s.heap.size ≤ q → A q := fun q h => by rw [← hAe]; exact Or.inr h
  have hS : va_S A s.heap s.heap [] := va_S.rf
  have hP : va_P (dC, dI) classes [(oM, .inr (12, fm))] s.heap := hP
  have hl := lv_entry ([.ref oM, .int ii]) (n := 3) (Nat.le_of_ble_eq_true rfl)
  rw [lg_entry_eq]
  generalize (lg_sl ([.ref oM, .int ii]) ++ List.replicate (3 - (lg_sl ([.ref oM, .int ii])).length) Slot.unset).toArray = ls at hl ⊢
  have hl : lv_has ls 3 [(0, .ref oM), (1, .int ii)] := hl
  refine lv_aload_n hx hb d_Mo_write_0 rfl (lv_at hl 0 rfl) ?_
  refine lv_iload_n hx hb d_Mo_write_1 rfl (lv_at hl 1 rfl) ?_
  refine va_put (D := (dC, dI)) (ci := 12) (v := .int ii) (ty := .int) (C := R_Mo) (T := F_Mo) (N := 87) hx hb hts (fun w h => List.mem_cons_of_mem _ (in_Mo w h)) t_Mo t_Mo_ok n_Mo hown hK.1 hP hD hS 0 rfl rfl 83 (by decide) (hts _ (List.mem_cons_of_mem _ mw_1877)) (fun _ h9 => h9) rfl (by decide +kernel) rfl rfl (st_lt hm_wish) d_Mo_write_2 (fun H locs hP hD hS => ?_)
  have g2_84 : fx (fm.set 83 (.int ii)) 84 (.int 0) := (st_ne hm_found (by decide))
  have g2_11 : fx (fm.set 83 (.int ii)) 11 (.int 0) := (st_ne hm_pipes (by decide))
  have g2_4 : fx (fm.set 83 (.int ii)) 4 (.int 0) := (st_ne hm_things (by decide))
  have g2_83 : fx (fm.set 83 (.int ii)) 83 (.int ii) := (st_eq hm_wish)
  have hP : va_P (dC, dI) classes [(oM, .inr (12, (fm.set 83 (.int ii))))] H := hP
  have hD : va_D A [(oM, .inr (12, (fm.set 83 (.int ii))))] := hD
  refine lv_aload_n hx hb d_Mo_write_5 rfl (lv_at hl 0 rfl) ?_
  refine lv_iconst (v := (-1)) hx hb d_Mo_write_6 (by decide) ?_
  refine va_put (D := (dC, dI)) (ci := 12) (v := .int (-1)) (ty := .int) (C := R_Mo) (T := F_Mo) (N := 87) hx hb hts (fun w h => List.mem_cons_of_mem _ (in_Mo w h)) t_Mo t_Mo_ok n_Mo hown hK.1 hP hD hS 0 rfl rfl 84 (by decide) (hts _ (List.mem_cons_of_mem _ mw_1878)) (fun _ h9 => h9) rfl (by decide +kernel) rfl rfl (st_lt g2_84) d_Mo_write_7 (fun H locs hP hD hS => ?_)
  have g7_84 : fx ((fm.set 83 (.int ii)).set 84 (.int (-1))) 84 (.int (-1)) := (st_eq g2_84)
  have g7_11 : fx ((fm.set 83 (.int ii)).set 84 (.int (-1))) 11 (.int 0) := (st_ne g2_11 (by decide))
  have g7_4 : fx ((fm.set 83 (.int ii)).set 84 (.int (-1))) 4 (.int 0) := (st_ne g2_4 (by decide))
  have g7_83 : fx ((fm.set 83 (.int ii)).set 84 (.int (-1))) 83 (.int ii) := (st_ne g2_83 (by decide))
  have hP : va_P (dC, dI) classes [(oM, .inr (12, ((fm.set 83 (.int ii)).set 84 (.int (-1)))))] H := hP
  have hD : va_D A [(oM, .inr (12, ((fm.set 83 (.int ii)).set 84 (.int (-1)))))] := hD
  refine lv_iconst (v := 0) hx hb d_Mo_write_10 (by decide) ?_
  refine lv_istore_n hx hb d_Mo_write_11 rfl hl (by decide) rfl (fun ls hl => ?_)
  have hl : lv_has ls 3 [(2, .int 0), (0, .ref oM), (1, .int ii)] := hl
  refine lv_iload_n hx hb d_Mo_write_12 rfl (lv_at hl 0 rfl) ?_
  refine lv_aload_n hx hb d_Mo_write_13 rfl (lv_at hl 1 rfl) ?_
  refine va_get (D := (dC, dI)) (ci := 12) (v := .int 0) (C := R_Mo) (T := F_Mo) (N := 87) hx hb hts (fun w h => List.mem_cons_of_mem _ (in_Mo w h)) hown hK.1 hP 0 rfl rfl 4 (by decide) (hts _ (List.mem_cons_of_mem _ mw_1798)) (fun _ h9 => h9) g7_4 d_Mo_write_14 ?_
  refine lv_icmp_ge (tgt := 114) hx hb d_Mo_write_17 (by decide) (fun _ => ?_) (fun h => absurd (by decide) h)
  refine lv_iconst (v := 0) hx hb d_Mo_write_114 (by decide) ?_
  refine lv_istore_n hx hb d_Mo_write_115 rfl hl (by decide) rfl (fun ls hl => ?_)
  have hl : lv_has ls 3 [(2, .int 0), (0, .ref oM), (1, .int ii)] := hl
  refine lv_iload_n hx hb d_Mo_write_116 rfl (lv_at hl 0 rfl) ?_
  refine lv_aload_n hx hb d_Mo_write_117 rfl (lv_at hl 1 rfl) ?_
  refine va_get (D := (dC, dI)) (ci := 12) (v := .int 0) (C := R_Mo) (T := F_Mo) (N := 87) hx hb hts (fun w h => List.mem_cons_of_mem _ (in_Mo w h)) hown hK.1 hP 0 rfl rfl 11 (by decide) (hts _ (List.mem_cons_of_mem _ mw_1805)) (fun _ h9 => h9) g7_11 d_Mo_write_118 ?_
  refine lv_icmp_ge (tgt := 183) hx hb d_Mo_write_121 (by decide) (fun _ => ?_) (fun h => absurd (by decide) h)
  refine lv_aload_n hx hb d_Mo_write_183 rfl (lv_at hl 1 rfl) ?_
  refine va_get (D := (dC, dI)) (ci := 12) (v := .int (-1)) (C := R_Mo) (T := F_Mo) (N := 87) hx hb hts (fun w h => List.mem_cons_of_mem _ (in_Mo w h)) hown hK.1 hP 0 rfl rfl 84 (by decide) (hts _ (List.mem_cons_of_mem _ mw_1878)) (fun _ h9 => h9) g7_84 d_Mo_write_184 ?_
  exact W.iret (v := (-1)) hx hb hr (fun t ht hW => ⟨⟨_, (), rfl, (rfl), trivial⟩, hS.F ht⟩) hS.2.2 d_Mo_write_187
