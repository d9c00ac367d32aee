abbrev b_Mo_isThing : ByteArray := prog_14_method_16_code
def y_Mo_isThing : MethodName := ⟨R_Mo, "isThing", "(I)Z"⟩
abbrev w_Mo_isThing : List Cond := .code y_Mo_isThing b_Mo_isThing 2 (some .boolean) :: lw_gd
abbrev b_Mo_second : ByteArray := prog_14_method_91_code
def y_Mo_second : MethodName := ⟨R_Mo, "second", "()I"⟩
abbrev w_Mo_second : List Cond := .code y_Mo_second b_Mo_second 1 (some .int) :: lw_gd
abbrev b_Mo_state : ByteArray := prog_14_method_88_code
def y_Mo_state : MethodName := ⟨R_Mo, "state", "()I"⟩
abbrev w_Mo_state : List Cond := .code y_Mo_state b_Mo_state 1 (some .int) :: lw_gd
abbrev b_Mo_isTank : ByteArray := prog_14_method_17_code
def y_Mo_isTank : MethodName := ⟨R_Mo, "isTank", "(I)Z"⟩
abbrev w_Mo_isTank : List Cond := .code y_Mo_isTank b_Mo_isTank 2 (some .boolean) :: lw_gd
abbrev b_Mo_isValve : ByteArray := prog_14_method_18_code
def y_Mo_isValve : MethodName := ⟨R_Mo, "isValve", "(I)Z"⟩
abbrev w_Mo_isValve : List Cond := .code y_Mo_isValve b_Mo_isValve 2 (some .boolean) :: lw_gd
abbrev b_Mo_isPipe : ByteArray := prog_14_method_19_code
def y_Mo_isPipe : MethodName := ⟨R_Mo, "isPipe", "(I)Z"⟩
abbrev w_Mo_isPipe : List Cond := .code y_Mo_isPipe b_Mo_isPipe 2 (some .boolean) :: lw_gd
abbrev b_Mo_holdsLiquid : ByteArray := prog_14_method_20_code
def y_Mo_holdsLiquid : MethodName := ⟨R_Mo, "holdsLiquid", "(I)Z"⟩
abbrev w_Mo_holdsLiquid : List Cond := .code y_Mo_holdsLiquid b_Mo_holdsLiquid 2 (some .boolean) :: lw_gd
abbrev b_Mo_isRole : ByteArray := prog_14_method_58_code
def y_Mo_isRole : MethodName := ⟨R_Mo, "isRole", "(II)Z"⟩
abbrev w_Mo_isRole : List Cond := .code y_Mo_isRole b_Mo_isRole 3 (some .boolean) :: lw_gd
abbrev b_Mo_sense : ByteArray := prog_14_method_59_code
def y_Mo_sense : MethodName := ⟨R_Mo, "sense", "(III)Z"⟩
abbrev w_Mo_sense : List Cond := .code y_Mo_sense b_Mo_sense 4 (some .boolean) :: lw_gd
abbrev b_Mo_signal : ByteArray := prog_14_method_61_code
def y_Mo_signal : MethodName := ⟨R_Mo, "signal", "(IJ)Z"⟩
abbrev w_Mo_signal : List Cond := .code y_Mo_signal b_Mo_signal 4 (some .boolean) :: lw_gd
abbrev b_Mo_value : ByteArray := prog_14_method_62_code
def y_Mo_value : MethodName := ⟨R_Mo, "value", "(I)J"⟩
abbrev w_Mo_value : List Cond := .code y_Mo_value b_Mo_value 2 (some .long) :: lw_gd
abbrev b_Mo_fill : ByteArray := prog_14_method_50_code
def y_Mo_fill : MethodName := ⟨R_Mo, "fill", "(IIJ)Z"⟩
abbrev w_Mo_fill : List Cond := .code y_Mo_fill b_Mo_fill 5 (some .boolean) :: lw_gd
abbrev b_Mo_space : ByteArray := prog_14_method_49_code
def y_Mo_space : MethodName := ⟨R_Mo, "space", "(II)I"⟩
abbrev w_Mo_space : List Cond := .code y_Mo_space b_Mo_space 3 (some .int) :: lw_gd
abbrev b_Mo_way : ByteArray := prog_14_method_48_code
def y_Mo_way : MethodName := ⟨R_Mo, "way", "(II)I"⟩
abbrev w_Mo_way : List Cond := .code y_Mo_way b_Mo_way 3 (some .int) :: lw_gd
abbrev b_Mo_alarm : ByteArray := prog_14_method_90_code
def y_Mo_alarm : MethodName := ⟨R_Mo, "alarm", "(II)I"⟩
abbrev w_Mo_alarm : List Cond := .code y_Mo_alarm b_Mo_alarm 3 (some .int) :: lw_gd
abbrev b_Mo_hold : ByteArray := prog_14_method_86_code
def y_Mo_hold : MethodName := ⟨R_Mo, "hold", "(Z)Z"⟩
abbrev w_Mo_hold : List Cond := .code y_Mo_hold b_Mo_hold 2 (some .boolean) :: lw_gd
abbrev b_Mo_stop : ByteArray := prog_14_method_87_code
def y_Mo_stop : MethodName := ⟨R_Mo, "stop", "()Z"⟩
abbrev w_Mo_stop : List Cond := .code y_Mo_stop b_Mo_stop 1 (some .boolean) :: lw_gd
abbrev b_Mo_start : ByteArray := prog_14_method_73_code
def y_Mo_start : MethodName := ⟨R_Mo, "start", "()Z"⟩
abbrev w_Mo_start : List Cond := .code y_Mo_start b_Mo_start 5 (some .boolean) :: lw_gd
abbrev b_Mr_isRow : ByteArray := prog_15_method_24_code
def y_Mr_isRow : MethodName := ⟨R_Mr, "isRow", "(I)Z"⟩
abbrev w_Mr_isRow : List Cond := .code y_Mr_isRow b_Mr_isRow 2 (some .boolean) :: lw_gd
abbrev b_Mr_pass : ByteArray := prog_15_method_25_code
def y_Mr_pass : MethodName := ⟨R_Mr, "pass", "(IIII)I"⟩
abbrev w_Mr_pass : List Cond := .code y_Mr_pass b_Mr_pass 5 (some .int) :: lw_gd
abbrev b_Mr_reset : ByteArray := prog_15_method_27_code
def y_Mr_reset : MethodName := ⟨R_Mr, "reset", "(I)Z"⟩
abbrev w_Mr_reset : List Cond := .code y_Mr_reset b_Mr_reset 2 (some .boolean) :: lw_gd
abbrev b_Mr_act1 : ByteArray := prog_15_method_22_code
def y_Mr_act1 : MethodName := ⟨R_Mr, "act", "(I)I"⟩
abbrev w_Mr_act1 : List Cond := .code y_Mr_act1 b_Mr_act1 4 (some .int) :: lw_gd
abbrev b_Mo_pass : ByteArray := prog_14_method_65_code
def y_Mo_pass : MethodName := ⟨R_Mo, "pass", "(IIII)I"⟩
abbrev w_Mo_pass : List Cond := .code y_Mo_pass b_Mo_pass 5 (some .int) :: lw_gd
abbrev b_Mo_reset : ByteArray := prog_14_method_66_code
def y_Mo_reset : MethodName := ⟨R_Mo, "reset", "(I)Z"⟩
abbrev w_Mo_reset : List Cond := .code y_Mo_reset b_Mo_reset 2 (some .boolean) :: lw_gd
abbrev b_Mo_bars : ByteArray := prog_14_method_67_code
def y_Mo_bars : MethodName := ⟨R_Mo, "bars", "(I)I"⟩
abbrev w_Mo_bars : List Cond := .code y_Mo_bars b_Mo_bars 2 (some .int) :: lw_gd
abbrev b_Mo_row : ByteArray := prog_14_method_68_code
def y_Mo_row : MethodName := ⟨R_Mo, "row", "(II)I"⟩
abbrev w_Mo_row : List Cond := .code y_Mo_row b_Mo_row 3 (some .int) :: lw_gd
theorem mw_18 : (.initialized "BreweryHouseModel" : Cond) ∈ lw_gd := tb_mem (i := 18) (by decide +kernel) (by decide +kernel)
theorem mw_20 : (.initialized "BreweryHouseModel$Rows" : Cond) ∈ lw_gd := tb_mem (i := 20) (by decide +kernel) (by decide +kernel)
theorem mw_1724 : (.fieldLink "BreweryHouseModel$Rows" 133 "BreweryHouseModel$Rows" "rows" "I" : Cond) ∈ lw_gd := tb_mem (i := 1724) (by decide +kernel) (by decide +kernel)
theorem mw_1788 : (.fieldLink "BreweryHouseModel" 16 "BreweryHouseModel" "program" "LBreweryHouseModel$Text;" : Cond) ∈ lw_gd := tb_mem (i := 1788) (by decide +kernel) (by decide +kernel)
theorem mw_1789 : (.fieldLink "BreweryHouseModel" 23 "BreweryHouseModel" "interlocks" "LBreweryHouseModel$Rows;" : Cond) ∈ lw_gd := tb_mem (i := 1789) (by decide +kernel) (by decide +kernel)
theorem mw_1790 : (.fieldLink "BreweryHouseModel" 278 "BreweryHouseModel" "things" "I" : Cond) ∈ lw_gd := tb_mem (i := 1790) (by decide +kernel) (by decide +kernel)
theorem mw_1797 : (.fieldLink "BreweryHouseModel" 281 "BreweryHouseModel" "pipes" "I" : Cond) ∈ lw_gd := tb_mem (i := 1797) (by decide +kernel) (by decide +kernel)
theorem mw_1812 : (.fieldLink "BreweryHouseModel" 284 "BreweryHouseModel" "ways" "I" : Cond) ∈ lw_gd := tb_mem (i := 1812) (by decide +kernel) (by decide +kernel)
theorem mw_1845 : (.fieldLink "BreweryHouseModel" 162 "BreweryHouseModel" "state" "I" : Cond) ∈ lw_gd := tb_mem (i := 1845) (by decide +kernel) (by decide +kernel)
theorem mw_1864 : (.fieldLink "BreweryHouseModel" 326 "BreweryHouseModel" "now" "I" : Cond) ∈ lw_gd := tb_mem (i := 1864) (by decide +kernel) (by decide +kernel)
theorem mw_1865 : (.fieldLink "BreweryHouseModel" 433 "BreweryHouseModel" "alarms" "I" : Cond) ∈ lw_gd := tb_mem (i := 1865) (by decide +kernel) (by decide +kernel)
theorem mw_2404 : (.methodLink "BreweryHouseModel" 412 y_Mo_isValve : Cond) ∈ lw_gd := tb_mem (i := 2404) (by decide +kernel) (by decide +kernel)
theorem mw_2406 : (.instanceMethod y_Mo_isValve : Cond) ∈ lw_gd := tb_mem (i := 2406) (by decide +kernel) (by decide +kernel)
theorem mw_2407 : (.code y_Mo_isValve b_Mo_isValve 2 (some .boolean) : Cond) ∈ lw_gd := tb_mem (i := 2407) (by decide +kernel) (by decide +kernel)
theorem mw_2408 : (.methodLink "BreweryHouseModel" 314 y_Mo_isThing : Cond) ∈ lw_gd := tb_mem (i := 2408) (by decide +kernel) (by decide +kernel)
theorem mw_2410 : (.instanceMethod y_Mo_isThing : Cond) ∈ lw_gd := tb_mem (i := 2410) (by decide +kernel) (by decide +kernel)
theorem mw_2411 : (.code y_Mo_isThing b_Mo_isThing 2 (some .boolean) : Cond) ∈ lw_gd := tb_mem (i := 2411) (by decide +kernel) (by decide +kernel)
theorem mw_2412 : (.methodLink "BreweryHouseModel" 415 y_Mo_holdsLiquid : Cond) ∈ lw_gd := tb_mem (i := 2412) (by decide +kernel) (by decide +kernel)
theorem mw_2414 : (.instanceMethod y_Mo_holdsLiquid : Cond) ∈ lw_gd := tb_mem (i := 2414) (by decide +kernel) (by decide +kernel)
theorem mw_2415 : (.code y_Mo_holdsLiquid b_Mo_holdsLiquid 2 (some .boolean) : Cond) ∈ lw_gd := tb_mem (i := 2415) (by decide +kernel) (by decide +kernel)
theorem mw_2416 : (.methodLink "BreweryHouseModel" 317 y_Mo_isTank : Cond) ∈ lw_gd := tb_mem (i := 2416) (by decide +kernel) (by decide +kernel)
theorem mw_2418 : (.instanceMethod y_Mo_isTank : Cond) ∈ lw_gd := tb_mem (i := 2418) (by decide +kernel) (by decide +kernel)
theorem mw_2419 : (.code y_Mo_isTank b_Mo_isTank 2 (some .boolean) : Cond) ∈ lw_gd := tb_mem (i := 2419) (by decide +kernel) (by decide +kernel)
theorem mw_2420 : (.methodLink "BreweryHouseModel" 320 y_Mo_isPipe : Cond) ∈ lw_gd := tb_mem (i := 2420) (by decide +kernel) (by decide +kernel)
theorem mw_2422 : (.instanceMethod y_Mo_isPipe : Cond) ∈ lw_gd := tb_mem (i := 2422) (by decide +kernel) (by decide +kernel)
theorem mw_2423 : (.code y_Mo_isPipe b_Mo_isPipe 2 (some .boolean) : Cond) ∈ lw_gd := tb_mem (i := 2423) (by decide +kernel) (by decide +kernel)
theorem mw_2470 : (.methodLink "BreweryHouseModel" 424 y_Mr_act1 : Cond) ∈ lw_gd := tb_mem (i := 2470) (by decide +kernel) (by decide +kernel)
theorem mw_2471 : (.instanceMethod y_Mr_act1 : Cond) ∈ lw_gd := tb_mem (i := 2471) (by decide +kernel) (by decide +kernel)
theorem mw_2472 : (.selects "BreweryHouseModel$Rows" y_Mr_act1 y_Mr_act1 : Cond) ∈ lw_gd := tb_mem (i := 2472) (by decide +kernel) (by decide +kernel)
theorem mw_2473 : (.code y_Mr_act1 b_Mr_act1 4 (some .int) : Cond) ∈ lw_gd := tb_mem (i := 2473) (by decide +kernel) (by decide +kernel)
theorem mw_2521 : (.methodLink "BreweryHouseModel" 451 y_Mo_isRole : Cond) ∈ lw_gd := tb_mem (i := 2521) (by decide +kernel) (by decide +kernel)
theorem mw_2523 : (.instanceMethod y_Mo_isRole : Cond) ∈ lw_gd := tb_mem (i := 2523) (by decide +kernel) (by decide +kernel)
theorem mw_2524 : (.code y_Mo_isRole b_Mo_isRole 3 (some .boolean) : Cond) ∈ lw_gd := tb_mem (i := 2524) (by decide +kernel) (by decide +kernel)
theorem mw_2541 : (.methodLink "BreweryHouseModel" 463 y_Mr_pass : Cond) ∈ lw_gd := tb_mem (i := 2541) (by decide +kernel) (by decide +kernel)
theorem mw_2542 : (.instanceMethod y_Mr_pass : Cond) ∈ lw_gd := tb_mem (i := 2542) (by decide +kernel) (by decide +kernel)
theorem mw_2543 : (.selects "BreweryHouseModel$Rows" y_Mr_pass y_Mr_pass : Cond) ∈ lw_gd := tb_mem (i := 2543) (by decide +kernel) (by decide +kernel)
theorem mw_2544 : (.code y_Mr_pass b_Mr_pass 5 (some .int) : Cond) ∈ lw_gd := tb_mem (i := 2544) (by decide +kernel) (by decide +kernel)
theorem mw_2545 : (.methodLink "BreweryHouseModel$Rows" 151 y_Mr_isRow : Cond) ∈ lw_gd := tb_mem (i := 2545) (by decide +kernel) (by decide +kernel)
theorem mw_2547 : (.instanceMethod y_Mr_isRow : Cond) ∈ lw_gd := tb_mem (i := 2547) (by decide +kernel) (by decide +kernel)
theorem mw_2548 : (.code y_Mr_isRow b_Mr_isRow 2 (some .boolean) : Cond) ∈ lw_gd := tb_mem (i := 2548) (by decide +kernel) (by decide +kernel)
theorem mw_2553 : (.methodLink "BreweryHouseModel" 467 y_Mr_reset : Cond) ∈ lw_gd := tb_mem (i := 2553) (by decide +kernel) (by decide +kernel)
theorem mw_2554 : (.instanceMethod y_Mr_reset : Cond) ∈ lw_gd := tb_mem (i := 2554) (by decide +kernel) (by decide +kernel)
theorem mw_2555 : (.selects "BreweryHouseModel$Rows" y_Mr_reset y_Mr_reset : Cond) ∈ lw_gd := tb_mem (i := 2555) (by decide +kernel) (by decide +kernel)
theorem mw_2556 : (.code y_Mr_reset b_Mr_reset 2 (some .boolean) : Cond) ∈ lw_gd := tb_mem (i := 2556) (by decide +kernel) (by decide +kernel)
theorem nw_1610 : (.fieldLinkNest "BreweryHouseModel" 514 "BreweryHouseModel$Text" "topCount" "I" "BreweryHouseModel" : Cond) ∈ lw_nest := nw_mem (i := 1610) (by decide +kernel) rfl
theorem nw_1612 : (.fieldLinkNest "BreweryHouseModel" 442 "BreweryHouseModel$Text" "nameCount" "I" "BreweryHouseModel" : Cond) ∈ lw_nest := nw_mem (i := 1612) (by decide +kernel) rfl
theorem nw_1725 : (.fieldLinkNest "BreweryHouseModel" 470 "BreweryHouseModel$Rows" "rows" "I" "BreweryHouseModel" : Cond) ∈ lw_nest := nw_mem (i := 1725) (by decide +kernel) rfl
theorem sl_151 : (.selects "BreweryHouseModel" y_Mo_isValve y_Mo_isValve : Cond) ∈ lw_gd := List.mem_filter.mpr ⟨List.mem_append_left _ (List.mem_of_getElem? (i := 151) (by decide +kernel)), by decide +kernel⟩
theorem sl_152 : (.selects "BreweryHouseModel" y_Mo_isThing y_Mo_isThing : Cond) ∈ lw_gd := List.mem_filter.mpr ⟨List.mem_append_left _ (List.mem_of_getElem? (i := 152) (by decide +kernel)), by decide +kernel⟩
theorem sl_153 : (.selects "BreweryHouseModel" y_Mo_holdsLiquid y_Mo_holdsLiquid : Cond) ∈ lw_gd := List.mem_filter.mpr ⟨List.mem_append_left _ (List.mem_of_getElem? (i := 153) (by decide +kernel)), by decide +kernel⟩
theorem sl_154 : (.selects "BreweryHouseModel" y_Mo_isTank y_Mo_isTank : Cond) ∈ lw_gd := List.mem_filter.mpr ⟨List.mem_append_left _ (List.mem_of_getElem? (i := 154) (by decide +kernel)), by decide +kernel⟩
theorem sl_155 : (.selects "BreweryHouseModel" y_Mo_isPipe y_Mo_isPipe : Cond) ∈ lw_gd := List.mem_filter.mpr ⟨List.mem_append_left _ (List.mem_of_getElem? (i := 155) (by decide +kernel)), by decide +kernel⟩
theorem sl_171 : (.selects "BreweryHouseModel" y_Mo_isRole y_Mo_isRole : Cond) ∈ lw_gd := List.mem_filter.mpr ⟨List.mem_append_left _ (List.mem_of_getElem? (i := 171) (by decide +kernel)), by decide +kernel⟩
theorem sl_172 : (.selects "BreweryHouseModel$Rows" y_Mr_isRow y_Mr_isRow : Cond) ∈ lw_gd := List.mem_filter.mpr ⟨List.mem_append_left _ (List.mem_of_getElem? (i := 172) (by decide +kernel)), by decide +kernel⟩
theorem d_Mo_isThing_0 : decode b_Mo_isThing 0 = .ok (.iload_n 1, 1) := by decide +kernel
theorem d_Mo_isThing_1 : decode b_Mo_isThing 1 = .ok (.ifCond .lt 15, 3) := by decide +kernel
theorem d_Mo_isThing_4 : decode b_Mo_isThing 4 = .ok (.iload_n 1, 1) := by decide +kernel
theorem d_Mo_isThing_5 : decode b_Mo_isThing 5 = .ok (.aload_n 0, 1) := by decide +kernel
theorem d_Mo_isThing_6 : decode b_Mo_isThing 6 = .ok (.getfield 278, 3) := by decide +kernel
theorem d_Mo_isThing_9 : decode b_Mo_isThing 9 = .ok (.if_icmp .ge 7, 3) := by decide +kernel
theorem d_Mo_isThing_16 : decode b_Mo_isThing 16 = .ok (.iconst 0, 1) := by decide +kernel
theorem d_Mo_isThing_17 : decode b_Mo_isThing 17 = .ok (.ireturn, 1) := by decide +kernel
set_option maxHeartbeats 4000000 in
set_option maxRecDepth 100000 in
theorem c_Mo_isThing (l : Launch) (dC : Nat → ClassId) (dI : Nat → Nat → Nat) (cI cB cZ cJ : ClassId) (th : Int32) (oM : Nat) (fm : List Value) (hm_things : fm[4]? = some (.int 0)) (sz : Nat) : Met l y_Mo_isThing w_Mo_isThing ({ frames := 0, cells := 0, slots := 0, locals := 0 }) (va_Pc [.ref oM, .int th] (PW dC dI cI cB cZ cJ [(oM, .inr (12, fm))] sz)) (va_Qi (fun (r : Int32) (_ : Unit) => r = 0) (fun _ _ => True) (va_A [] sz)) 0 0 (va_A [] sz) := by
  refine Met.ofW (cc := b_Mo_isThing) (maxL := 2) (ret := (some .boolean)) (by decide) rfl ?_
  intro p e s m args below meth c s₁ B hml hv
  obtain ⟨rfl, hsz, hP, hK, hD⟩ := hv
  have hx := B.exec
  have hb := B.bytes
  have hr := B.returns
  have hts := atoms_spec (ws := w_Mo_isThing) B.pre
  have hown : s.vm.findClass R_Mo = some m.cls := findClass_of_methodNamed B.named
  have hlocks := B.notSynchronized
  subst hsz
  generalize hAe : va_A [] s.heap.size = A at ⊢
  have hA : ∀ q : Nat, s.heap.size ≤ q → A q := fun q h => by rw [← hAe]; exact Or.inr h
  have hS : va_S A s.heap s.heap [] := va_S.rf
  have hP : va_P (dC, dI) classes [(oM, .inr (12, fm))] s.heap := hP
  have hl := lv_entry ([.ref oM, .int th]) (n := 2) (Nat.le_of_ble_eq_true rfl)
  rw [lg_entry_eq]
  generalize (lg_sl ([.ref oM, .int th]) ++ List.replicate (2 - (lg_sl ([.ref oM, .int th])).length) Slot.unset).toArray = ls at hl ⊢
  have hl : lv_has ls 2 [(0, .ref oM), (1, .int th)] := hl
  refine lv_iload_n hx hb d_Mo_isThing_0 rfl (lv_at hl 1 rfl) ?_
  refine lv_if_lt (tgt := 16) hx hb d_Mo_isThing_1 (by decide) (fun h1 => ?_) (fun h1 => ?_)
  · refine lv_iconst (v := 0) hx hb d_Mo_isThing_16 (by decide) ?_
    exact W.zret (v := 0) (ty := .boolean) hx hb hr (by decide) (fun t ht hW => ⟨⟨_, (), rfl, (rfl), trivial⟩, hS.F ht⟩) hS.2.2 d_Mo_isThing_17
  · refine lv_iload_n hx hb d_Mo_isThing_4 rfl (lv_at hl 1 rfl) ?_
    refine lv_aload_n hx hb d_Mo_isThing_5 rfl (lv_at hl 0 rfl) ?_
    refine va_get (D := (dC, dI)) (ci := 12) (v := .int 0) (C := R_Mo) (T := F_Mo) (N := 87) hx hb hts (fun w h => List.mem_cons_of_mem _ (in_Mo w h)) hown hK.1 hP 0 rfl rfl 4 (by decide) (hts _ (List.mem_cons_of_mem _ mw_1790)) (fun _ h9 => h9) hm_things d_Mo_isThing_6 ?_
    refine lv_icmp_ge (tgt := 16) hx hb d_Mo_isThing_9 (by decide) (fun _ => ?_) (fun h => absurd (nd_le h1 (by decide)) h)
    refine lv_iconst (v := 0) hx hb d_Mo_isThing_16 (by decide) ?_
    exact W.zret (v := 0) (ty := .boolean) hx hb hr (by decide) (fun t ht hW => ⟨⟨_, (), rfl, (rfl), trivial⟩, hS.F ht⟩) hS.2.2 d_Mo_isThing_17
theorem d_Mo_second_0 : decode b_Mo_second 0 = .ok (.aload_n 0, 1) := by decide +kernel
theorem d_Mo_second_1 : decode b_Mo_second 1 = .ok (.getfield 326, 3) := by decide +kernel
theorem d_Mo_second_4 : decode b_Mo_second 4 = .ok (.ireturn, 1) := by decide +kernel
set_option maxHeartbeats 4000000 in
set_option maxRecDepth 100000 in
theorem c_Mo_second (l : Launch) (dC : Nat → ClassId) (dI : Nat → Nat → Nat) (cI cB cZ cJ : ClassId) (oM : Nat) (fm : List Value) (hm_now : fm[78]? = some (.int 0)) (sz : Nat) : Met l y_Mo_second w_Mo_second ({ frames := 0, cells := 0, slots := 0, locals := 0 }) (va_Pc [.ref oM] (PW dC dI cI cB cZ cJ [(oM, .inr (12, fm))] sz)) (va_Qi (fun (r : Int32) (_ : Unit) => r = 0) (fun _ _ => True) (va_A [] sz)) 0 0 (va_A [] sz) := by
  refine Met.ofW (cc := b_Mo_second) (maxL := 1) (ret := (some .int)) (by decide) rfl ?_
  intro p e s m args below meth c s₁ B hml hv
  obtain ⟨rfl, hsz, hP, hK, hD⟩ := hv
  have hx := B.exec
  have hb := B.bytes
  have hr := B.returns
  have hts := atoms_spec (ws := w_Mo_second) B.pre
  have hown : s.vm.findClass R_Mo = some m.cls := findClass_of_methodNamed B.named
  have hlocks := B.notSynchronized
  subst hsz
  generalize hAe : va_A [] s.heap.size = A at ⊢
  have hA : ∀ q : Nat, s.heap.size ≤ q → A q := fun q h => by rw [← hAe]; exact Or.inr h
  have hS : va_S A s.heap s.heap [] := va_S.rf
  have hP : va_P (dC, dI) classes [(oM, .inr (12, fm))] s.heap := hP
  have hl := lv_entry ([.ref oM]) (n := 1) (Nat.le_of_ble_eq_true rfl)
  rw [lg_entry_eq]
  generalize (lg_sl ([.ref oM]) ++ List.replicate (1 - (lg_sl ([.ref oM])).length) Slot.unset).toArray = ls at hl ⊢
  have hl : lv_has ls 1 [(0, .ref oM)] := hl
  refine lv_aload_n hx hb d_Mo_second_0 rfl (lv_at hl 0 rfl) ?_
  refine va_get (D := (dC, dI)) (ci := 12) (v := .int 0) (C := R_Mo) (T := F_Mo) (N := 87) hx hb hts (fun w h => List.mem_cons_of_mem _ (in_Mo w h)) hown hK.1 hP 0 rfl rfl 78 (by decide) (hts _ (List.mem_cons_of_mem _ mw_1864)) (fun _ h9 => h9) hm_now d_Mo_second_1 ?_
  exact W.iret (v := 0) hx hb hr (fun t ht hW => ⟨⟨_, (), rfl, (rfl), trivial⟩, hS.F ht⟩) hS.2.2 d_Mo_second_4
theorem d_Mo_state_0 : decode b_Mo_state 0 = .ok (.aload_n 0, 1) := by decide +kernel
theorem d_Mo_state_1 : decode b_Mo_state 1 = .ok (.getfield 162, 3) := by decide +kernel
theorem d_Mo_state_4 : decode b_Mo_state 4 = .ok (.ireturn, 1) := by decide +kernel
set_option maxHeartbeats 4000000 in
set_option maxRecDepth 100000 in
theorem c_Mo_state (l : Launch) (dC : Nat → ClassId) (dI : Nat → Nat → Nat) (cI cB cZ cJ : ClassId) (oM : Nat) (fm : List Value) (hm_state : fm[59]? = some (.int 4)) (sz : Nat) : Met l y_Mo_state w_Mo_state ({ frames := 0, cells := 0, slots := 0, locals := 0 }) (va_Pc [.ref oM] (PW dC dI cI cB cZ cJ [(oM, .inr (12, fm))] sz)) (va_Qi (fun (r : Int32) (_ : Unit) => r = 4) (fun _ _ => True) (va_A [] sz)) 0 0 (va_A [] sz) := by
  refine Met.ofW (cc := b_Mo_state) (maxL := 1) (ret := (some .int)) (by decide) rfl ?_
  intro p e s m args below meth c s₁ B hml hv
  obtain ⟨rfl, hsz, hP, hK, hD⟩ := hv
  have hx := B.exec
  have hb := B.bytes
  have hr := B.returns
  have hts := atoms_spec (ws := w_Mo_state) B.pre
  have hown : s.vm.findClass R_Mo = some m.cls := findClass_of_methodNamed B.named
  have hlocks := B.notSynchronized
  subst hsz
  generalize hAe : va_A [] s.heap.size = A at ⊢
  have hA : ∀ q : Nat, s.heap.size ≤ q → A q := fun q h => by rw [← hAe]; exact Or.inr h
  have hS : va_S A s.heap s.heap [] := va_S.rf
  have hP : va_P (dC, dI) classes [(oM, .inr (12, fm))] s.heap := hP
  have hl := lv_entry ([.ref oM]) (n := 1) (Nat.le_of_ble_eq_true rfl)
  rw [lg_entry_eq]
  generalize (lg_sl ([.ref oM]) ++ List.replicate (1 - (lg_sl ([.ref oM])).length) Slot.unset).toArray = ls at hl ⊢
  have hl : lv_has ls 1 [(0, .ref oM)] := hl
  refine lv_aload_n hx hb d_Mo_state_0 rfl (lv_at hl 0 rfl) ?_
  refine va_get (D := (dC, dI)) (ci := 12) (v := .int 4) (C := R_Mo) (T := F_Mo) (N := 87) hx hb hts (fun w h => List.mem_cons_of_mem _ (in_Mo w h)) hown hK.1 hP 0 rfl rfl 59 (by decide) (hts _ (List.mem_cons_of_mem _ mw_1845)) (fun _ h9 => h9) hm_state d_Mo_state_1 ?_
  exact W.iret (v := 4) hx hb hr (fun t ht hW => ⟨⟨_, (), rfl, (rfl), trivial⟩, hS.F ht⟩) hS.2.2 d_Mo_state_4
theorem d_Mo_isTank_0 : decode b_Mo_isTank 0 = .ok (.aload_n 0, 1) := by decide +kernel
theorem d_Mo_isTank_1 : decode b_Mo_isTank 1 = .ok (.iload_n 1, 1) := by decide +kernel
theorem d_Mo_isTank_2 : decode b_Mo_isTank 2 = .ok (.invokevirtual 314, 3) := by decide +kernel
theorem d_Mo_isTank_5 : decode b_Mo_isTank 5 = .ok (.ifCond .eq 16, 3) := by decide +kernel
theorem d_Mo_isTank_21 : decode b_Mo_isTank 21 = .ok (.iconst 0, 1) := by decide +kernel
theorem d_Mo_isTank_22 : decode b_Mo_isTank 22 = .ok (.ireturn, 1) := by decide +kernel
set_option maxHeartbeats 4000000 in
set_option maxRecDepth 100000 in
theorem c_Mo_isTank (l : Launch) (dC : Nat → ClassId) (dI : Nat → Nat → Nat) (cI cB cZ cJ : ClassId) (th : Int32) (oM : Nat) (fm : List Value) (hm_things : fm[4]? = some (.int 0)) (sz : Nat) : Met l y_Mo_isTank w_Mo_isTank ({ frames := 1, cells := 0, slots := 0, locals := 21 }) (va_Pc [.ref oM, .int th] (PW dC dI cI cB cZ cJ [(oM, .inr (12, fm))] sz)) (va_Qi (fun (r : Int32) (_ : Unit) => r = 0) (fun _ _ => True) (va_A [] sz)) 0 0 (va_A [] sz) := by
  refine Met.ofW (cc := b_Mo_isTank) (maxL := 2) (ret := (some .boolean)) (by decide) rfl ?_
  intro p e s m args below meth c s₁ B hml hv
  obtain ⟨rfl, hsz, hP, hK, hD⟩ := hv
  have hx := B.exec
  have hb := B.bytes
  have hr := B.returns
  have hts := atoms_spec (ws := w_Mo_isTank) B.pre
  have hown : s.vm.findClass R_Mo = some m.cls := findClass_of_methodNamed B.named
  have hlocks := B.notSynchronized
  subst hsz
  generalize hAe : va_A [] s.heap.size = A at ⊢
  have hA : ∀ q : Nat, s.heap.size ≤ q → A q := fun q h => by rw [← hAe]; exact Or.inr h
  have hS : va_S A s.heap s.heap [] := va_S.rf
  have hP : va_P (dC, dI) classes [(oM, .inr (12, fm))] s.heap := hP
  have hl := lv_entry ([.ref oM, .int th]) (n := 2) (Nat.le_of_ble_eq_true rfl)
  rw [lg_entry_eq]
  generalize (lg_sl ([.ref oM, .int th]) ++ List.replicate (2 - (lg_sl ([.ref oM, .int th])).length) Slot.unset).toArray = ls at hl ⊢
  have hl : lv_has ls 2 [(0, .ref oM), (1, .int th)] := hl
  refine lv_aload_n hx hb d_Mo_isTank_0 rfl (lv_at hl 0 rfl) ?_
  refine lv_iload_n hx hb d_Mo_isTank_1 rfl (lv_at hl 1 rfl) ?_
  have hPc := hP.sub (ws' := [(oM, .inr (12, fm))]) [0] rfl
  have hDc := hD.sub (ws' := [(oM, .inr (12, fm))]) [0] (by decide) rfl
  have hFc := pu_free hS hA
  refine va_calli (va_runV (C := R_Mo) (As := [.int th]) (rest := []) ⟨hx, hb, hml, hown, hts⟩ (c_Mo_isThing l dC dI cI cB cZ cJ th oM fm hm_things s.heap.size) (cwV 1 hts (tb_V mw_2408 mw_2410 sl_152 mw_18 mw_2411) rfl rfl rfl ⟨rfl, by decide +kernel, by decide +kernel, by decide +kernel⟩ ⟨(Nat.le_of_ble_eq_true rfl), (Nat.le_of_ble_eq_true rfl)⟩) ⟨pw_blind, va_recv (q := (R_Mo, F_Mo, 87)) hK.1 hP (ci := 12) (q0 := 0) rfl rfl, pw_pre hPc hK hDc⟩ rfl rfl hl.1 rfl (lv_room (Nat.le_of_ble_eq_true rfl)) d_Mo_isTank_2 ⟨(Nat.le_of_ble_eq_true rfl), (Nat.le_of_ble_eq_true rfl)⟩) hS (fun q _ h => hFc q h) hFc (fun r u t H locs ht hvm hw hB hz1 hk1 hS => ?_)
  have hP := pu_kept hP hk1
  obtain rfl : r = 0 := hw
  refine lv_if_eq (tgt := 21) hx hb d_Mo_isTank_5 (by decide) (fun _ => ?_) (fun h => absurd (by decide) h)
  refine lv_iconst (v := 0) hx hb d_Mo_isTank_21 (by decide) ?_
  exact W.zret (v := 0) (ty := .boolean) hx hb hr (by decide) (fun t ht hW => ⟨⟨_, (), rfl, (rfl), trivial⟩, hS.F ht⟩) hS.2.2 d_Mo_isTank_22
theorem d_Mo_isValve_0 : decode b_Mo_isValve 0 = .ok (.aload_n 0, 1) := by decide +kernel
theorem d_Mo_isValve_1 : decode b_Mo_isValve 1 = .ok (.iload_n 1, 1) := by decide +kernel
theorem d_Mo_isValve_2 : decode b_Mo_isValve 2 = .ok (.invokevirtual 314, 3) := by decide +kernel
theorem d_Mo_isValve_5 : decode b_Mo_isValve 5 = .ok (.ifCond .eq 17, 3) := by decide +kernel
theorem d_Mo_isValve_22 : decode b_Mo_isValve 22 = .ok (.iconst 0, 1) := by decide +kernel
theorem d_Mo_isValve_23 : decode b_Mo_isValve 23 = .ok (.ireturn, 1) := by decide +kernel
set_option maxHeartbeats 4000000 in
set_option maxRecDepth 100000 in
theorem c_Mo_isValve (l : Launch) (dC : Nat → ClassId) (dI : Nat → Nat → Nat) (cI cB cZ cJ : ClassId) (th : Int32) (oM : Nat) (fm : List Value) (hm_things : fm[4]? = some (.int 0)) (sz : Nat) : Met l y_Mo_isValve w_Mo_isValve ({ frames := 1, cells := 0, slots := 0, locals := 21 }) (va_Pc [.ref oM, .int th] (PW dC dI cI cB cZ cJ [(oM, .inr (12, fm))] sz)) (va_Qi (fun (r : Int32) (_ : Unit) => r = 0) (fun _ _ => True) (va_A [] sz)) 0 0 (va_A [] sz) := by
  refine Met.ofW (cc := b_Mo_isValve) (maxL := 2) (ret := (some .boolean)) (by decide) rfl ?_
  intro p e s m args below meth c s₁ B hml hv
  obtain ⟨rfl, hsz, hP, hK, hD⟩ := hv
  have hx := B.exec
  have hb := B.bytes
  have hr := B.returns
  have hts := atoms_spec (ws := w_Mo_isValve) B.pre
  have hown : s.vm.findClass R_Mo = some m.cls := findClass_of_methodNamed B.named
  have hlocks := B.notSynchronized
  subst hsz
  generalize hAe : va_A [] s.heap.size = A at ⊢
  have hA : ∀ q : Nat, s.heap.size ≤ q → A q := fun q h => by rw [← hAe]; exact Or.inr h
  have hS : va_S A s.heap s.heap [] := va_S.rf
  have hP : va_P (dC, dI) classes [(oM, .inr (12, fm))] s.heap := hP
  have hl := lv_entry ([.ref oM, .int th]) (n := 2) (Nat.le_of_ble_eq_true rfl)
  rw [lg_entry_eq]
  generalize (lg_sl ([.ref oM, .int th]) ++ List.replicate (2 - (lg_sl ([.ref oM, .int th])).length) Slot.unset).toArray = ls at hl ⊢
  have hl : lv_has ls 2 [(0, .ref oM), (1, .int th)] := hl
  refine lv_aload_n hx hb d_Mo_isValve_0 rfl (lv_at hl 0 rfl) ?_
  refine lv_iload_n hx hb d_Mo_isValve_1 rfl (lv_at hl 1 rfl) ?_
  have hPc := hP.sub (ws' := [(oM, .inr (12, fm))]) [0] rfl
  have hDc := hD.sub (ws' := [(oM, .inr (12, fm))]) [0] (by decide) rfl
  have hFc := pu_free hS hA
  refine va_calli (va_runV (C := R_Mo) (As := [.int th]) (rest := []) ⟨hx, hb, hml, hown, hts⟩ (c_Mo_isThing l dC dI cI cB cZ cJ th oM fm hm_things s.heap.size) (cwV 1 hts (tb_V mw_2408 mw_2410 sl_152 mw_18 mw_2411) rfl rfl rfl ⟨rfl, by decide +kernel, by decide +kernel, by decide +kernel⟩ ⟨(Nat.le_of_ble_eq_true rfl), (Nat.le_of_ble_eq_true rfl)⟩) ⟨pw_blind, va_recv (q := (R_Mo, F_Mo, 87)) hK.1 hP (ci := 12) (q0 := 0) rfl rfl, pw_pre hPc hK hDc⟩ rfl rfl hl.1 rfl (lv_room (Nat.le_of_ble_eq_true rfl)) d_Mo_isValve_2 ⟨(Nat.le_of_ble_eq_true rfl), (Nat.le_of_ble_eq_true rfl)⟩) hS (fun q _ h => hFc q h) hFc (fun r u t H locs ht hvm hw hB hz1 hk1 hS => ?_)
  have hP := pu_kept hP hk1
  obtain rfl : r = 0 := hw
  refine lv_if_eq (tgt := 22) hx hb d_Mo_isValve_5 (by decide) (fun _ => ?_) (fun h => absurd (by decide) h)
  refine lv_iconst (v := 0) hx hb d_Mo_isValve_22 (by decide) ?_
  exact W.zret (v := 0) (ty := .boolean) hx hb hr (by decide) (fun t ht hW => ⟨⟨_, (), rfl, (rfl), trivial⟩, hS.F ht⟩) hS.2.2 d_Mo_isValve_23
theorem d_Mo_isPipe_0 : decode b_Mo_isPipe 0 = .ok (.iload_n 1, 1) := by decide +kernel
theorem d_Mo_isPipe_1 : decode b_Mo_isPipe 1 = .ok (.aload_n 0, 1) := by decide +kernel
theorem d_Mo_isPipe_2 : decode b_Mo_isPipe 2 = .ok (.getfield 278, 3) := by decide +kernel
theorem d_Mo_isPipe_5 : decode b_Mo_isPipe 5 = .ok (.if_icmp .lt 20, 3) := by decide +kernel
theorem d_Mo_isPipe_8 : decode b_Mo_isPipe 8 = .ok (.iload_n 1, 1) := by decide +kernel
theorem d_Mo_isPipe_9 : decode b_Mo_isPipe 9 = .ok (.aload_n 0, 1) := by decide +kernel
theorem d_Mo_isPipe_10 : decode b_Mo_isPipe 10 = .ok (.getfield 278, 3) := by decide +kernel
theorem d_Mo_isPipe_13 : decode b_Mo_isPipe 13 = .ok (.aload_n 0, 1) := by decide +kernel
theorem d_Mo_isPipe_14 : decode b_Mo_isPipe 14 = .ok (.getfield 281, 3) := by decide +kernel
theorem d_Mo_isPipe_17 : decode b_Mo_isPipe 17 = .ok (.iadd, 1) := by decide +kernel
theorem d_Mo_isPipe_18 : decode b_Mo_isPipe 18 = .ok (.if_icmp .ge 7, 3) := by decide +kernel
theorem d_Mo_isPipe_25 : decode b_Mo_isPipe 25 = .ok (.iconst 0, 1) := by decide +kernel
theorem d_Mo_isPipe_26 : decode b_Mo_isPipe 26 = .ok (.ireturn, 1) := by decide +kernel
set_option maxHeartbeats 4000000 in
set_option maxRecDepth 100000 in
theorem c_Mo_isPipe (l : Launch) (dC : Nat → ClassId) (dI : Nat → Nat → Nat) (cI cB cZ cJ : ClassId) (th : Int32) (oM : Nat) (fm : List Value) (hm_things : fm[4]? = some (.int 0)) (hm_pipes : fm[11]? = some (.int 0)) (sz : Nat) : Met l y_Mo_isPipe w_Mo_isPipe ({ frames := 0, cells := 0, slots := 0, locals := 0 }) (va_Pc [.ref oM, .int th] (PW dC dI cI cB cZ cJ [(oM, .inr (12, fm))] sz)) (va_Qi (fun (r : Int32) (_ : Unit) => r = 0) (fun _ _ => True) (va_A [] sz)) 0 0 (va_A [] sz) := by
  refine Met.ofW (cc := b_Mo_isPipe) (maxL := 2) (ret := (some .boolean)) (by decide) rfl ?_
  intro p e s m args below meth c s₁ B hml hv
  obtain ⟨rfl, hsz, hP, hK, hD⟩ := hv
  have hx := B.exec
  have hb := B.bytes
  have hr := B.returns
  have hts := atoms_spec (ws := w_Mo_isPipe) B.pre
  have hown : s.vm.findClass R_Mo = some m.cls := findClass_of_methodNamed B.named
  have hlocks := B.notSynchronized
  subst hsz
  generalize hAe : va_A [] s.heap.size = A at ⊢
  have hA : ∀ q : Nat, s.heap.size ≤ q → A q := fun q h => by rw [← hAe]; exact Or.inr h
  have hS : va_S A s.heap s.heap [] := va_S.rf
  have hP : va_P (dC, dI) classes [(oM, .inr (12, fm))] s.heap := hP
  have hl := lv_entry ([.ref oM, .int th]) (n := 2) (Nat.le_of_ble_eq_true rfl)
  rw [lg_entry_eq]
  generalize (lg_sl ([.ref oM, .int th]) ++ List.replicate (2 - (lg_sl ([.ref oM, .int th])).length) Slot.unset).toArray = ls at hl ⊢
  have hl : lv_has ls 2 [(0, .ref oM), (1, .int th)] := hl
  refine lv_iload_n hx hb d_Mo_isPipe_0 rfl (lv_at hl 1 rfl) ?_
  refine lv_aload_n hx hb d_Mo_isPipe_1 rfl (lv_at hl 0 rfl) ?_
  refine va_get (D := (dC, dI)) (ci := 12) (v := .int 0) (C := R_Mo) (T := F_Mo) (N := 87) hx hb hts (fun w h => List.mem_cons_of_mem _ (in_Mo w h)) hown hK.1 hP 0 rfl rfl 4 (by decide) (hts _ (List.mem_cons_of_mem _ mw_1790)) (fun _ h9 => h9) hm_things d_Mo_isPipe_2 ?_
  refine lv_icmp_lt (tgt := 25) hx hb d_Mo_isPipe_5 (by decide) (fun h5 => ?_) (fun h5 => ?_)
  · refine lv_iconst (v := 0) hx hb d_Mo_isPipe_25 (by decide) ?_
    exact W.zret (v := 0) (ty := .boolean) hx hb hr (by decide) (fun t ht hW => ⟨⟨_, (), rfl, (rfl), trivial⟩, hS.F ht⟩) hS.2.2 d_Mo_isPipe_26
  · refine lv_iload_n hx hb d_Mo_isPipe_8 rfl (lv_at hl 1 rfl) ?_
    refine lv_aload_n hx hb d_Mo_isPipe_9 rfl (lv_at hl 0 rfl) ?_
    refine va_get (D := (dC, dI)) (ci := 12) (v := .int 0) (C := R_Mo) (T := F_Mo) (N := 87) hx hb hts (fun w h => List.mem_cons_of_mem _ (in_Mo w h)) hown hK.1 hP 0 rfl rfl 4 (by decide) (hts _ (List.mem_cons_of_mem _ mw_1790)) (fun _ h9 => h9) hm_things d_Mo_isPipe_10 ?_
    refine lv_aload_n hx hb d_Mo_isPipe_13 rfl (lv_at hl 0 rfl) ?_
    refine va_get (D := (dC, dI)) (ci := 12) (v := .int 0) (C := R_Mo) (T := F_Mo) (N := 87) hx hb hts (fun w h => List.mem_cons_of_mem _ (in_Mo w h)) hown hK.1 hP 0 rfl rfl 11 (by decide) (hts _ (List.mem_cons_of_mem _ mw_1797)) (fun _ h9 => h9) hm_pipes d_Mo_isPipe_14 ?_
    refine lv_iadd hx hb d_Mo_isPipe_17 ?_
    refine lv_topi (fun x0 e0 => ?_)
    obtain rfl : x0 = 0 := e0.trans (by decide)
    refine lv_icmp_ge (tgt := 25) hx hb d_Mo_isPipe_18 (by decide) (fun _ => ?_) (fun h => absurd (nd_le h5 (by decide)) h)
    refine lv_iconst (v := 0) hx hb d_Mo_isPipe_25 (by decide) ?_
    exact W.zret (v := 0) (ty := .boolean) hx hb hr (by decide) (fun t ht hW => ⟨⟨_, (), rfl, (rfl), trivial⟩, hS.F ht⟩) hS.2.2 d_Mo_isPipe_26
theorem d_Mo_holdsLiquid_0 : decode b_Mo_holdsLiquid 0 = .ok (.aload_n 0, 1) := by decide +kernel
theorem d_Mo_holdsLiquid_1 : decode b_Mo_holdsLiquid 1 = .ok (.iload_n 1, 1) := by decide +kernel
theorem d_Mo_holdsLiquid_2 : decode b_Mo_holdsLiquid 2 = .ok (.invokevirtual 317, 3) := by decide +kernel
theorem d_Mo_holdsLiquid_5 : decode b_Mo_holdsLiquid 5 = .ok (.ifCond .ne 11, 3) := by decide +kernel
theorem d_Mo_holdsLiquid_8 : decode b_Mo_holdsLiquid 8 = .ok (.aload_n 0, 1) := by decide +kernel
theorem d_Mo_holdsLiquid_9 : decode b_Mo_holdsLiquid 9 = .ok (.iload_n 1, 1) := by decide +kernel
theorem d_Mo_holdsLiquid_10 : decode b_Mo_holdsLiquid 10 = .ok (.invokevirtual 320, 3) := by decide +kernel
theorem d_Mo_holdsLiquid_13 : decode b_Mo_holdsLiquid 13 = .ok (.ifCond .eq 7, 3) := by decide +kernel
theorem d_Mo_holdsLiquid_20 : decode b_Mo_holdsLiquid 20 = .ok (.iconst 0, 1) := by decide +kernel
theorem d_Mo_holdsLiquid_21 : decode b_Mo_holdsLiquid 21 = .ok (.ireturn, 1) := by decide +kernel
set_option maxHeartbeats 4000000 in
set_option maxRecDepth 100000 in
theorem c_Mo_holdsLiquid (l : Launch) (dC : Nat → ClassId) (dI : Nat → Nat → Nat) (cI cB cZ cJ : ClassId) (th : Int32) (oM : Nat) (fm : List Value) (hm_things : fm[4]? = some (.int 0)) (hm_pipes : fm[11]? = some (.int 0)) (sz : Nat) : Met l y_Mo_holdsLiquid w_Mo_holdsLiquid ({ frames := 2, cells := 0, slots := 0, locals := 42 }) (va_Pc [.ref oM, .int th] (PW dC dI cI cB cZ cJ [(oM, .inr (12, fm))] sz)) (va_Qi (fun (r : Int32) (_ : Unit) => r = 0) (fun _ _ => True) (va_A [] sz)) 0 0 (va_A [] sz) := by
  refine Met.ofW (cc := b_Mo_holdsLiquid) (maxL := 2) (ret := (some .boolean)) (by decide) rfl ?_
  intro p e s m args below meth c s₁ B hml hv
  obtain ⟨rfl, hsz, hP, hK, hD⟩ := hv
  have hx := B.exec
  have hb := B.bytes
  have hr := B.returns
  have hts := atoms_spec (ws := w_Mo_holdsLiquid) B.pre
  have hown : s.vm.findClass R_Mo = some m.cls := findClass_of_methodNamed B.named
  have hlocks := B.notSynchronized
  subst hsz
  generalize hAe : va_A [] s.heap.size = A at ⊢
  have hA : ∀ q : Nat, s.heap.size ≤ q → A q := fun q h => by rw [← hAe]; exact Or.inr h
  have hS : va_S A s.heap s.heap [] := va_S.rf
  have hP : va_P (dC, dI) classes [(oM, .inr (12, fm))] s.heap := hP
  have hl := lv_entry ([.ref oM, .int th]) (n := 2) (Nat.le_of_ble_eq_true rfl)
  rw [lg_entry_eq]
  generalize (lg_sl ([.ref oM, .int th]) ++ List.replicate (2 - (lg_sl ([.ref oM, .int th])).length) Slot.unset).toArray = ls at hl ⊢
  have hl : lv_has ls 2 [(0, .ref oM), (1, .int th)] := hl
  refine lv_aload_n hx hb d_Mo_holdsLiquid_0 rfl (lv_at hl 0 rfl) ?_
  refine lv_iload_n hx hb d_Mo_holdsLiquid_1 rfl (lv_at hl 1 rfl) ?_
  have hPc := hP.sub (ws' := [(oM, .inr (12, fm))]) [0] rfl
  have hDc := hD.sub (ws' := [(oM, .inr (12, fm))]) [0] (by decide) rfl
  have hFc := pu_free hS hA
  refine va_calli (va_runV (C := R_Mo) (As := [.int th]) (rest := []) ⟨hx, hb, hml, hown, hts⟩ (c_Mo_isTank l dC dI cI cB cZ cJ th oM fm hm_things s.heap.size) (cwV 1 hts (tb_V mw_2416 mw_2418 sl_154 mw_18 mw_2419) rfl rfl rfl ⟨rfl, by decide +kernel, by decide +kernel, by decide +kernel⟩ ⟨(Nat.le_of_ble_eq_true rfl), (Nat.le_of_ble_eq_true rfl)⟩) ⟨pw_blind, va_recv (q := (R_Mo, F_Mo, 87)) hK.1 hP (ci := 12) (q0 := 0) rfl rfl, pw_pre hPc hK hDc⟩ rfl rfl hl.1 rfl (lv_room (Nat.le_of_ble_eq_true rfl)) d_Mo_holdsLiquid_2 ⟨(Nat.le_of_ble_eq_true rfl), (Nat.le_of_ble_eq_true rfl)⟩) hS (fun q _ h => hFc q h) hFc (fun r u t H locs ht hvm hw hB hz1 hk1 hS => ?_)
  have hP := pu_kept hP hk1
  obtain rfl : r = 0 := hw
  refine lv_if_ne (tgt := 16) hx hb d_Mo_holdsLiquid_5 (by decide) (fun h => absurd rfl h) (fun _ => ?_)
  refine lv_aload_n hx hb d_Mo_holdsLiquid_8 rfl (lv_at hl 0 rfl) ?_
  refine lv_iload_n hx hb d_Mo_holdsLiquid_9 rfl (lv_at hl 1 rfl) ?_
  have hPc := hP.sub (ws' := [(oM, .inr (12, fm))]) [0] rfl
  have hDc := hD.sub (ws' := [(oM, .inr (12, fm))]) [0] (by decide) rfl
  have hFc := pu_free hS hA
  refine va_calli (va_runV (C := R_Mo) (As := [.int th]) (rest := []) ⟨hx, hb, hml, hown, hts⟩ (c_Mo_isPipe l dC dI cI cB cZ cJ th oM fm hm_things hm_pipes H.size) (cwV 1 hts (tb_V mw_2420 mw_2422 sl_155 mw_18 mw_2423) rfl rfl rfl ⟨rfl, by decide +kernel, by decide +kernel, by decide +kernel⟩ ⟨(Nat.le_of_ble_eq_true rfl), (Nat.le_of_ble_eq_true rfl)⟩) ⟨pw_blind, va_recv (q := (R_Mo, F_Mo, 87)) hK.1 hP (ci := 12) (q0 := 0) rfl rfl, pw_pre hPc hK hDc⟩ rfl rfl hl.1 rfl (lv_room (Nat.le_of_ble_eq_true rfl)) d_Mo_holdsLiquid_10 ⟨(Nat.le_of_ble_eq_true rfl), (Nat.le_of_ble_eq_true rfl)⟩) hS (fun q _ h => hFc q h) hFc (fun r u t H locs ht hvm hw hB hz1 hk1 hS => ?_)
  have hP := pu_kept hP hk1
  obtain rfl : r = 0 := hw
  refine lv_if_eq (tgt := 20) hx hb d_Mo_holdsLiquid_13 (by decide) (fun _ => ?_) (fun h => absurd (by decide) h)
  refine lv_iconst (v := 0) hx hb d_Mo_holdsLiquid_20 (by decide) ?_
  exact W.zret (v := 0) (ty := .boolean) hx hb hr (by decide) (fun t ht hW => ⟨⟨_, (), rfl, (rfl), trivial⟩, hS.F ht⟩) hS.2.2 d_Mo_holdsLiquid_21
theorem d_Mo_isRole_0 : decode b_Mo_isRole 0 = .ok (.iload_n 1, 1) := by decide +kernel
theorem d_Mo_isRole_1 : decode b_Mo_isRole 1 = .ok (.ifCond .lt 42, 3) := by decide +kernel
theorem d_Mo_isRole_4 : decode b_Mo_isRole 4 = .ok (.iload_n 1, 1) := by decide +kernel
theorem d_Mo_isRole_5 : decode b_Mo_isRole 5 = .ok (.aload_n 0, 1) := by decide +kernel
theorem d_Mo_isRole_6 : decode b_Mo_isRole 6 = .ok (.getfield 16, 3) := by decide +kernel
theorem d_Mo_isRole_9 : decode b_Mo_isRole 9 = .ok (.getfield 442, 3) := by decide +kernel
theorem d_Mo_isRole_12 : decode b_Mo_isRole 12 = .ok (.if_icmp .ge 31, 3) := by decide +kernel
theorem d_Mo_isRole_43 : decode b_Mo_isRole 43 = .ok (.iconst 0, 1) := by decide +kernel
theorem d_Mo_isRole_44 : decode b_Mo_isRole 44 = .ok (.ireturn, 1) := by decide +kernel
set_option maxHeartbeats 4000000 in
set_option maxRecDepth 100000 in
theorem c_Mo_isRole (l : Launch) (dC : Nat → ClassId) (dI : Nat → Nat → Nat) (cI cB cZ cJ : ClassId) (na : Int32) (ro : Int32) (oM : Nat) (oT : Nat) (fm : List Value) (hm_program : fm[2]? = some (.ref oT)) (ft : List Value) (ht_nameCount : ft[32]? = some (.int 0)) (sz : Nat) : Met l y_Mo_isRole w_Mo_isRole ({ frames := 0, cells := 0, slots := 0, locals := 0 }) (va_Pc [.ref oM, .int na, .int ro] (PW dC dI cI cB cZ cJ [(oM, .inr (12, fm)), (oT, .inr (13, ft))] sz)) (va_Qi (fun (r : Int32) (_ : Unit) => r = 0) (fun _ _ => True) (va_A [] sz)) 0 0 (va_A [] sz) := by
  refine Met.ofW (cc := b_Mo_isRole) (maxL := 3) (ret := (some .boolean)) (by decide) rfl ?_
  intro p e s m args below meth c s₁ B hml hv
  obtain ⟨rfl, hsz, hP, hK, hD⟩ := hv
  have hx := B.exec
  have hb := B.bytes
  have hr := B.returns
  have hts := atoms_spec (ws := w_Mo_isRole) B.pre
  have hown : s.vm.findClass R_Mo = some m.cls := findClass_of_methodNamed B.named
  have hlocks := B.notSynchronized
  subst hsz
  generalize hAe : va_A [] s.heap.size = A at ⊢
  have hA : ∀ q : Nat, s.heap.size ≤ q → A q := fun q h => by rw [← hAe]; exact Or.inr h
  have hS : va_S A s.heap s.heap [] := va_S.rf
  have hP : va_P (dC, dI) classes [(oM, .inr (12, fm)), (oT, .inr (13, ft))] s.heap := hP
  have hl := lv_entry ([.ref oM, .int na, .int ro]) (n := 3) (Nat.le_of_ble_eq_true rfl)
  rw [lg_entry_eq]
  generalize (lg_sl ([.ref oM, .int na, .int ro]) ++ List.replicate (3 - (lg_sl ([.ref oM, .int na, .int ro])).length) Slot.unset).toArray = ls at hl ⊢
  have hl : lv_has ls 3 [(0, .ref oM), (1, .int na), (2, .int ro)] := hl
  refine lv_iload_n hx hb d_Mo_isRole_0 rfl (lv_at hl 1 rfl) ?_
  refine lv_if_lt (tgt := 43) hx hb d_Mo_isRole_1 (by decide) (fun h1 => ?_) (fun h1 => ?_)
  · refine lv_iconst (v := 0) hx hb d_Mo_isRole_43 (by decide) ?_
    exact W.zret (v := 0) (ty := .boolean) hx hb hr (by decide) (fun t ht hW => ⟨⟨_, (), rfl, (rfl), trivial⟩, hS.F ht⟩) hS.2.2 d_Mo_isRole_44
  · refine lv_iload_n hx hb d_Mo_isRole_4 rfl (lv_at hl 1 rfl) ?_
    refine lv_aload_n hx hb d_Mo_isRole_5 rfl (lv_at hl 0 rfl) ?_
    refine va_get (D := (dC, dI)) (ci := 12) (v := .ref oT) (C := R_Mo) (T := F_Mo) (N := 87) hx hb hts (fun w h => List.mem_cons_of_mem _ (in_Mo w h)) hown hK.1 hP 0 rfl rfl 2 (by decide) (hts _ (List.mem_cons_of_mem _ mw_1788)) (fun _ h9 => h9) hm_program d_Mo_isRole_6 ?_
    refine va_getN (D := (dC, dI)) (ci := 13) (v := .int 0) (C := R_Tx) (T := F_Tx) (N := 39) hx hb hts (fun w h => List.mem_cons_of_mem _ (in_Tx w h)) hown hK.1 hP 1 rfl rfl 32 (by decide) (va_Nw.use rfl (hK.2 _ nw_1612)) (fun _ h9 => h9) ht_nameCount d_Mo_isRole_9 ?_
    refine lv_icmp_ge (tgt := 43) hx hb d_Mo_isRole_12 (by decide) (fun _ => ?_) (fun h => absurd (nd_le h1 (by decide)) h)
    refine lv_iconst (v := 0) hx hb d_Mo_isRole_43 (by decide) ?_
    exact W.zret (v := 0) (ty := .boolean) hx hb hr (by decide) (fun t ht hW => ⟨⟨_, (), rfl, (rfl), trivial⟩, hS.F ht⟩) hS.2.2 d_Mo_isRole_44
theorem d_Mo_sense_0 : decode b_Mo_sense 0 = .ok (.aload_n 0, 1) := by decide +kernel
theorem d_Mo_sense_1 : decode b_Mo_sense 1 = .ok (.iload_n 1, 1) := by decide +kernel
theorem d_Mo_sense_2 : decode b_Mo_sense 2 = .ok (.bipush 30, 2) := by decide +kernel
theorem d_Mo_sense_4 : decode b_Mo_sense 4 = .ok (.invokevirtual 451, 3) := by decide +kernel
theorem d_Mo_sense_7 : decode b_Mo_sense 7 = .ok (.ifCond .eq 12, 3) := by decide +kernel
theorem d_Mo_sense_19 : decode b_Mo_sense 19 = .ok (.iconst 0, 1) := by decide +kernel
theorem d_Mo_sense_20 : decode b_Mo_sense 20 = .ok (.ireturn, 1) := by decide +kernel
set_option maxHeartbeats 4000000 in
set_option maxRecDepth 100000 in
theorem c_Mo_sense (l : Launch) (dC : Nat → ClassId) (dI : Nat → Nat → Nat) (cI cB cZ cJ : ClassId) (na : Int32) (wh : Int32) (xx : Int32) (oM : Nat) (oT : Nat) (fm : List Value) (hm_program : fm[2]? = some (.ref oT)) (ft : List Value) (ht_nameCount : ft[32]? = some (.int 0)) (sz : Nat) : Met l y_Mo_sense w_Mo_sense ({ frames := 1, cells := 0, slots := 0, locals := 22 }) (va_Pc [.ref oM, .int na, .int wh, .int xx] (PW dC dI cI cB cZ cJ [(oM, .inr (12, fm)), (oT, .inr (13, ft))] sz)) (va_Qi (fun (r : Int32) (_ : Unit) => r = 0) (fun _ _ => True) (va_A [] sz)) 0 0 (va_A [] sz) := by
  refine Met.ofW (cc := b_Mo_sense) (maxL := 4) (ret := (some .boolean)) (by decide) rfl ?_
  intro p e s m args below meth c s₁ B hml hv
  obtain ⟨rfl, hsz, hP, hK, hD⟩ := hv
  have hx := B.exec
  have hb := B.bytes
  have hr := B.returns
  have hts := atoms_spec (ws := w_Mo_sense) B.pre
  have hown : s.vm.findClass R_Mo = some m.cls := findClass_of_methodNamed B.named
  have hlocks := B.notSynchronized
  subst hsz
  generalize hAe : va_A [] s.heap.size = A at ⊢
  have hA : ∀ q : Nat, s.heap.size ≤ q → A q := fun q h => by rw [← hAe]; exact Or.inr h
  have hS : va_S A s.heap s.heap [] := va_S.rf
  have hP : va_P (dC, dI) classes [(oM, .inr (12, fm)), (oT, .inr (13, ft))] s.heap := hP
  have hl := lv_entry ([.ref oM, .int na, .int wh, .int xx]) (n := 4) (Nat.le_of_ble_eq_true rfl)
  rw [lg_entry_eq]
  generalize (lg_sl ([.ref oM, .int na, .int wh, .int xx]) ++ List.replicate (4 - (lg_sl ([.ref oM, .int na, .int wh, .int xx])).length) Slot.unset).toArray = ls at hl ⊢
  have hl : lv_has ls 4 [(0, .ref oM), (1, .int na), (2, .int wh), (3, .int xx)] := hl
  refine lv_aload_n hx hb d_Mo_sense_0 rfl (lv_at hl 0 rfl) ?_
  refine lv_iload_n hx hb d_Mo_sense_1 rfl (lv_at hl 1 rfl) ?_
  refine lv_bipush (v := 30) hx hb d_Mo_sense_2 (by decide) ?_
  have hPc := hP.sub (ws' := [(oM, .inr (12, fm)), (oT, .inr (13, ft))]) [0, 1] rfl
  have hDc := hD.sub (ws' := [(oM, .inr (12, fm)), (oT, .inr (13, ft))]) [0, 1] (by decide) rfl
  have hFc := pu_free hS hA
  refine va_calli (va_runV (C := R_Mo) (As := [.int na, .int 30]) (rest := []) ⟨hx, hb, hml, hown, hts⟩ (c_Mo_isRole l dC dI cI cB cZ cJ na 30 oM oT fm hm_program ft ht_nameCount s.heap.size) (cwV 2 hts (tb_V mw_2521 mw_2523 sl_171 mw_18 mw_2524) rfl rfl rfl ⟨rfl, by decide +kernel, by decide +kernel, by decide +kernel⟩ ⟨(Nat.le_of_ble_eq_true rfl), (Nat.le_of_ble_eq_true rfl)⟩) ⟨pw_blind, va_recv (q := (R_Mo, F_Mo, 87)) hK.1 hP (ci := 12) (q0 := 0) rfl rfl, pw_pre hPc hK hDc⟩ rfl rfl hl.1 rfl (lv_room (Nat.le_of_ble_eq_true rfl)) d_Mo_sense_4 ⟨(Nat.le_of_ble_eq_true rfl), (Nat.le_of_ble_eq_true rfl)⟩) hS (fun q _ h => hFc q h) hFc (fun r u t H locs ht hvm hw hB hz1 hk1 hS => ?_)
  have hP := pu_kept hP hk1
  obtain rfl : r = 0 := hw
  refine lv_if_eq (tgt := 19) hx hb d_Mo_sense_7 (by decide) (fun _ => ?_) (fun h => absurd (by decide) h)
  refine lv_iconst (v := 0) hx hb d_Mo_sense_19 (by decide) ?_
  exact W.zret (v := 0) (ty := .boolean) hx hb hr (by decide) (fun t ht hW => ⟨⟨_, (), rfl, (rfl), trivial⟩, hS.F ht⟩) hS.2.2 d_Mo_sense_20
theorem d_Mo_signal_0 : decode b_Mo_signal 0 = .ok (.aload_n 0, 1) := by decide +kernel
theorem d_Mo_signal_1 : decode b_Mo_signal 1 = .ok (.iload_n 1, 1) := by decide +kernel
theorem d_Mo_signal_2 : decode b_Mo_signal 2 = .ok (.bipush 30, 2) := by decide +kernel
theorem d_Mo_signal_4 : decode b_Mo_signal 4 = .ok (.invokevirtual 451, 3) := by decide +kernel
theorem d_Mo_signal_7 : decode b_Mo_signal 7 = .ok (.ifCond .ne 5, 3) := by decide +kernel
theorem d_Mo_signal_10 : decode b_Mo_signal 10 = .ok (.iconst 0, 1) := by decide +kernel
theorem d_Mo_signal_11 : decode b_Mo_signal 11 = .ok (.ireturn, 1) := by decide +kernel
set_option maxHeartbeats 4000000 in
set_option maxRecDepth 100000 in
theorem c_Mo_signal (l : Launch) (dC : Nat → ClassId) (dI : Nat → Nat → Nat) (cI cB cZ cJ : ClassId) (na : Int32) (vv : Int64) (oM : Nat) (oT : Nat) (fm : List Value) (hm_program : fm[2]? = some (.ref oT)) (ft : List Value) (ht_nameCount : ft[32]? = some (.int 0)) (sz : Nat) : Met l y_Mo_signal w_Mo_signal ({ frames := 1, cells := 0, slots := 0, locals := 22 }) (va_Pc [.ref oM, .int na, .long vv] (PW dC dI cI cB cZ cJ [(oM, .inr (12, fm)), (oT, .inr (13, ft))] sz)) (va_Qi (fun (r : Int32) (_ : Unit) => r = 0) (fun _ _ => True) (va_A [] sz)) 0 0 (va_A [] sz) := by
  refine Met.ofW (cc := b_Mo_signal) (maxL := 4) (ret := (some .boolean)) (by decide) rfl ?_
  intro p e s m args below meth c s₁ B hml hv
  obtain ⟨rfl, hsz, hP, hK, hD⟩ := hv
  have hx := B.exec
  have hb := B.bytes
  have hr := B.returns
  have hts := atoms_spec (ws := w_Mo_signal) B.pre
  have hown : s.vm.findClass R_Mo = some m.cls := findClass_of_methodNamed B.named
  have hlocks := B.notSynchronized
  subst hsz
  generalize hAe : va_A [] s.heap.size = A at ⊢
  have hA : ∀ q : Nat, s.heap.size ≤ q → A q := fun q h => by rw [← hAe]; exact Or.inr h
  have hS : va_S A s.heap s.heap [] := va_S.rf
  have hP : va_P (dC, dI) classes [(oM, .inr (12, fm)), (oT, .inr (13, ft))] s.heap := hP
  have hl := lv_entry ([.ref oM, .int na, .long vv]) (n := 4) (Nat.le_of_ble_eq_true rfl)
  rw [lg_entry_eq]
  generalize (lg_sl ([.ref oM, .int na, .long vv]) ++ List.replicate (4 - (lg_sl ([.ref oM, .int na, .long vv])).length) Slot.unset).toArray = ls at hl ⊢
  have hl : lv_has ls 4 [(0, .ref oM), (1, .int na), (2, .long vv)] := hl
  refine lv_aload_n hx hb d_Mo_signal_0 rfl (lv_at hl 0 rfl) ?_
  refine lv_iload_n hx hb d_Mo_signal_1 rfl (lv_at hl 1 rfl) ?_
  refine lv_bipush (v := 30) hx hb d_Mo_signal_2 (by decide) ?_
  have hPc := hP.sub (ws' := [(oM, .inr (12, fm)), (oT, .inr (13, ft))]) [0, 1] rfl
  have hDc := hD.sub (ws' := [(oM, .inr (12, fm)), (oT, .inr (13, ft))]) [0, 1] (by decide) rfl
  have hFc := pu_free hS hA
  refine va_calli (va_runV (C := R_Mo) (As := [.int na, .int 30]) (rest := []) ⟨hx, hb, hml, hown, hts⟩ (c_Mo_isRole l dC dI cI cB cZ cJ na 30 oM oT fm hm_program ft ht_nameCount s.heap.size) (cwV 2 hts (tb_V mw_2521 mw_2523 sl_171 mw_18 mw_2524) rfl rfl rfl ⟨rfl, by decide +kernel, by decide +kernel, by decide +kernel⟩ ⟨(Nat.le_of_ble_eq_true rfl), (Nat.le_of_ble_eq_true rfl)⟩) ⟨pw_blind, va_recv (q := (R_Mo, F_Mo, 87)) hK.1 hP (ci := 12) (q0 := 0) rfl rfl, pw_pre hPc hK hDc⟩ rfl rfl hl.1 rfl (lv_room (Nat.le_of_ble_eq_true rfl)) d_Mo_signal_4 ⟨(Nat.le_of_ble_eq_true rfl), (Nat.le_of_ble_eq_true rfl)⟩) hS (fun q _ h => hFc q h) hFc (fun r u t H locs ht hvm hw hB hz1 hk1 hS => ?_)
  have hP := pu_kept hP hk1
  obtain rfl : r = 0 := hw
  refine lv_if_ne (tgt := 12) hx hb d_Mo_signal_7 (by decide) (fun h => absurd rfl h) (fun _ => ?_)
  refine lv_iconst (v := 0) hx hb d_Mo_signal_10 (by decide) ?_
  exact W.zret (v := 0) (ty := .boolean) hx hb hr (by decide) (fun t ht hW => ⟨⟨_, (), rfl, (rfl), trivial⟩, hS.F ht⟩) hS.2.2 d_Mo_signal_11
theorem d_Mo_value_0 : decode b_Mo_value 0 = .ok (.aload_n 0, 1) := by decide +kernel
theorem d_Mo_value_1 : decode b_Mo_value 1 = .ok (.iload_n 1, 1) := by decide +kernel
theorem d_Mo_value_2 : decode b_Mo_value 2 = .ok (.bipush 30, 2) := by decide +kernel
theorem d_Mo_value_4 : decode b_Mo_value 4 = .ok (.invokevirtual 451, 3) := by decide +kernel
theorem d_Mo_value_7 : decode b_Mo_value 7 = .ok (.ifCond .ne 13, 3) := by decide +kernel
theorem d_Mo_value_10 : decode b_Mo_value 10 = .ok (.aload_n 0, 1) := by decide +kernel
theorem d_Mo_value_11 : decode b_Mo_value 11 = .ok (.iload_n 1, 1) := by decide +kernel
theorem d_Mo_value_12 : decode b_Mo_value 12 = .ok (.bipush 31, 2) := by decide +kernel
theorem d_Mo_value_14 : decode b_Mo_value 14 = .ok (.invokevirtual 451, 3) := by decide +kernel
theorem d_Mo_value_17 : decode b_Mo_value 17 = .ok (.ifCond .eq 12, 3) := by decide +kernel
theorem d_Mo_value_29 : decode b_Mo_value 29 = .ok (.lconst 0, 1) := by decide +kernel
theorem d_Mo_value_30 : decode b_Mo_value 30 = .ok (.lreturn, 1) := by decide +kernel
set_option maxHeartbeats 4000000 in
set_option maxRecDepth 100000 in
theorem c_Mo_value (l : Launch) (dC : Nat → ClassId) (dI : Nat → Nat → Nat) (cI cB cZ cJ : ClassId) (na : Int32) (oM : Nat) (oT : Nat) (fm : List Value) (hm_program : fm[2]? = some (.ref oT)) (ft : List Value) (ht_nameCount : ft[32]? = some (.int 0)) (sz : Nat) : Met l y_Mo_value w_Mo_value ({ frames := 1, cells := 0, slots := 0, locals := 22 }) (va_Pc [.ref oM, .int na] (PW dC dI cI cB cZ cJ [(oM, .inr (12, fm)), (oT, .inr (13, ft))] sz)) (va_Ql (fun (r : Int64) (_ : Unit) => r = 0) (fun _ _ => True) (va_A [] sz)) 0 0 (va_A [] sz) := by
  refine Met.ofW (cc := b_Mo_value) (maxL := 2) (ret := (some .long)) (by decide) rfl ?_
  intro p e s m args below meth c s₁ B hml hv
  obtain ⟨rfl, hsz, hP, hK, hD⟩ := hv
  have hx := B.exec
  have hb := B.bytes
  have hr := B.returns
  have hts := atoms_spec (ws := w_Mo_value) B.pre
  have hown : s.vm.findClass R_Mo = some m.cls := findClass_of_methodNamed B.named
  have hlocks := B.notSynchronized
  subst hsz
  generalize hAe : va_A [] s.heap.size = A at ⊢
  have hA : ∀ q : Nat, s.heap.size ≤ q → A q := fun q h => by rw [← hAe]; exact Or.inr h
  have hS : va_S A s.heap s.heap [] := va_S.rf
  have hP : va_P (dC, dI) classes [(oM, .inr (12, fm)), (oT, .inr (13, ft))] s.heap := hP
  have hl := lv_entry ([.ref oM, .int na]) (n := 2) (Nat.le_of_ble_eq_true rfl)
  rw [lg_entry_eq]
  generalize (lg_sl ([.ref oM, .int na]) ++ List.replicate (2 - (lg_sl ([.ref oM, .int na])).length) Slot.unset).toArray = ls at hl ⊢
  have hl : lv_has ls 2 [(0, .ref oM), (1, .int na)] := hl
  refine lv_aload_n hx hb d_Mo_value_0 rfl (lv_at hl 0 rfl) ?_
  refine lv_iload_n hx hb d_Mo_value_1 rfl (lv_at hl 1 rfl) ?_
  refine lv_bipush (v := 30) hx hb d_Mo_value_2 (by decide) ?_
  have hPc := hP.sub (ws' := [(oM, .inr (12, fm)), (oT, .inr (13, ft))]) [0, 1] rfl
  have hDc := hD.sub (ws' := [(oM, .inr (12, fm)), (oT, .inr (13, ft))]) [0, 1] (by decide) rfl
  have hFc := pu_free hS hA
  refine va_calli (va_runV (C := R_Mo) (As := [.int na, .int 30]) (rest := []) ⟨hx, hb, hml, hown, hts⟩ (c_Mo_isRole l dC dI cI cB cZ cJ na 30 oM oT fm hm_program ft ht_nameCount s.heap.size) (cwV 2 hts (tb_V mw_2521 mw_2523 sl_171 mw_18 mw_2524) rfl rfl rfl ⟨rfl, by decide +kernel, by decide +kernel, by decide +kernel⟩ ⟨(Nat.le_of_ble_eq_true rfl), (Nat.le_of_ble_eq_true rfl)⟩) ⟨pw_blind, va_recv (q := (R_Mo, F_Mo, 87)) hK.1 hP (ci := 12) (q0 := 0) rfl rfl, pw_pre hPc hK hDc⟩ rfl rfl hl.1 rfl (lv_room (Nat.le_of_ble_eq_true rfl)) d_Mo_value_4 ⟨(Nat.le_of_ble_eq_true rfl), (Nat.le_of_ble_eq_true rfl)⟩) hS (fun q _ h => hFc q h) hFc (fun r u t H locs ht hvm hw hB hz1 hk1 hS => ?_)
  have hP := pu_kept hP hk1
  obtain rfl : r = 0 := hw
  refine lv_if_ne (tgt := 20) hx hb d_Mo_value_7 (by decide) (fun h => absurd rfl h) (fun _ => ?_)
  refine lv_aload_n hx hb d_Mo_value_10 rfl (lv_at hl 0 rfl) ?_
  refine lv_iload_n hx hb d_Mo_value_11 rfl (lv_at hl 1 rfl) ?_
  refine lv_bipush (v := 31) hx hb d_Mo_value_12 (by decide) ?_
  have hPc := hP.sub (ws' := [(oM, .inr (12, fm)), (oT, .inr (13, ft))]) [0, 1] rfl
  have hDc := hD.sub (ws' := [(oM, .inr (12, fm)), (oT, .inr (13, ft))]) [0, 1] (by decide) rfl
  have hFc := pu_free hS hA
  refine va_calli (va_runV (C := R_Mo) (As := [.int na, .int 31]) (rest := []) ⟨hx, hb, hml, hown, hts⟩ (c_Mo_isRole l dC dI cI cB cZ cJ na 31 oM oT fm hm_program ft ht_nameCount H.size) (cwV 2 hts (tb_V mw_2521 mw_2523 sl_171 mw_18 mw_2524) rfl rfl rfl ⟨rfl, by decide +kernel, by decide +kernel, by decide +kernel⟩ ⟨(Nat.le_of_ble_eq_true rfl), (Nat.le_of_ble_eq_true rfl)⟩) ⟨pw_blind, va_recv (q := (R_Mo, F_Mo, 87)) hK.1 hP (ci := 12) (q0 := 0) rfl rfl, pw_pre hPc hK hDc⟩ rfl rfl hl.1 rfl (lv_room (Nat.le_of_ble_eq_true rfl)) d_Mo_value_14 ⟨(Nat.le_of_ble_eq_true rfl), (Nat.le_of_ble_eq_true rfl)⟩) hS (fun q _ h => hFc q h) hFc (fun r u t H locs ht hvm hw hB hz1 hk1 hS => ?_)
  have hP := pu_kept hP hk1
  obtain rfl : r = 0 := hw
  refine lv_if_eq (tgt := 29) hx hb d_Mo_value_17 (by decide) (fun _ => ?_) (fun h => absurd (by decide) h)
  refine lv_lconst (v := 0) hx hb d_Mo_value_29 (by decide) ?_
  exact W.lret (v := 0) hx hb hr (fun t ht hW => ⟨⟨_, (), rfl, (rfl), trivial⟩, hS.F ht⟩) hS.2.2 d_Mo_value_30
theorem d_Mo_fill_0 : decode b_Mo_fill 0 = .ok (.aload_n 0, 1) := by decide +kernel
theorem d_Mo_fill_1 : decode b_Mo_fill 1 = .ok (.iload_n 1, 1) := by decide +kernel
theorem d_Mo_fill_2 : decode b_Mo_fill 2 = .ok (.invokevirtual 317, 3) := by decide +kernel
theorem d_Mo_fill_5 : decode b_Mo_fill 5 = .ok (.ifCond .eq 57, 3) := by decide +kernel
theorem d_Mo_fill_62 : decode b_Mo_fill 62 = .ok (.iconst 0, 1) := by decide +kernel
theorem d_Mo_fill_63 : decode b_Mo_fill 63 = .ok (.ireturn, 1) := by decide +kernel
set_option maxHeartbeats 4000000 in
set_option maxRecDepth 100000 in
theorem c_Mo_fill (l : Launch) (dC : Nat → ClassId) (dI : Nat → Nat → Nat) (cI cB cZ cJ : ClassId) (ta : Int32) (li : Int32) (nn : Int64) (oM : Nat) (fm : List Value) (hm_things : fm[4]? = some (.int 0)) (sz : Nat) : Met l y_Mo_fill w_Mo_fill ({ frames := 2, cells := 0, slots := 0, locals := 42 }) (va_Pc [.ref oM, .int ta, .int li, .long nn] (PW dC dI cI cB cZ cJ [(oM, .inr (12, fm))] sz)) (va_Qi (fun (r : Int32) (_ : Unit) => r = 0) (fun _ _ => True) (va_A [] sz)) 0 0 (va_A [] sz) := by
  refine Met.ofW (cc := b_Mo_fill) (maxL := 5) (ret := (some .boolean)) (by decide) rfl ?_
  intro p e s m args below meth c s₁ B hml hv
  obtain ⟨rfl, hsz, hP, hK, hD⟩ := hv
  have hx := B.exec
  have hb := B.bytes
  have hr := B.returns
  have hts := atoms_spec (ws := w_Mo_fill) B.pre
  have hown : s.vm.findClass R_Mo = some m.cls := findClass_of_methodNamed B.named
  have hlocks := B.notSynchronized
  subst hsz
  generalize hAe : va_A [] s.heap.size = A at ⊢
  have hA : ∀ q : Nat, s.heap.size ≤ q → A q := fun q h => by rw [← hAe]; exact Or.inr h
  have hS : va_S A s.heap s.heap [] := va_S.rf
  have hP : va_P (dC, dI) classes [(oM, .inr (12, fm))] s.heap := hP
  have hl := lv_entry ([.ref oM, .int ta, .int li, .long nn]) (n := 5) (Nat.le_of_ble_eq_true rfl)
  rw [lg_entry_eq]
  generalize (lg_sl ([.ref oM, .int ta, .int li, .long nn]) ++ List.replicate (5 - (lg_sl ([.ref oM, .int ta, .int li, .long nn])).length) Slot.unset).toArray = ls at hl ⊢
  have hl : lv_has ls 5 [(0, .ref oM), (1, .int ta), (2, .int li), (3, .long nn)] := hl
  refine lv_aload_n hx hb d_Mo_fill_0 rfl (lv_at hl 0 rfl) ?_
  refine lv_iload_n hx hb d_Mo_fill_1 rfl (lv_at hl 1 rfl) ?_
  have hPc := hP.sub (ws' := [(oM, .inr (12, fm))]) [0] rfl
  have hDc := hD.sub (ws' := [(oM, .inr (12, fm))]) [0] (by decide) rfl
  have hFc := pu_free hS hA
  refine va_calli (va_runV (C := R_Mo) (As := [.int ta]) (rest := []) ⟨hx, hb, hml, hown, hts⟩ (c_Mo_isTank l dC dI cI cB cZ cJ ta oM fm hm_things s.heap.size) (cwV 1 hts (tb_V mw_2416 mw_2418 sl_154 mw_18 mw_2419) rfl rfl rfl ⟨rfl, by decide +kernel, by decide +kernel, by decide +kernel⟩ ⟨(Nat.le_of_ble_eq_true rfl), (Nat.le_of_ble_eq_true rfl)⟩) ⟨pw_blind, va_recv (q := (R_Mo, F_Mo, 87)) hK.1 hP (ci := 12) (q0 := 0) rfl rfl, pw_pre hPc hK hDc⟩ rfl rfl hl.1 rfl (lv_room (Nat.le_of_ble_eq_true rfl)) d_Mo_fill_2 ⟨(Nat.le_of_ble_eq_true rfl), (Nat.le_of_ble_eq_true rfl)⟩) hS (fun q _ h => hFc q h) hFc (fun r u t H locs ht hvm hw hB hz1 hk1 hS => ?_)
  have hP := pu_kept hP hk1
  obtain rfl : r = 0 := hw
  refine lv_if_eq (tgt := 62) hx hb d_Mo_fill_5 (by decide) (fun _ => ?_) (fun h => absurd (by decide) h)
  refine lv_iconst (v := 0) hx hb d_Mo_fill_62 (by decide) ?_
  exact W.zret (v := 0) (ty := .boolean) hx hb hr (by decide) (fun t ht hW => ⟨⟨_, (), rfl, (rfl), trivial⟩, hS.F ht⟩) hS.2.2 d_Mo_fill_63
theorem d_Mo_space_0 : decode b_Mo_space 0 = .ok (.iload_n 2, 1) := by decide +kernel
theorem d_Mo_space_1 : decode b_Mo_space 1 = .ok (.iconst 4, 1) := by decide +kernel
theorem d_Mo_space_2 : decode b_Mo_space 2 = .ok (.if_icmp .ne 22, 3) := by decide +kernel
theorem d_Mo_space_5 : decode b_Mo_space 5 = .ok (.aload_n 0, 1) := by decide +kernel
theorem d_Mo_space_6 : decode b_Mo_space 6 = .ok (.iload_n 1, 1) := by decide +kernel
theorem d_Mo_space_7 : decode b_Mo_space 7 = .ok (.invokevirtual 412, 3) := by decide +kernel
theorem d_Mo_space_10 : decode b_Mo_space 10 = .ok (.ifCond .eq 12, 3) := by decide +kernel
theorem d_Mo_space_22 : decode b_Mo_space 22 = .ok (.iconst (-1), 1) := by decide +kernel
theorem d_Mo_space_23 : decode b_Mo_space 23 = .ok (.ireturn, 1) := by decide +kernel
theorem d_Mo_space_24 : decode b_Mo_space 24 = .ok (.aload_n 0, 1) := by decide +kernel
theorem d_Mo_space_25 : decode b_Mo_space 25 = .ok (.iload_n 1, 1) := by decide +kernel
theorem d_Mo_space_26 : decode b_Mo_space 26 = .ok (.invokevirtual 415, 3) := by decide +kernel
theorem d_Mo_space_29 : decode b_Mo_space 29 = .ok (.ifCond .eq 12, 3) := by decide +kernel
theorem d_Mo_space_41 : decode b_Mo_space 41 = .ok (.iconst (-1), 1) := by decide +kernel
theorem d_Mo_space_42 : decode b_Mo_space 42 = .ok (.ireturn, 1) := by decide +kernel
set_option maxHeartbeats 4000000 in
set_option maxRecDepth 100000 in
theorem c_Mo_space (l : Launch) (dC : Nat → ClassId) (dI : Nat → Nat → Nat) (cI cB cZ cJ : ClassId) (xx : Int32) (wh : Int32) (oM : Nat) (fm : List Value) (hm_things : fm[4]? = some (.int 0)) (hm_pipes : fm[11]? = some (.int 0)) (sz : Nat) : Met l y_Mo_space w_Mo_space ({ frames := 3, cells := 0, slots := 0, locals := 63 }) (va_Pc [.ref oM, .int xx, .int wh] (PW dC dI cI cB cZ cJ [(oM, .inr (12, fm))] sz)) (va_Qi (fun (r : Int32) (_ : Unit) => r = (-1)) (fun _ _ => True) (va_A [] sz)) 0 0 (va_A [] sz) := by
  refine Met.ofW (cc := b_Mo_space) (maxL := 3) (ret := (some .int)) (by decide) rfl ?_
  intro p e s m args below meth c s₁ B hml hv
  obtain ⟨rfl, hsz, hP, hK, hD⟩ := hv
  have hx := B.exec
  have hb := B.bytes
  have hr := B.returns
  have hts := atoms_spec (ws := w_Mo_space) B.pre
  have hown : s.vm.findClass R_Mo = some m.cls := findClass_of_methodNamed B.named
  have hlocks := B.notSynchronized
  subst hsz
  generalize hAe : va_A [] s.heap.size = A at ⊢
  have hA : ∀ q : Nat, s.heap.size ≤ q → A q := fun q h => by rw [← hAe]; exact Or.inr h
  have hS : va_S A s.heap s.heap [] := va_S.rf
  have hP : va_P (dC, dI) classes [(oM, .inr (12, fm))] s.heap := hP
  have hl := lv_entry ([.ref oM, .int xx, .int wh]) (n := 3) (Nat.le_of_ble_eq_true rfl)
  rw [lg_entry_eq]
  generalize (lg_sl ([.ref oM, .int xx, .int wh]) ++ List.replicate (3 - (lg_sl ([.ref oM, .int xx, .int wh])).length) Slot.unset).toArray = ls at hl ⊢
  have hl : lv_has ls 3 [(0, .ref oM), (1, .int xx), (2, .int wh)] := hl
  refine lv_iload_n hx hb d_Mo_space_0 rfl (lv_at hl 2 rfl) ?_
  refine lv_iconst (v := 4) hx hb d_Mo_space_1 (by decide) ?_
  refine lv_icmp_ne (tgt := 24) hx hb d_Mo_space_2 (by decide) (fun h2 => ?_) (fun h2 => ?_)
  · refine lv_aload_n hx hb d_Mo_space_24 rfl (lv_at hl 0 rfl) ?_
    refine lv_iload_n hx hb d_Mo_space_25 rfl (lv_at hl 1 rfl) ?_
    have hPc := hP.sub (ws' := [(oM, .inr (12, fm))]) [0] rfl
    have hDc := hD.sub (ws' := [(oM, .inr (12, fm))]) [0] (by decide) rfl
    have hFc := pu_free hS hA
    refine va_calli (va_runV (C := R_Mo) (As := [.int xx]) (rest := []) ⟨hx, hb, hml, hown, hts⟩ (c_Mo_holdsLiquid l dC dI cI cB cZ cJ xx oM fm hm_things hm_pipes s.heap.size) (cwV 1 hts (tb_V mw_2412 mw_2414 sl_153 mw_18 mw_2415) rfl rfl rfl ⟨rfl, by decide +kernel, by decide +kernel, by decide +kernel⟩ ⟨(Nat.le_of_ble_eq_true rfl), (Nat.le_of_ble_eq_true rfl)⟩) ⟨pw_blind, va_recv (q := (R_Mo, F_Mo, 87)) hK.1 hP (ci := 12) (q0 := 0) rfl rfl, pw_pre hPc hK hDc⟩ rfl rfl hl.1 rfl (lv_room (Nat.le_of_ble_eq_true rfl)) d_Mo_space_26 ⟨(Nat.le_of_ble_eq_true rfl), (Nat.le_of_ble_eq_true rfl)⟩) hS (fun q _ h => hFc q h) hFc (fun r u t H locs ht hvm hw hB hz1 hk1 hS => ?_)
    have hP := pu_kept hP hk1
    obtain rfl : r = 0 := hw
    refine lv_if_eq (tgt := 41) hx hb d_Mo_space_29 (by decide) (fun _ => ?_) (fun h => absurd (by decide) h)
    refine lv_iconst (v := (-1)) hx hb d_Mo_space_41 (by decide) ?_
    exact W.iret (v := (-1)) hx hb hr (fun t ht hW => ⟨⟨_, (), rfl, (rfl), trivial⟩, hS.F ht⟩) hS.2.2 d_Mo_space_42
  · refine lv_aload_n hx hb d_Mo_space_5 rfl (lv_at hl 0 rfl) ?_
    refine lv_iload_n hx hb d_Mo_space_6 rfl (lv_at hl 1 rfl) ?_
    have hPc := hP.sub (ws' := [(oM, .inr (12, fm))]) [0] rfl
    have hDc := hD.sub (ws' := [(oM, .inr (12, fm))]) [0] (by decide) rfl
    have hFc := pu_free hS hA
    refine va_calli (va_runV (C := R_Mo) (As := [.int xx]) (rest := []) ⟨hx, hb, hml, hown, hts⟩ (c_Mo_isValve l dC dI cI cB cZ cJ xx oM fm hm_things s.heap.size) (cwV 1 hts (tb_V mw_2404 mw_2406 sl_151 mw_18 mw_2407) rfl rfl rfl ⟨rfl, by decide +kernel, by decide +kernel, by decide +kernel⟩ ⟨(Nat.le_of_ble_eq_true rfl), (Nat.le_of_ble_eq_true rfl)⟩) ⟨pw_blind, va_recv (q := (R_Mo, F_Mo, 87)) hK.1 hP (ci := 12) (q0 := 0) rfl rfl, pw_pre hPc hK hDc⟩ rfl rfl hl.1 rfl (lv_room (Nat.le_of_ble_eq_true rfl)) d_Mo_space_7 ⟨(Nat.le_of_ble_eq_true rfl), (Nat.le_of_ble_eq_true rfl)⟩) hS (fun q _ h => hFc q h) hFc (fun r u t H locs ht hvm hw hB hz1 hk1 hS => ?_)
    have hP := pu_kept hP hk1
    obtain rfl : r = 0 := hw
    refine lv_if_eq (tgt := 22) hx hb d_Mo_space_10 (by decide) (fun _ => ?_) (fun h => absurd (by decide) h)
    refine lv_iconst (v := (-1)) hx hb d_Mo_space_22 (by decide) ?_
    exact W.iret (v := (-1)) hx hb hr (fun t ht hW => ⟨⟨_, (), rfl, (rfl), trivial⟩, hS.F ht⟩) hS.2.2 d_Mo_space_23
theorem d_Mo_way_0 : decode b_Mo_way 0 = .ok (.iload_n 1, 1) := by decide +kernel
theorem d_Mo_way_1 : decode b_Mo_way 1 = .ok (.ifCond .lt 27, 3) := by decide +kernel
theorem d_Mo_way_4 : decode b_Mo_way 4 = .ok (.iload_n 1, 1) := by decide +kernel
theorem d_Mo_way_5 : decode b_Mo_way 5 = .ok (.aload_n 0, 1) := by decide +kernel
theorem d_Mo_way_6 : decode b_Mo_way 6 = .ok (.getfield 284, 3) := by decide +kernel
theorem d_Mo_way_9 : decode b_Mo_way 9 = .ok (.if_icmp .ge 19, 3) := by decide +kernel
theorem d_Mo_way_28 : decode b_Mo_way 28 = .ok (.iconst (-1), 1) := by decide +kernel
theorem d_Mo_way_29 : decode b_Mo_way 29 = .ok (.ireturn, 1) := by decide +kernel
set_option maxHeartbeats 4000000 in
set_option maxRecDepth 100000 in
theorem c_Mo_way (l : Launch) (dC : Nat → ClassId) (dI : Nat → Nat → Nat) (cI cB cZ cJ : ClassId) (kk : Int32) (wh : Int32) (oM : Nat) (fm : List Value) (hm_ways : fm[26]? = some (.int 0)) (sz : Nat) : Met l y_Mo_way w_Mo_way ({ frames := 0, cells := 0, slots := 0, locals := 0 }) (va_Pc [.ref oM, .int kk, .int wh] (PW dC dI cI cB cZ cJ [(oM, .inr (12, fm))] sz)) (va_Qi (fun (r : Int32) (_ : Unit) => r = (-1)) (fun _ _ => True) (va_A [] sz)) 0 0 (va_A [] sz) := by
  refine Met.ofW (cc := b_Mo_way) (maxL := 3) (ret := (some .int)) (by decide) rfl ?_
  intro p e s m args below meth c s₁ B hml hv
  obtain ⟨rfl, hsz, hP, hK, hD⟩ := hv
  have hx := B.exec
  have hb := B.bytes
  have hr := B.returns
  have hts := atoms_spec (ws := w_Mo_way) B.pre
  have hown : s.vm.findClass R_Mo = some m.cls := findClass_of_methodNamed B.named
  have hlocks := B.notSynchronized
  subst hsz
  generalize hAe : va_A [] s.heap.size = A at ⊢
  have hA : ∀ q : Nat, s.heap.size ≤ q → A q := fun q h => by rw [← hAe]; exact Or.inr h
  have hS : va_S A s.heap s.heap [] := va_S.rf
  have hP : va_P (dC, dI) classes [(oM, .inr (12, fm))] s.heap := hP
  have hl := lv_entry ([.ref oM, .int kk, .int wh]) (n := 3) (Nat.le_of_ble_eq_true rfl)
  rw [lg_entry_eq]
  generalize (lg_sl ([.ref oM, .int kk, .int wh]) ++ List.replicate (3 - (lg_sl ([.ref oM, .int kk, .int wh])).length) Slot.unset).toArray = ls at hl ⊢
  have hl : lv_has ls 3 [(0, .ref oM), (1, .int kk), (2, .int wh)] := hl
  refine lv_iload_n hx hb d_Mo_way_0 rfl (lv_at hl 1 rfl) ?_
  refine lv_if_lt (tgt := 28) hx hb d_Mo_way_1 (by decide) (fun h1 => ?_) (fun h1 => ?_)
  · refine lv_iconst (v := (-1)) hx hb d_Mo_way_28 (by decide) ?_
    exact W.iret (v := (-1)) hx hb hr (fun t ht hW => ⟨⟨_, (), rfl, (rfl), trivial⟩, hS.F ht⟩) hS.2.2 d_Mo_way_29
  · refine lv_iload_n hx hb d_Mo_way_4 rfl (lv_at hl 1 rfl) ?_
    refine lv_aload_n hx hb d_Mo_way_5 rfl (lv_at hl 0 rfl) ?_
    refine va_get (D := (dC, dI)) (ci := 12) (v := .int 0) (C := R_Mo) (T := F_Mo) (N := 87) hx hb hts (fun w h => List.mem_cons_of_mem _ (in_Mo w h)) hown hK.1 hP 0 rfl rfl 26 (by decide) (hts _ (List.mem_cons_of_mem _ mw_1812)) (fun _ h9 => h9) hm_ways d_Mo_way_6 ?_
    refine lv_icmp_ge (tgt := 28) hx hb d_Mo_way_9 (by decide) (fun _ => ?_) (fun h => absurd (nd_le h1 (by decide)) h)
    refine lv_iconst (v := (-1)) hx hb d_Mo_way_28 (by decide) ?_
    exact W.iret (v := (-1)) hx hb hr (fun t ht hW => ⟨⟨_, (), rfl, (rfl), trivial⟩, hS.F ht⟩) hS.2.2 d_Mo_way_29
theorem d_Mo_alarm_0 : decode b_Mo_alarm 0 = .ok (.iload_n 1, 1) := by decide +kernel
theorem d_Mo_alarm_1 : decode b_Mo_alarm 1 = .ok (.ifCond .lt 11, 3) := by decide +kernel
theorem d_Mo_alarm_4 : decode b_Mo_alarm 4 = .ok (.iload_n 1, 1) := by decide +kernel
theorem d_Mo_alarm_5 : decode b_Mo_alarm 5 = .ok (.aload_n 0, 1) := by decide +kernel
theorem d_Mo_alarm_6 : decode b_Mo_alarm 6 = .ok (.getfield 433, 3) := by decide +kernel
theorem d_Mo_alarm_9 : decode b_Mo_alarm 9 = .ok (.if_icmp .lt 5, 3) := by decide +kernel
theorem d_Mo_alarm_12 : decode b_Mo_alarm 12 = .ok (.iconst (-1), 1) := by decide +kernel
theorem d_Mo_alarm_13 : decode b_Mo_alarm 13 = .ok (.ireturn, 1) := by decide +kernel
set_option maxHeartbeats 4000000 in
set_option maxRecDepth 100000 in
theorem c_Mo_alarm (l : Launch) (dC : Nat → ClassId) (dI : Nat → Nat → Nat) (cI cB cZ cJ : ClassId) (kk : Int32) (wh : Int32) (oM : Nat) (fm : List Value) (hm_alarms : fm[79]? = some (.int 0)) (sz : Nat) : Met l y_Mo_alarm w_Mo_alarm ({ frames := 0, cells := 0, slots := 0, locals := 0 }) (va_Pc [.ref oM, .int kk, .int wh] (PW dC dI cI cB cZ cJ [(oM, .inr (12, fm))] sz)) (va_Qi (fun (r : Int32) (_ : Unit) => r = (-1)) (fun _ _ => True) (va_A [] sz)) 0 0 (va_A [] sz) := by
  refine Met.ofW (cc := b_Mo_alarm) (maxL := 3) (ret := (some .int)) (by decide) rfl ?_
  intro p e s m args below meth c s₁ B hml hv
  obtain ⟨rfl, hsz, hP, hK, hD⟩ := hv
  have hx := B.exec
  have hb := B.bytes
  have hr := B.returns
  have hts := atoms_spec (ws := w_Mo_alarm) B.pre
  have hown : s.vm.findClass R_Mo = some m.cls := findClass_of_methodNamed B.named
  have hlocks := B.notSynchronized
  subst hsz
  generalize hAe : va_A [] s.heap.size = A at ⊢
  have hA : ∀ q : Nat, s.heap.size ≤ q → A q := fun q h => by rw [← hAe]; exact Or.inr h
  have hS : va_S A s.heap s.heap [] := va_S.rf
  have hP : va_P (dC, dI) classes [(oM, .inr (12, fm))] s.heap := hP
  have hl := lv_entry ([.ref oM, .int kk, .int wh]) (n := 3) (Nat.le_of_ble_eq_true rfl)
  rw [lg_entry_eq]
  generalize (lg_sl ([.ref oM, .int kk, .int wh]) ++ List.replicate (3 - (lg_sl ([.ref oM, .int kk, .int wh])).length) Slot.unset).toArray = ls at hl ⊢
  have hl : lv_has ls 3 [(0, .ref oM), (1, .int kk), (2, .int wh)] := hl
  refine lv_iload_n hx hb d_Mo_alarm_0 rfl (lv_at hl 1 rfl) ?_
  refine lv_if_lt (tgt := 12) hx hb d_Mo_alarm_1 (by decide) (fun h1 => ?_) (fun h1 => ?_)
  · refine lv_iconst (v := (-1)) hx hb d_Mo_alarm_12 (by decide) ?_
    exact W.iret (v := (-1)) hx hb hr (fun t ht hW => ⟨⟨_, (), rfl, (rfl), trivial⟩, hS.F ht⟩) hS.2.2 d_Mo_alarm_13
  · refine lv_iload_n hx hb d_Mo_alarm_4 rfl (lv_at hl 1 rfl) ?_
    refine lv_aload_n hx hb d_Mo_alarm_5 rfl (lv_at hl 0 rfl) ?_
    refine va_get (D := (dC, dI)) (ci := 12) (v := .int 0) (C := R_Mo) (T := F_Mo) (N := 87) hx hb hts (fun w h => List.mem_cons_of_mem _ (in_Mo w h)) hown hK.1 hP 0 rfl rfl 79 (by decide) (hts _ (List.mem_cons_of_mem _ mw_1865)) (fun _ h9 => h9) hm_alarms d_Mo_alarm_6 ?_
    refine lv_icmp_lt (tgt := 14) hx hb d_Mo_alarm_9 (by decide) (fun h => absurd h (nv_lt h1 (by decide))) (fun _ => ?_)
    refine lv_iconst (v := (-1)) hx hb d_Mo_alarm_12 (by decide) ?_
    exact W.iret (v := (-1)) hx hb hr (fun t ht hW => ⟨⟨_, (), rfl, (rfl), trivial⟩, hS.F ht⟩) hS.2.2 d_Mo_alarm_13
theorem d_Mo_hold_0 : decode b_Mo_hold 0 = .ok (.iload_n 1, 1) := by decide +kernel
theorem d_Mo_hold_1 : decode b_Mo_hold 1 = .ok (.ifCond .eq 13, 3) := by decide +kernel
theorem d_Mo_hold_4 : decode b_Mo_hold 4 = .ok (.aload_n 0, 1) := by decide +kernel
theorem d_Mo_hold_5 : decode b_Mo_hold 5 = .ok (.getfield 162, 3) := by decide +kernel
theorem d_Mo_hold_8 : decode b_Mo_hold 8 = .ok (.ifCond .eq 16, 3) := by decide +kernel
theorem d_Mo_hold_11 : decode b_Mo_hold 11 = .ok (.goto 11, 3) := by decide +kernel
theorem d_Mo_hold_14 : decode b_Mo_hold 14 = .ok (.aload_n 0, 1) := by decide +kernel
theorem d_Mo_hold_15 : decode b_Mo_hold 15 = .ok (.getfield 162, 3) := by decide +kernel
theorem d_Mo_hold_18 : decode b_Mo_hold 18 = .ok (.iconst 2, 1) := by decide +kernel
theorem d_Mo_hold_19 : decode b_Mo_hold 19 = .ok (.if_icmp .eq 5, 3) := by decide +kernel
theorem d_Mo_hold_22 : decode b_Mo_hold 22 = .ok (.iconst 0, 1) := by decide +kernel
theorem d_Mo_hold_23 : decode b_Mo_hold 23 = .ok (.ireturn, 1) := by decide +kernel
set_option maxHeartbeats 4000000 in
set_option maxRecDepth 100000 in
theorem c_Mo_hold (l : Launch) (dC : Nat → ClassId) (dI : Nat → Nat → Nat) (cI cB cZ cJ : ClassId) (on : Int32) (oM : Nat) (fm : List Value) (hm_state : fm[59]? = some (.int 4)) (sz : Nat) : Met l y_Mo_hold w_Mo_hold ({ frames := 0, cells := 0, slots := 0, locals := 0 }) (va_Pc [.ref oM, .int on] (PW dC dI cI cB cZ cJ [(oM, .inr (12, fm))] sz)) (va_Qi (fun (r : Int32) (_ : Unit) => r = 0) (fun _ _ => True) (va_A [] sz)) 0 0 (va_A [] sz) := by
  refine Met.ofW (cc := b_Mo_hold) (maxL := 2) (ret := (some .boolean)) (by decide) rfl ?_
  intro p e s m args below meth c s₁ B hml hv
  obtain ⟨rfl, hsz, hP, hK, hD⟩ := hv
  have hx := B.exec
  have hb := B.bytes
  have hr := B.returns
  have hts := atoms_spec (ws := w_Mo_hold) B.pre
  have hown : s.vm.findClass R_Mo = some m.cls := findClass_of_methodNamed B.named
  have hlocks := B.notSynchronized
  subst hsz
  generalize hAe : va_A [] s.heap.size = A at ⊢
  have hA : ∀ q : Nat, s.heap.size ≤ q → A q := fun q h => by rw [← hAe]; exact Or.inr h
  have hS : va_S A s.heap s.heap [] := va_S.rf
  have hP : va_P (dC, dI) classes [(oM, .inr (12, fm))] s.heap := hP
  have hl := lv_entry ([.ref oM, .int on]) (n := 2) (Nat.le_of_ble_eq_true rfl)
  rw [lg_entry_eq]
  generalize (lg_sl ([.ref oM, .int on]) ++ List.replicate (2 - (lg_sl ([.ref oM, .int on])).length) Slot.unset).toArray = ls at hl ⊢
  have hl : lv_has ls 2 [(0, .ref oM), (1, .int on)] := hl
  refine lv_iload_n hx hb d_Mo_hold_0 rfl (lv_at hl 1 rfl) ?_
  refine lv_if_eq (tgt := 14) hx hb d_Mo_hold_1 (by decide) (fun h1 => ?_) (fun h1 => ?_)
  · refine lv_aload_n hx hb d_Mo_hold_14 rfl (lv_at hl 0 rfl) ?_
    refine va_get (D := (dC, dI)) (ci := 12) (v := .int 4) (C := R_Mo) (T := F_Mo) (N := 87) hx hb hts (fun w h => List.mem_cons_of_mem _ (in_Mo w h)) hown hK.1 hP 0 rfl rfl 59 (by decide) (hts _ (List.mem_cons_of_mem _ mw_1845)) (fun _ h9 => h9) hm_state d_Mo_hold_15 ?_
    refine lv_iconst (v := 2) hx hb d_Mo_hold_18 (by decide) ?_
    refine lv_icmp_eq (tgt := 24) hx hb d_Mo_hold_19 (by decide) (fun h => absurd h (by decide)) (fun _ => ?_)
    refine lv_iconst (v := 0) hx hb d_Mo_hold_22 (by decide) ?_
    exact W.zret (v := 0) (ty := .boolean) hx hb hr (by decide) (fun t ht hW => ⟨⟨_, (), rfl, (rfl), trivial⟩, hS.F ht⟩) hS.2.2 d_Mo_hold_23
  · refine lv_aload_n hx hb d_Mo_hold_4 rfl (lv_at hl 0 rfl) ?_
    refine va_get (D := (dC, dI)) (ci := 12) (v := .int 4) (C := R_Mo) (T := F_Mo) (N := 87) hx hb hts (fun w h => List.mem_cons_of_mem _ (in_Mo w h)) hown hK.1 hP 0 rfl rfl 59 (by decide) (hts _ (List.mem_cons_of_mem _ mw_1845)) (fun _ h9 => h9) hm_state d_Mo_hold_5 ?_
    refine lv_if_eq (tgt := 24) hx hb d_Mo_hold_8 (by decide) (fun h => absurd h (by decide)) (fun _ => ?_)
    refine lv_goto (tgt := 22) hx hb d_Mo_hold_11 (by decide) ?_
    refine lv_iconst (v := 0) hx hb d_Mo_hold_22 (by decide) ?_
    exact W.zret (v := 0) (ty := .boolean) hx hb hr (by decide) (fun t ht hW => ⟨⟨_, (), rfl, (rfl), trivial⟩, hS.F ht⟩) hS.2.2 d_Mo_hold_23
theorem d_Mo_stop_0 : decode b_Mo_stop 0 = .ok (.aload_n 0, 1) := by decide +kernel
theorem d_Mo_stop_1 : decode b_Mo_stop 1 = .ok (.getfield 162, 3) := by decide +kernel
theorem d_Mo_stop_4 : decode b_Mo_stop 4 = .ok (.ifCond .eq 13, 3) := by decide +kernel
theorem d_Mo_stop_7 : decode b_Mo_stop 7 = .ok (.aload_n 0, 1) := by decide +kernel
theorem d_Mo_stop_8 : decode b_Mo_stop 8 = .ok (.getfield 162, 3) := by decide +kernel
theorem d_Mo_stop_11 : decode b_Mo_stop 11 = .ok (.iconst 2, 1) := by decide +kernel
theorem d_Mo_stop_12 : decode b_Mo_stop 12 = .ok (.if_icmp .eq 5, 3) := by decide +kernel
theorem d_Mo_stop_15 : decode b_Mo_stop 15 = .ok (.iconst 0, 1) := by decide +kernel
theorem d_Mo_stop_16 : decode b_Mo_stop 16 = .ok (.ireturn, 1) := by decide +kernel
set_option maxHeartbeats 4000000 in
set_option maxRecDepth 100000 in
theorem c_Mo_stop (l : Launch) (dC : Nat → ClassId) (dI : Nat → Nat → Nat) (cI cB cZ cJ : ClassId) (oM : Nat) (fm : List Value) (hm_state : fm[59]? = some (.int 4)) (sz : Nat) : Met l y_Mo_stop w_Mo_stop ({ frames := 0, cells := 0, slots := 0, locals := 0 }) (va_Pc [.ref oM] (PW dC dI cI cB cZ cJ [(oM, .inr (12, fm))] sz)) (va_Qi (fun (r : Int32) (_ : Unit) => r = 0) (fun _ _ => True) (va_A [] sz)) 0 0 (va_A [] sz) := by
  refine Met.ofW (cc := b_Mo_stop) (maxL := 1) (ret := (some .boolean)) (by decide) rfl ?_
  intro p e s m args below meth c s₁ B hml hv
  obtain ⟨rfl, hsz, hP, hK, hD⟩ := hv
  have hx := B.exec
  have hb := B.bytes
  have hr := B.returns
  have hts := atoms_spec (ws := w_Mo_stop) B.pre
  have hown : s.vm.findClass R_Mo = some m.cls := findClass_of_methodNamed B.named
  have hlocks := B.notSynchronized
  subst hsz
  generalize hAe : va_A [] s.heap.size = A at ⊢
  have hA : ∀ q : Nat, s.heap.size ≤ q → A q := fun q h => by rw [← hAe]; exact Or.inr h
  have hS : va_S A s.heap s.heap [] := va_S.rf
  have hP : va_P (dC, dI) classes [(oM, .inr (12, fm))] s.heap := hP
  have hl := lv_entry ([.ref oM]) (n := 1) (Nat.le_of_ble_eq_true rfl)
  rw [lg_entry_eq]
  generalize (lg_sl ([.ref oM]) ++ List.replicate (1 - (lg_sl ([.ref oM])).length) Slot.unset).toArray = ls at hl ⊢
  have hl : lv_has ls 1 [(0, .ref oM)] := hl
  refine lv_aload_n hx hb d_Mo_stop_0 rfl (lv_at hl 0 rfl) ?_
  refine va_get (D := (dC, dI)) (ci := 12) (v := .int 4) (C := R_Mo) (T := F_Mo) (N := 87) hx hb hts (fun w h => List.mem_cons_of_mem _ (in_Mo w h)) hown hK.1 hP 0 rfl rfl 59 (by decide) (hts _ (List.mem_cons_of_mem _ mw_1845)) (fun _ h9 => h9) hm_state d_Mo_stop_1 ?_
  refine lv_if_eq (tgt := 17) hx hb d_Mo_stop_4 (by decide) (fun h => absurd h (by decide)) (fun _ => ?_)
  refine lv_aload_n hx hb d_Mo_stop_7 rfl (lv_at hl 0 rfl) ?_
  refine va_get (D := (dC, dI)) (ci := 12) (v := .int 4) (C := R_Mo) (T := F_Mo) (N := 87) hx hb hts (fun w h => List.mem_cons_of_mem _ (in_Mo w h)) hown hK.1 hP 0 rfl rfl 59 (by decide) (hts _ (List.mem_cons_of_mem _ mw_1845)) (fun _ h9 => h9) hm_state d_Mo_stop_8 ?_
  refine lv_iconst (v := 2) hx hb d_Mo_stop_11 (by decide) ?_
  refine lv_icmp_eq (tgt := 17) hx hb d_Mo_stop_12 (by decide) (fun h => absurd h (by decide)) (fun _ => ?_)
  refine lv_iconst (v := 0) hx hb d_Mo_stop_15 (by decide) ?_
  exact W.zret (v := 0) (ty := .boolean) hx hb hr (by decide) (fun t ht hW => ⟨⟨_, (), rfl, (rfl), trivial⟩, hS.F ht⟩) hS.2.2 d_Mo_stop_16
theorem d_Mo_start_0 : decode b_Mo_start 0 = .ok (.iconst 0, 1) := by decide +kernel
theorem d_Mo_start_1 : decode b_Mo_start 1 = .ok (.istore_n 1, 1) := by decide +kernel
theorem d_Mo_start_2 : decode b_Mo_start 2 = .ok (.iconst 0, 1) := by decide +kernel
theorem d_Mo_start_3 : decode b_Mo_start 3 = .ok (.istore_n 2, 1) := by decide +kernel
theorem d_Mo_start_4 : decode b_Mo_start 4 = .ok (.iload_n 2, 1) := by decide +kernel
theorem d_Mo_start_5 : decode b_Mo_start 5 = .ok (.aload_n 0, 1) := by decide +kernel
theorem d_Mo_start_6 : decode b_Mo_start 6 = .ok (.getfield 16, 3) := by decide +kernel
theorem d_Mo_start_9 : decode b_Mo_start 9 = .ok (.getfield 514, 3) := by decide +kernel
theorem d_Mo_start_12 : decode b_Mo_start 12 = .ok (.if_icmp .ge 60, 3) := by decide +kernel
theorem d_Mo_start_72 : decode b_Mo_start 72 = .ok (.iload_n 1, 1) := by decide +kernel
theorem d_Mo_start_73 : decode b_Mo_start 73 = .ok (.ifCond .ne 5, 3) := by decide +kernel
theorem d_Mo_start_76 : decode b_Mo_start 76 = .ok (.iconst 0, 1) := by decide +kernel
theorem d_Mo_start_77 : decode b_Mo_start 77 = .ok (.ireturn, 1) := by decide +kernel
set_option maxHeartbeats 4000000 in
set_option maxRecDepth 100000 in
theorem c_Mo_start (l : Launch) (dC : Nat → ClassId) (dI : Nat → Nat → Nat) (cI cB cZ cJ : ClassId) (oM : Nat) (oT : Nat) (fm : List Value) (hm_program : fm[2]? = some (.ref oT)) (ft : List Value) (ht_topCount : ft[31]? = some (.int 0)) (sz : Nat) : Met l y_Mo_start w_Mo_start ({ frames := 0, cells := 0, slots := 0, locals := 0 }) (va_Pc [.ref oM] (PW dC dI cI cB cZ cJ [(oM, .inr (12, fm)), (oT, .inr (13, ft))] sz)) (va_Qi (fun (r : Int32) (_ : Unit) => r = 0) (fun _ _ => True) (va_A [] sz)) 0 0 (va_A [] sz) := by
  refine Met.ofW (cc := b_Mo_start) (maxL := 5) (ret := (some .boolean)) (by decide) rfl ?_
  intro p e s m args below meth c s₁ B hml hv
  obtain ⟨rfl, hsz, hP, hK, hD⟩ := hv
  have hx := B.exec
  have hb := B.bytes
  have hr := B.returns
  have hts := atoms_spec (ws := w_Mo_start) B.pre
  have hown : s.vm.findClass R_Mo = some m.cls := findClass_of_methodNamed B.named
  have hlocks := B.notSynchronized
  subst hsz
  generalize hAe : va_A [] s.heap.size = A at ⊢
  have hA : ∀ q : Nat, s.heap.size ≤ q → A q := fun q h => by rw [← hAe]; exact Or.inr h
  have hS : va_S A s.heap s.heap [] := va_S.rf
  have hP : va_P (dC, dI) classes [(oM, .inr (12, fm)), (oT, .inr (13, ft))] s.heap := hP
  have hl := lv_entry ([.ref oM]) (n := 5) (Nat.le_of_ble_eq_true rfl)
  rw [lg_entry_eq]
  generalize (lg_sl ([.ref oM]) ++ List.replicate (5 - (lg_sl ([.ref oM])).length) Slot.unset).toArray = ls at hl ⊢
  have hl : lv_has ls 5 [(0, .ref oM)] := hl
  refine lv_iconst (v := 0) hx hb d_Mo_start_0 (by decide) ?_
  refine lv_istore_n hx hb d_Mo_start_1 rfl hl (by decide) rfl (fun ls hl => ?_)
  have hl : lv_has ls 5 [(1, .int 0), (0, .ref oM)] := hl
  refine lv_iconst (v := 0) hx hb d_Mo_start_2 (by decide) ?_
  refine lv_istore_n hx hb d_Mo_start_3 rfl hl (by decide) rfl (fun ls hl => ?_)
  have hl : lv_has ls 5 [(2, .int 0), (1, .int 0), (0, .ref oM)] := hl
  refine lv_iload_n hx hb d_Mo_start_4 rfl (lv_at hl 0 rfl) ?_
  refine lv_aload_n hx hb d_Mo_start_5 rfl (lv_at hl 2 rfl) ?_
  refine va_get (D := (dC, dI)) (ci := 12) (v := .ref oT) (C := R_Mo) (T := F_Mo) (N := 87) hx hb hts (fun w h => List.mem_cons_of_mem _ (in_Mo w h)) hown hK.1 hP 0 rfl rfl 2 (by decide) (hts _ (List.mem_cons_of_mem _ mw_1788)) (fun _ h9 => h9) hm_program d_Mo_start_6 ?_
  refine va_getN (D := (dC, dI)) (ci := 13) (v := .int 0) (C := R_Tx) (T := F_Tx) (N := 39) hx hb hts (fun w h => List.mem_cons_of_mem _ (in_Tx w h)) hown hK.1 hP 1 rfl rfl 31 (by decide) (va_Nw.use rfl (hK.2 _ nw_1610)) (fun _ h9 => h9) ht_topCount d_Mo_start_9 ?_
  refine lv_icmp_ge (tgt := 72) hx hb d_Mo_start_12 (by decide) (fun _ => ?_) (fun h => absurd (by decide) h)
  refine lv_iload_n hx hb d_Mo_start_72 rfl (lv_at hl 1 rfl) ?_
  refine lv_if_ne (tgt := 78) hx hb d_Mo_start_73 (by decide) (fun h => absurd rfl h) (fun _ => ?_)
  refine lv_iconst (v := 0) hx hb d_Mo_start_76 (by decide) ?_
  exact W.zret (v := 0) (ty := .boolean) hx hb hr (by decide) (fun t ht hW => ⟨⟨_, (), rfl, (rfl), trivial⟩, hS.F ht⟩) hS.2.2 d_Mo_start_77
theorem d_Mr_isRow_0 : decode b_Mr_isRow 0 = .ok (.iload_n 1, 1) := by decide +kernel
theorem d_Mr_isRow_1 : decode b_Mr_isRow 1 = .ok (.iconst 1, 1) := by decide +kernel
theorem d_Mr_isRow_2 : decode b_Mr_isRow 2 = .ok (.if_icmp .lt 15, 3) := by decide +kernel
theorem d_Mr_isRow_5 : decode b_Mr_isRow 5 = .ok (.iload_n 1, 1) := by decide +kernel
theorem d_Mr_isRow_6 : decode b_Mr_isRow 6 = .ok (.aload_n 0, 1) := by decide +kernel
theorem d_Mr_isRow_7 : decode b_Mr_isRow 7 = .ok (.getfield 133, 3) := by decide +kernel
theorem d_Mr_isRow_10 : decode b_Mr_isRow 10 = .ok (.if_icmp .gt 7, 3) := by decide +kernel
theorem d_Mr_isRow_17 : decode b_Mr_isRow 17 = .ok (.iconst 0, 1) := by decide +kernel
theorem d_Mr_isRow_18 : decode b_Mr_isRow 18 = .ok (.ireturn, 1) := by decide +kernel
set_option maxHeartbeats 4000000 in
set_option maxRecDepth 100000 in
theorem c_Mr_isRow (l : Launch) (dC : Nat → ClassId) (dI : Nat → Nat → Nat) (cI cB cZ cJ : ClassId) (rr : Int32) (oR : Nat) (fr : List Value) (hr_rows : fr[20]? = some (.int 0)) (sz : Nat) : Met l y_Mr_isRow w_Mr_isRow ({ frames := 0, cells := 0, slots := 0, locals := 0 }) (va_Pc [.ref oR, .int rr] (PW dC dI cI cB cZ cJ [(oR, .inr (14, fr))] sz)) (va_Qi (fun (r : Int32) (_ : Unit) => r = 0) (fun _ _ => True) (va_A [] sz)) 0 0 (va_A [] sz) := by
  refine Met.ofW (cc := b_Mr_isRow) (maxL := 2) (ret := (some .boolean)) (by decide) rfl ?_
  intro p e s m args below meth c s₁ B hml hv
  obtain ⟨rfl, hsz, hP, hK, hD⟩ := hv
  have hx := B.exec
  have hb := B.bytes
  have hr := B.returns
  have hts := atoms_spec (ws := w_Mr_isRow) B.pre
  have hown : s.vm.findClass R_Mr = some m.cls := findClass_of_methodNamed B.named
  have hlocks := B.notSynchronized
  subst hsz
  generalize hAe : va_A [] s.heap.size = A at ⊢
  have hA : ∀ q : Nat, s.heap.size ≤ q → A q := fun q h => by rw [← hAe]; exact Or.inr h
  have hS : va_S A s.heap s.heap [] := va_S.rf
  have hP : va_P (dC, dI) classes [(oR, .inr (14, fr))] s.heap := hP
  have hl := lv_entry ([.ref oR, .int rr]) (n := 2) (Nat.le_of_ble_eq_true rfl)
  rw [lg_entry_eq]
  generalize (lg_sl ([.ref oR, .int rr]) ++ List.replicate (2 - (lg_sl ([.ref oR, .int rr])).length) Slot.unset).toArray = ls at hl ⊢
  have hl : lv_has ls 2 [(0, .ref oR), (1, .int rr)] := hl
  refine lv_iload_n hx hb d_Mr_isRow_0 rfl (lv_at hl 1 rfl) ?_
  refine lv_iconst (v := 1) hx hb d_Mr_isRow_1 (by decide) ?_
  refine lv_icmp_lt (tgt := 17) hx hb d_Mr_isRow_2 (by decide) (fun h2 => ?_) (fun h2 => ?_)
  · refine lv_iconst (v := 0) hx hb d_Mr_isRow_17 (by decide) ?_
    exact W.zret (v := 0) (ty := .boolean) hx hb hr (by decide) (fun t ht hW => ⟨⟨_, (), rfl, (rfl), trivial⟩, hS.F ht⟩) hS.2.2 d_Mr_isRow_18
  · refine lv_iload_n hx hb d_Mr_isRow_5 rfl (lv_at hl 1 rfl) ?_
    refine lv_aload_n hx hb d_Mr_isRow_6 rfl (lv_at hl 0 rfl) ?_
    refine va_get (D := (dC, dI)) (ci := 14) (v := .int 0) (C := R_Mr) (T := F_Mr) (N := 25) hx hb hts (fun w h => List.mem_cons_of_mem _ (in_Mr w h)) hown hK.1 hP 0 rfl rfl 20 (by decide) (hts _ (List.mem_cons_of_mem _ mw_1724)) (fun _ h9 => h9) hr_rows d_Mr_isRow_7 ?_
    refine lv_icmp_gt (tgt := 17) hx hb d_Mr_isRow_10 (by decide) (fun _ => ?_) (fun h => absurd (nd_lt h2 (by decide)) h)
    refine lv_iconst (v := 0) hx hb d_Mr_isRow_17 (by decide) ?_
    exact W.zret (v := 0) (ty := .boolean) hx hb hr (by decide) (fun t ht hW => ⟨⟨_, (), rfl, (rfl), trivial⟩, hS.F ht⟩) hS.2.2 d_Mr_isRow_18
theorem d_Mr_pass_0 : decode b_Mr_pass 0 = .ok (.aload_n 0, 1) := by decide +kernel
theorem d_Mr_pass_1 : decode b_Mr_pass 1 = .ok (.iload_n 1, 1) := by decide +kernel
theorem d_Mr_pass_2 : decode b_Mr_pass 2 = .ok (.invokevirtual 151, 3) := by decide +kernel
theorem d_Mr_pass_5 : decode b_Mr_pass 5 = .ok (.ifCond .ne 5, 3) := by decide +kernel
theorem d_Mr_pass_8 : decode b_Mr_pass 8 = .ok (.iconst (-1), 1) := by decide +kernel
theorem d_Mr_pass_9 : decode b_Mr_pass 9 = .ok (.ireturn, 1) := by decide +kernel
set_option maxHeartbeats 4000000 in
set_option maxRecDepth 100000 in
theorem c_Mr_pass (l : Launch) (dC : Nat → ClassId) (dI : Nat → Nat → Nat) (cI cB cZ cJ : ClassId) (rr : Int32) (pa : Int32) (pb : Int32) (se : Int32) (oR : Nat) (fr : List Value) (hr_rows : fr[20]? = some (.int 0)) (sz : Nat) : Met l y_Mr_pass w_Mr_pass ({ frames := 1, cells := 0, slots := 0, locals := 21 }) (va_Pc [.ref oR, .int rr, .int pa, .int pb, .int se] (PW dC dI cI cB cZ cJ [(oR, .inr (14, fr))] sz)) (va_Qi (fun (r : Int32) (_ : Unit) => r = (-1)) (fun _ _ => True) (va_A [] sz)) 0 0 (va_A [] sz) := by
  refine Met.ofW (cc := b_Mr_pass) (maxL := 5) (ret := (some .int)) (by decide) rfl ?_
  intro p e s m args below meth c s₁ B hml hv
  obtain ⟨rfl, hsz, hP, hK, hD⟩ := hv
  have hx := B.exec
  have hb := B.bytes
  have hr := B.returns
  have hts := atoms_spec (ws := w_Mr_pass) B.pre
  have hown : s.vm.findClass R_Mr = some m.cls := findClass_of_methodNamed B.named
  have hlocks := B.notSynchronized
  subst hsz
  generalize hAe : va_A [] s.heap.size = A at ⊢
  have hA : ∀ q : Nat, s.heap.size ≤ q → A q := fun q h => by rw [← hAe]; exact Or.inr h
  have hS : va_S A s.heap s.heap [] := va_S.rf
  have hP : va_P (dC, dI) classes [(oR, .inr (14, fr))] s.heap := hP
  have hl := lv_entry ([.ref oR, .int rr, .int pa, .int pb, .int se]) (n := 5) (Nat.le_of_ble_eq_true rfl)
  rw [lg_entry_eq]
  generalize (lg_sl ([.ref oR, .int rr, .int pa, .int pb, .int se]) ++ List.replicate (5 - (lg_sl ([.ref oR, .int rr, .int pa, .int pb, .int se])).length) Slot.unset).toArray = ls at hl ⊢
  have hl : lv_has ls 5 [(0, .ref oR), (1, .int rr), (2, .int pa), (3, .int pb), (4, .int se)] := hl
  refine lv_aload_n hx hb d_Mr_pass_0 rfl (lv_at hl 0 rfl) ?_
  refine lv_iload_n hx hb d_Mr_pass_1 rfl (lv_at hl 1 rfl) ?_
  have hPc := hP.sub (ws' := [(oR, .inr (14, fr))]) [0] rfl
  have hDc := hD.sub (ws' := [(oR, .inr (14, fr))]) [0] (by decide) rfl
  have hFc := pu_free hS hA
  refine va_calli (va_runV (C := R_Mr) (As := [.int rr]) (rest := []) ⟨hx, hb, hml, hown, hts⟩ (c_Mr_isRow l dC dI cI cB cZ cJ rr oR fr hr_rows s.heap.size) (cwV 1 hts (tb_V mw_2545 mw_2547 sl_172 mw_20 mw_2548) rfl rfl rfl ⟨rfl, by decide +kernel, by decide +kernel, by decide +kernel⟩ ⟨(Nat.le_of_ble_eq_true rfl), (Nat.le_of_ble_eq_true rfl)⟩) ⟨pw_blind, va_recv (q := (R_Mr, F_Mr, 25)) hK.1 hP (ci := 14) (q0 := 0) rfl rfl, pw_pre hPc hK hDc⟩ rfl rfl hl.1 rfl (lv_room (Nat.le_of_ble_eq_true rfl)) d_Mr_pass_2 ⟨(Nat.le_of_ble_eq_true rfl), (Nat.le_of_ble_eq_true rfl)⟩) hS (fun q _ h => hFc q h) hFc (fun r u t H locs ht hvm hw hB hz1 hk1 hS => ?_)
  have hP := pu_kept hP hk1
  obtain rfl : r = 0 := hw
  refine lv_if_ne (tgt := 10) hx hb d_Mr_pass_5 (by decide) (fun h => absurd rfl h) (fun _ => ?_)
  refine lv_iconst (v := (-1)) hx hb d_Mr_pass_8 (by decide) ?_
  exact W.iret (v := (-1)) hx hb hr (fun t ht hW => ⟨⟨_, (), rfl, (rfl), trivial⟩, hS.F ht⟩) hS.2.2 d_Mr_pass_9
theorem d_Mr_reset_0 : decode b_Mr_reset 0 = .ok (.aload_n 0, 1) := by decide +kernel
theorem d_Mr_reset_1 : decode b_Mr_reset 1 = .ok (.iload_n 1, 1) := by decide +kernel
theorem d_Mr_reset_2 : decode b_Mr_reset 2 = .ok (.invokevirtual 151, 3) := by decide +kernel
theorem d_Mr_reset_5 : decode b_Mr_reset 5 = .ok (.ifCond .eq 24, 3) := by decide +kernel
theorem d_Mr_reset_29 : decode b_Mr_reset 29 = .ok (.iconst 0, 1) := by decide +kernel
theorem d_Mr_reset_30 : decode b_Mr_reset 30 = .ok (.ireturn, 1) := by decide +kernel
set_option maxHeartbeats 4000000 in
set_option maxRecDepth 100000 in
theorem c_Mr_reset (l : Launch) (dC : Nat → ClassId) (dI : Nat → Nat → Nat) (cI cB cZ cJ : ClassId) (rr : Int32) (oR : Nat) (fr : List Value) (hr_rows : fr[20]? = some (.int 0)) (sz : Nat) : Met l y_Mr_reset w_Mr_reset ({ frames := 1, cells := 0, slots := 0, locals := 21 }) (va_Pc [.ref oR, .int rr] (PW dC dI cI cB cZ cJ [(oR, .inr (14, fr))] sz)) (va_Qi (fun (r : Int32) (_ : Unit) => r = 0) (fun _ _ => True) (va_A [] sz)) 0 0 (va_A [] sz) := by
  refine Met.ofW (cc := b_Mr_reset) (maxL := 2) (ret := (some .boolean)) (by decide) rfl ?_
  intro p e s m args below meth c s₁ B hml hv
  obtain ⟨rfl, hsz, hP, hK, hD⟩ := hv
  have hx := B.exec
  have hb := B.bytes
  have hr := B.returns
  have hts := atoms_spec (ws := w_Mr_reset) B.pre
  have hown : s.vm.findClass R_Mr = some m.cls := findClass_of_methodNamed B.named
  have hlocks := B.notSynchronized
  subst hsz
  generalize hAe : va_A [] s.heap.size = A at ⊢
  have hA : ∀ q : Nat, s.heap.size ≤ q → A q := fun q h => by rw [← hAe]; exact Or.inr h
  have hS : va_S A s.heap s.heap [] := va_S.rf
  have hP : va_P (dC, dI) classes [(oR, .inr (14, fr))] s.heap := hP
  have hl := lv_entry ([.ref oR, .int rr]) (n := 2) (Nat.le_of_ble_eq_true rfl)
  rw [lg_entry_eq]
  generalize (lg_sl ([.ref oR, .int rr]) ++ List.replicate (2 - (lg_sl ([.ref oR, .int rr])).length) Slot.unset).toArray = ls at hl ⊢
  have hl : lv_has ls 2 [(0, .ref oR), (1, .int rr)] := hl
  refine lv_aload_n hx hb d_Mr_reset_0 rfl (lv_at hl 0 rfl) ?_
  refine lv_iload_n hx hb d_Mr_reset_1 rfl (lv_at hl 1 rfl) ?_
  have hPc := hP.sub (ws' := [(oR, .inr (14, fr))]) [0] rfl
  have hDc := hD.sub (ws' := [(oR, .inr (14, fr))]) [0] (by decide) rfl
  have hFc := pu_free hS hA
  refine va_calli (va_runV (C := R_Mr) (As := [.int rr]) (rest := []) ⟨hx, hb, hml, hown, hts⟩ (c_Mr_isRow l dC dI cI cB cZ cJ rr oR fr hr_rows s.heap.size) (cwV 1 hts (tb_V mw_2545 mw_2547 sl_172 mw_20 mw_2548) rfl rfl rfl ⟨rfl, by decide +kernel, by decide +kernel, by decide +kernel⟩ ⟨(Nat.le_of_ble_eq_true rfl), (Nat.le_of_ble_eq_true rfl)⟩) ⟨pw_blind, va_recv (q := (R_Mr, F_Mr, 25)) hK.1 hP (ci := 14) (q0 := 0) rfl rfl, pw_pre hPc hK hDc⟩ rfl rfl hl.1 rfl (lv_room (Nat.le_of_ble_eq_true rfl)) d_Mr_reset_2 ⟨(Nat.le_of_ble_eq_true rfl), (Nat.le_of_ble_eq_true rfl)⟩) hS (fun q _ h => hFc q h) hFc (fun r u t H locs ht hvm hw hB hz1 hk1 hS => ?_)
  have hP := pu_kept hP hk1
  obtain rfl : r = 0 := hw
  refine lv_if_eq (tgt := 29) hx hb d_Mr_reset_5 (by decide) (fun _ => ?_) (fun h => absurd (by decide) h)
  refine lv_iconst (v := 0) hx hb d_Mr_reset_29 (by decide) ?_
  exact W.zret (v := 0) (ty := .boolean) hx hb hr (by decide) (fun t ht hW => ⟨⟨_, (), rfl, (rfl), trivial⟩, hS.F ht⟩) hS.2.2 d_Mr_reset_30
theorem d_Mr_act1_0 : decode b_Mr_act1 0 = .ok (.iload_n 1, 1) := by decide +kernel
theorem d_Mr_act1_1 : decode b_Mr_act1 1 = .ok (.ifCond .lt 9, 3) := by decide +kernel
theorem d_Mr_act1_4 : decode b_Mr_act1 4 = .ok (.iload_n 1, 1) := by decide +kernel
theorem d_Mr_act1_5 : decode b_Mr_act1 5 = .ok (.bipush 31, 2) := by decide +kernel
theorem d_Mr_act1_7 : decode b_Mr_act1 7 = .ok (.if_icmp .le 5, 3) := by decide +kernel
theorem d_Mr_act1_10 : decode b_Mr_act1 10 = .ok (.iconst (-1), 1) := by decide +kernel
theorem d_Mr_act1_11 : decode b_Mr_act1 11 = .ok (.ireturn, 1) := by decide +kernel
theorem d_Mr_act1_12 : decode b_Mr_act1 12 = .ok (.iconst 0, 1) := by decide +kernel
theorem d_Mr_act1_13 : decode b_Mr_act1 13 = .ok (.istore_n 2, 1) := by decide +kernel
theorem d_Mr_act1_14 : decode b_Mr_act1 14 = .ok (.iload_n 2, 1) := by decide +kernel
theorem d_Mr_act1_15 : decode b_Mr_act1 15 = .ok (.aload_n 0, 1) := by decide +kernel
theorem d_Mr_act1_16 : decode b_Mr_act1 16 = .ok (.getfield 133, 3) := by decide +kernel
theorem d_Mr_act1_19 : decode b_Mr_act1 19 = .ok (.if_icmp .ge 81, 3) := by decide +kernel
theorem d_Mr_act1_100 : decode b_Mr_act1 100 = .ok (.iconst 0, 1) := by decide +kernel
theorem d_Mr_act1_101 : decode b_Mr_act1 101 = .ok (.ireturn, 1) := by decide +kernel
def fn_Mr_act1 (ak : Int32) : Int32 := (if ak < 0 then (-1) else (if ak ≤ 31 then 0 else (-1)))
set_option maxHeartbeats 4000000 in
set_option maxRecDepth 100000 in
theorem c_Mr_act1 (l : Launch) (dC : Nat → ClassId) (dI : Nat → Nat → Nat) (cI cB cZ cJ : ClassId) (ak : Int32) (oR : Nat) (fr : List Value) (hr_rows : fr[20]? = some (.int 0)) (sz : Nat) : Met l y_Mr_act1 w_Mr_act1 ({ frames := 0, cells := 0, slots := 0, locals := 0 }) (va_Pc [.ref oR, .int ak] (PW dC dI cI cB cZ cJ [(oR, .inr (14, fr))] sz)) (va_Qi (fun (r : Int32) (_ : Unit) => r = fn_Mr_act1 ak) (fun _ _ => True) (va_A [] sz)) 0 0 (va_A [] sz) := by
  refine Met.ofW (cc := b_Mr_act1) (maxL := 4) (ret := (some .int)) (by decide) rfl ?_
  intro p e s m args below meth c s₁ B hml hv
  obtain ⟨rfl, hsz, hP, hK, hD⟩ := hv
  have hx := B.exec
  have hb := B.bytes
  have hr := B.returns
  have hts := atoms_spec (ws := w_Mr_act1) B.pre
  have hown : s.vm.findClass R_Mr = some m.cls := findClass_of_methodNamed B.named
  have hlocks := B.notSynchronized
  subst hsz
  generalize hAe : va_A [] s.heap.size = A at ⊢
  have hA : ∀ q : Nat, s.heap.size ≤ q → A q := fun q h => by rw [← hAe]; exact Or.inr h
  have hS : va_S A s.heap s.heap [] := va_S.rf
  have hP : va_P (dC, dI) classes [(oR, .inr (14, fr))] s.heap := hP
  have hl := lv_entry ([.ref oR, .int ak]) (n := 4) (Nat.le_of_ble_eq_true rfl)
  rw [lg_entry_eq]
  generalize (lg_sl ([.ref oR, .int ak]) ++ List.replicate (4 - (lg_sl ([.ref oR, .int ak])).length) Slot.unset).toArray = ls at hl ⊢
  have hl : lv_has ls 4 [(0, .ref oR), (1, .int ak)] := hl
  refine lv_iload_n hx hb d_Mr_act1_0 rfl (lv_at hl 1 rfl) ?_
  refine lv_if_lt (tgt := 10) hx hb d_Mr_act1_1 (by decide) (fun h1 => ?_) (fun h1 => ?_)
  · refine lv_iconst (v := (-1)) hx hb d_Mr_act1_10 (by decide) ?_
    exact W.iret (v := (-1)) hx hb hr (fun t ht hW => ⟨⟨_, (), rfl, (by unfold fn_Mr_act1; rw [if_pos h1]), trivial⟩, hS.F ht⟩) hS.2.2 d_Mr_act1_11
  · refine lv_iload_n hx hb d_Mr_act1_4 rfl (lv_at hl 1 rfl) ?_
    refine lv_bipush (v := 31) hx hb d_Mr_act1_5 (by decide) ?_
    refine lv_icmp_le (tgt := 12) hx hb d_Mr_act1_7 (by decide) (fun h7 => ?_) (fun h7 => ?_)
    · refine lv_iconst (v := 0) hx hb d_Mr_act1_12 (by decide) ?_
      refine lv_istore_n hx hb d_Mr_act1_13 rfl hl (by decide) rfl (fun ls hl => ?_)
      have hl : lv_has ls 4 [(2, .int 0), (0, .ref oR), (1, .int ak)] := hl
      refine lv_iload_n hx hb d_Mr_act1_14 rfl (lv_at hl 0 rfl) ?_
      refine lv_aload_n hx hb d_Mr_act1_15 rfl (lv_at hl 1 rfl) ?_
      refine va_get (D := (dC, dI)) (ci := 14) (v := .int 0) (C := R_Mr) (T := F_Mr) (N := 25) hx hb hts (fun w h => List.mem_cons_of_mem _ (in_Mr w h)) hown hK.1 hP 0 rfl rfl 20 (by decide) (hts _ (List.mem_cons_of_mem _ mw_1724)) (fun _ h9 => h9) hr_rows d_Mr_act1_16 ?_
      refine lv_icmp_ge (tgt := 100) hx hb d_Mr_act1_19 (by decide) (fun _ => ?_) (fun h => absurd (by decide) h)
      refine lv_iconst (v := 0) hx hb d_Mr_act1_100 (by decide) ?_
      exact W.iret (v := 0) hx hb hr (fun t ht hW => ⟨⟨_, (), rfl, (by unfold fn_Mr_act1; rw [if_neg h1, if_pos h7]), trivial⟩, hS.F ht⟩) hS.2.2 d_Mr_act1_101
    · refine lv_iconst (v := (-1)) hx hb d_Mr_act1_10 (by decide) ?_
      exact W.iret (v := (-1)) hx hb hr (fun t ht hW => ⟨⟨_, (), rfl, (by unfold fn_Mr_act1; rw [if_neg h1, if_neg h7]), trivial⟩, hS.F ht⟩) hS.2.2 d_Mr_act1_11
theorem d_Mo_pass_0 : decode b_Mo_pass 0 = .ok (.aload_n 0, 1) := by decide +kernel
theorem d_Mo_pass_1 : decode b_Mo_pass 1 = .ok (.getfield 23, 3) := by decide +kernel
theorem d_Mo_pass_4 : decode b_Mo_pass 4 = .ok (.iload_n 1, 1) := by decide +kernel
theorem d_Mo_pass_5 : decode b_Mo_pass 5 = .ok (.iload_n 2, 1) := by decide +kernel
theorem d_Mo_pass_6 : decode b_Mo_pass 6 = .ok (.iload_n 3, 1) := by decide +kernel
theorem d_Mo_pass_7 : decode b_Mo_pass 7 = .ok (.iload 4, 2) := by decide +kernel
theorem d_Mo_pass_9 : decode b_Mo_pass 9 = .ok (.invokevirtual 463, 3) := by decide +kernel
theorem d_Mo_pass_12 : decode b_Mo_pass 12 = .ok (.ireturn, 1) := by decide +kernel
set_option maxHeartbeats 4000000 in
set_option maxRecDepth 100000 in
theorem c_Mo_pass (l : Launch) (dC : Nat → ClassId) (dI : Nat → Nat → Nat) (cI cB cZ cJ : ClassId) (rr : Int32) (pa : Int32) (pb : Int32) (se : Int32) (oM : Nat) (oR : Nat) (fm : List Value) (hm_interlocks : fm[3]? = some (.ref oR)) (fr : List Value) (hr_rows : fr[20]? = some (.int 0)) (sz : Nat) : Met l y_Mo_pass w_Mo_pass ({ frames := 2, cells := 0, slots := 0, locals := 45 }) (va_Pc [.ref oM, .int rr, .int pa, .int pb, .int se] (PW dC dI cI cB cZ cJ [(oM, .inr (12, fm)), (oR, .inr (14, fr))] sz)) (va_Qi (fun (r : Int32) (_ : Unit) => r = (-1)) (fun _ _ => True) (va_A [] sz)) 0 0 (va_A [] sz) := by
  refine Met.ofW (cc := b_Mo_pass) (maxL := 5) (ret := (some .int)) (by decide) rfl ?_
  intro p e s m args below meth c s₁ B hml hv
  obtain ⟨rfl, hsz, hP, hK, hD⟩ := hv
  have hx := B.exec
  have hb := B.bytes
  have hr := B.returns
  have hts := atoms_spec (ws := w_Mo_pass) B.pre
  have hown : s.vm.findClass R_Mo = some m.cls := findClass_of_methodNamed B.named
  have hlocks := B.notSynchronized
  subst hsz
  generalize hAe : va_A [] s.heap.size = A at ⊢
  have hA : ∀ q : Nat, s.heap.size ≤ q → A q := fun q h => by rw [← hAe]; exact Or.inr h
  have hS : va_S A s.heap s.heap [] := va_S.rf
  have hP : va_P (dC, dI) classes [(oM, .inr (12, fm)), (oR, .inr (14, fr))] s.heap := hP
  have hl := lv_entry ([.ref oM, .int rr, .int pa, .int pb, .int se]) (n := 5) (Nat.le_of_ble_eq_true rfl)
  rw [lg_entry_eq]
  generalize (lg_sl ([.ref oM, .int rr, .int pa, .int pb, .int se]) ++ List.replicate (5 - (lg_sl ([.ref oM, .int rr, .int pa, .int pb, .int se])).length) Slot.unset).toArray = ls at hl ⊢
  have hl : lv_has ls 5 [(0, .ref oM), (1, .int rr), (2, .int pa), (3, .int pb), (4, .int se)] := hl
  refine lv_aload_n hx hb d_Mo_pass_0 rfl (lv_at hl 0 rfl) ?_
  refine va_get (D := (dC, dI)) (ci := 12) (v := .ref oR) (C := R_Mo) (T := F_Mo) (N := 87) hx hb hts (fun w h => List.mem_cons_of_mem _ (in_Mo w h)) hown hK.1 hP 0 rfl rfl 3 (by decide) (hts _ (List.mem_cons_of_mem _ mw_1789)) (fun _ h9 => h9) hm_interlocks d_Mo_pass_1 ?_
  refine lv_iload_n hx hb d_Mo_pass_4 rfl (lv_at hl 1 rfl) ?_
  refine lv_iload_n hx hb d_Mo_pass_5 rfl (lv_at hl 2 rfl) ?_
  refine lv_iload_n hx hb d_Mo_pass_6 rfl (lv_at hl 3 rfl) ?_
  refine lv_iload hx hb d_Mo_pass_7 (lv_at hl 4 rfl) ?_
  have hPc := hP.sub (ws' := [(oR, .inr (14, fr))]) [1] rfl
  have hDc := hD.sub (ws' := [(oR, .inr (14, fr))]) [1] (by decide) rfl
  have hFc := pu_free hS hA
  refine va_calli (va_runV (C := R_Mr) (As := [.int rr, .int pa, .int pb, .int se]) (rest := []) ⟨hx, hb, hml, hown, hts⟩ (c_Mr_pass l dC dI cI cB cZ cJ rr pa pb se oR fr hr_rows s.heap.size) (cwV 4 hts (tb_V mw_2541 mw_2542 mw_2543 mw_20 mw_2544) rfl rfl rfl ⟨rfl, by decide +kernel, by decide +kernel, by decide +kernel⟩ ⟨(Nat.le_of_ble_eq_true rfl), (Nat.le_of_ble_eq_true rfl)⟩) ⟨pw_blind, va_recv (q := (R_Mr, F_Mr, 25)) hK.1 hP (ci := 14) (q0 := 1) rfl rfl, pw_pre hPc hK hDc⟩ rfl rfl hl.1 rfl (lv_room (Nat.le_of_ble_eq_true rfl)) d_Mo_pass_9 ⟨(Nat.le_of_ble_eq_true rfl), (Nat.le_of_ble_eq_true rfl)⟩) hS (fun q _ h => hFc q h) hFc (fun r u t H locs ht hvm hw hB hz1 hk1 hS => ?_)
  have hP := pu_kept hP hk1
  obtain rfl : r = (-1) := hw
  exact W.iret (v := (-1)) hx hb hr (fun t ht hW => ⟨⟨_, (), rfl, (rfl), trivial⟩, hS.F ht⟩) hS.2.2 d_Mo_pass_12
theorem d_Mo_reset_0 : decode b_Mo_reset 0 = .ok (.aload_n 0, 1) := by decide +kernel
theorem d_Mo_reset_1 : decode b_Mo_reset 1 = .ok (.getfield 23, 3) := by decide +kernel
theorem d_Mo_reset_4 : decode b_Mo_reset 4 = .ok (.iload_n 1, 1) := by decide +kernel
theorem d_Mo_reset_5 : decode b_Mo_reset 5 = .ok (.invokevirtual 467, 3) := by decide +kernel
theorem d_Mo_reset_8 : decode b_Mo_reset 8 = .ok (.ireturn, 1) := by decide +kernel
set_option maxHeartbeats 4000000 in
set_option maxRecDepth 100000 in
theorem c_Mo_reset (l : Launch) (dC : Nat → ClassId) (dI : Nat → Nat → Nat) (cI cB cZ cJ : ClassId) (rr : Int32) (oM : Nat) (oR : Nat) (fm : List Value) (hm_interlocks : fm[3]? = some (.ref oR)) (fr : List Value) (hr_rows : fr[20]? = some (.int 0)) (sz : Nat) : Met l y_Mo_reset w_Mo_reset ({ frames := 2, cells := 0, slots := 0, locals := 42 }) (va_Pc [.ref oM, .int rr] (PW dC dI cI cB cZ cJ [(oM, .inr (12, fm)), (oR, .inr (14, fr))] sz)) (va_Qi (fun (r : Int32) (_ : Unit) => r = 0) (fun _ _ => True) (va_A [] sz)) 0 0 (va_A [] sz) := by
  refine Met.ofW (cc := b_Mo_reset) (maxL := 2) (ret := (some .boolean)) (by decide) rfl ?_
  intro p e s m args below meth c s₁ B hml hv
  obtain ⟨rfl, hsz, hP, hK, hD⟩ := hv
  have hx := B.exec
  have hb := B.bytes
  have hr := B.returns
  have hts := atoms_spec (ws := w_Mo_reset) B.pre
  have hown : s.vm.findClass R_Mo = some m.cls := findClass_of_methodNamed B.named
  have hlocks := B.notSynchronized
  subst hsz
  generalize hAe : va_A [] s.heap.size = A at ⊢
  have hA : ∀ q : Nat, s.heap.size ≤ q → A q := fun q h => by rw [← hAe]; exact Or.inr h
  have hS : va_S A s.heap s.heap [] := va_S.rf
  have hP : va_P (dC, dI) classes [(oM, .inr (12, fm)), (oR, .inr (14, fr))] s.heap := hP
  have hl := lv_entry ([.ref oM, .int rr]) (n := 2) (Nat.le_of_ble_eq_true rfl)
  rw [lg_entry_eq]
  generalize (lg_sl ([.ref oM, .int rr]) ++ List.replicate (2 - (lg_sl ([.ref oM, .int rr])).length) Slot.unset).toArray = ls at hl ⊢
  have hl : lv_has ls 2 [(0, .ref oM), (1, .int rr)] := hl
  refine lv_aload_n hx hb d_Mo_reset_0 rfl (lv_at hl 0 rfl) ?_
  refine va_get (D := (dC, dI)) (ci := 12) (v := .ref oR) (C := R_Mo) (T := F_Mo) (N := 87) hx hb hts (fun w h => List.mem_cons_of_mem _ (in_Mo w h)) hown hK.1 hP 0 rfl rfl 3 (by decide) (hts _ (List.mem_cons_of_mem _ mw_1789)) (fun _ h9 => h9) hm_interlocks d_Mo_reset_1 ?_
  refine lv_iload_n hx hb d_Mo_reset_4 rfl (lv_at hl 1 rfl) ?_
  have hPc := hP.sub (ws' := [(oR, .inr (14, fr))]) [1] rfl
  have hDc := hD.sub (ws' := [(oR, .inr (14, fr))]) [1] (by decide) rfl
  have hFc := pu_free hS hA
  refine va_calli (va_runV (C := R_Mr) (As := [.int rr]) (rest := []) ⟨hx, hb, hml, hown, hts⟩ (c_Mr_reset l dC dI cI cB cZ cJ rr oR fr hr_rows s.heap.size) (cwV 1 hts (tb_V mw_2553 mw_2554 mw_2555 mw_20 mw_2556) rfl rfl rfl ⟨rfl, by decide +kernel, by decide +kernel, by decide +kernel⟩ ⟨(Nat.le_of_ble_eq_true rfl), (Nat.le_of_ble_eq_true rfl)⟩) ⟨pw_blind, va_recv (q := (R_Mr, F_Mr, 25)) hK.1 hP (ci := 14) (q0 := 1) rfl rfl, pw_pre hPc hK hDc⟩ rfl rfl hl.1 rfl (lv_room (Nat.le_of_ble_eq_true rfl)) d_Mo_reset_5 ⟨(Nat.le_of_ble_eq_true rfl), (Nat.le_of_ble_eq_true rfl)⟩) hS (fun q _ h => hFc q h) hFc (fun r u t H locs ht hvm hw hB hz1 hk1 hS => ?_)
  have hP := pu_kept hP hk1
  obtain rfl : r = 0 := hw
  exact W.zret (v := 0) (ty := .boolean) hx hb hr (by decide) (fun t ht hW => ⟨⟨_, (), rfl, (rfl), trivial⟩, hS.F ht⟩) hS.2.2 d_Mo_reset_8
theorem d_Mo_bars_0 : decode b_Mo_bars 0 = .ok (.aload_n 0, 1) := by decide +kernel
theorem d_Mo_bars_1 : decode b_Mo_bars 1 = .ok (.getfield 23, 3) := by decide +kernel
theorem d_Mo_bars_4 : decode b_Mo_bars 4 = .ok (.iload_n 1, 1) := by decide +kernel
theorem d_Mo_bars_5 : decode b_Mo_bars 5 = .ok (.invokevirtual 424, 3) := by decide +kernel
theorem d_Mo_bars_8 : decode b_Mo_bars 8 = .ok (.ireturn, 1) := by decide +kernel
set_option maxHeartbeats 4000000 in
set_option maxRecDepth 100000 in
theorem c_Mo_bars (l : Launch) (dC : Nat → ClassId) (dI : Nat → Nat → Nat) (cI cB cZ cJ : ClassId) (ak : Int32) (oM : Nat) (oR : Nat) (fm : List Value) (hm_interlocks : fm[3]? = some (.ref oR)) (fr : List Value) (hr_rows : fr[20]? = some (.int 0)) (sz : Nat) : Met l y_Mo_bars w_Mo_bars ({ frames := 1, cells := 0, slots := 0, locals := 23 }) (va_Pc [.ref oM, .int ak] (PW dC dI cI cB cZ cJ [(oM, .inr (12, fm)), (oR, .inr (14, fr))] sz)) (va_Qi (fun (r : Int32) (_ : Unit) => r = fn_Mr_act1 ak) (fun _ _ => True) (va_A [] sz)) 0 0 (va_A [] sz) := by
  refine Met.ofW (cc := b_Mo_bars) (maxL := 2) (ret := (some .int)) (by decide) rfl ?_
  intro p e s m args below meth c s₁ B hml hv
  obtain ⟨rfl, hsz, hP, hK, hD⟩ := hv
  have hx := B.exec
  have hb := B.bytes
  have hr := B.returns
  have hts := atoms_spec (ws := w_Mo_bars) B.pre
  have hown : s.vm.findClass R_Mo = some m.cls := findClass_of_methodNamed B.named
  have hlocks := B.notSynchronized
  subst hsz
  generalize hAe : va_A [] s.heap.size = A at ⊢
  have hA : ∀ q : Nat, s.heap.size ≤ q → A q := fun q h => by rw [← hAe]; exact Or.inr h
  have hS : va_S A s.heap s.heap [] := va_S.rf
  have hP : va_P (dC, dI) classes [(oM, .inr (12, fm)), (oR, .inr (14, fr))] s.heap := hP
  have hl := lv_entry ([.ref oM, .int ak]) (n := 2) (Nat.le_of_ble_eq_true rfl)
  rw [lg_entry_eq]
  generalize (lg_sl ([.ref oM, .int ak]) ++ List.replicate (2 - (lg_sl ([.ref oM, .int ak])).length) Slot.unset).toArray = ls at hl ⊢
  have hl : lv_has ls 2 [(0, .ref oM), (1, .int ak)] := hl
  refine lv_aload_n hx hb d_Mo_bars_0 rfl (lv_at hl 0 rfl) ?_
  refine va_get (D := (dC, dI)) (ci := 12) (v := .ref oR) (C := R_Mo) (T := F_Mo) (N := 87) hx hb hts (fun w h => List.mem_cons_of_mem _ (in_Mo w h)) hown hK.1 hP 0 rfl rfl 3 (by decide) (hts _ (List.mem_cons_of_mem _ mw_1789)) (fun _ h9 => h9) hm_interlocks d_Mo_bars_1 ?_
  refine lv_iload_n hx hb d_Mo_bars_4 rfl (lv_at hl 1 rfl) ?_
  have hPc := hP.sub (ws' := [(oR, .inr (14, fr))]) [1] rfl
  have hDc := hD.sub (ws' := [(oR, .inr (14, fr))]) [1] (by decide) rfl
  have hFc := pu_free hS hA
  refine va_calli (va_runV (C := R_Mr) (As := [.int ak]) (rest := []) ⟨hx, hb, hml, hown, hts⟩ (c_Mr_act1 l dC dI cI cB cZ cJ ak oR fr hr_rows s.heap.size) (cwV 1 hts (tb_V mw_2470 mw_2471 mw_2472 mw_20 mw_2473) rfl rfl rfl ⟨rfl, by decide +kernel, by decide +kernel, by decide +kernel⟩ ⟨(Nat.le_of_ble_eq_true rfl), (Nat.le_of_ble_eq_true rfl)⟩) ⟨pw_blind, va_recv (q := (R_Mr, F_Mr, 25)) hK.1 hP (ci := 14) (q0 := 1) rfl rfl, pw_pre hPc hK hDc⟩ rfl rfl hl.1 rfl (lv_room (Nat.le_of_ble_eq_true rfl)) d_Mo_bars_5 ⟨(Nat.le_of_ble_eq_true rfl), (Nat.le_of_ble_eq_true rfl)⟩) hS (fun q _ h => hFc q h) hFc (fun r u t H locs ht hvm hw hB hz1 hk1 hS => ?_)
  have hP := pu_kept hP hk1
  obtain rfl : r = (fn_Mr_act1 ak) := hw
  exact W.iret (v := (fn_Mr_act1 ak)) hx hb hr (fun t ht hW => ⟨⟨_, (), rfl, (by first | rfl | decide), trivial⟩, hS.F ht⟩) hS.2.2 d_Mo_bars_8
theorem d_Mo_row_0 : decode b_Mo_row 0 = .ok (.iload_n 1, 1) := by decide +kernel
theorem d_Mo_row_1 : decode b_Mo_row 1 = .ok (.iconst 1, 1) := by decide +kernel
theorem d_Mo_row_2 : decode b_Mo_row 2 = .ok (.if_icmp .lt 23, 3) := by decide +kernel
theorem d_Mo_row_5 : decode b_Mo_row 5 = .ok (.iload_n 1, 1) := by decide +kernel
theorem d_Mo_row_6 : decode b_Mo_row 6 = .ok (.aload_n 0, 1) := by decide +kernel
theorem d_Mo_row_7 : decode b_Mo_row 7 = .ok (.getfield 23, 3) := by decide +kernel
theorem d_Mo_row_10 : decode b_Mo_row 10 = .ok (.getfield 470, 3) := by decide +kernel
theorem d_Mo_row_13 : decode b_Mo_row 13 = .ok (.if_icmp .gt 12, 3) := by decide +kernel
theorem d_Mo_row_25 : decode b_Mo_row 25 = .ok (.iconst (-1), 1) := by decide +kernel
theorem d_Mo_row_26 : decode b_Mo_row 26 = .ok (.ireturn, 1) := by decide +kernel
set_option maxHeartbeats 4000000 in
set_option maxRecDepth 100000 in
theorem c_Mo_row (l : Launch) (dC : Nat → ClassId) (dI : Nat → Nat → Nat) (cI cB cZ cJ : ClassId) (kk : Int32) (wh : Int32) (oM : Nat) (oR : Nat) (fm : List Value) (hm_interlocks : fm[3]? = some (.ref oR)) (fr : List Value) (hr_rows : fr[20]? = some (.int 0)) (sz : Nat) : Met l y_Mo_row w_Mo_row ({ frames := 0, cells := 0, slots := 0, locals := 0 }) (va_Pc [.ref oM, .int kk, .int wh] (PW dC dI cI cB cZ cJ [(oM, .inr (12, fm)), (oR, .inr (14, fr))] sz)) (va_Qi (fun (r : Int32) (_ : Unit) => r = (-1)) (fun _ _ => True) (va_A [] sz)) 0 0 (va_A [] sz) := by
  refine Met.ofW (cc := b_Mo_row) (maxL := 3) (ret := (some .int)) (by decide) rfl ?_
  intro p e s m args below meth c s₁ B hml hv
  obtain ⟨rfl, hsz, hP, hK, hD⟩ := hv
  have hx := B.exec
  have hb := B.bytes
  have hr := B.returns
  have hts := atoms_spec (ws := w_Mo_row) B.pre
  have hown : s.vm.findClass R_Mo = some m.cls := findClass_of_methodNamed B.named
  have hlocks := B.notSynchronized
  subst hsz
  generalize hAe : va_A [] s.heap.size = A at ⊢
  have hA : ∀ q : Nat, s.heap.size ≤ q → A q := fun q h => by rw [← hAe]; exact Or.inr h
  have hS : va_S A s.heap s.heap [] := va_S.rf
  have hP : va_P (dC, dI) classes [(oM, .inr (12, fm)), (oR, .inr (14, fr))] s.heap := hP
  have hl := lv_entry ([.ref oM, .int kk, .int wh]) (n := 3) (Nat.le_of_ble_eq_true rfl)
  rw [lg_entry_eq]
  generalize (lg_sl ([.ref oM, .int kk, .int wh]) ++ List.replicate (3 - (lg_sl ([.ref oM, .int kk, .int wh])).length) Slot.unset).toArray = ls at hl ⊢
  have hl : lv_has ls 3 [(0, .ref oM), (1, .int kk), (2, .int wh)] := hl
  refine lv_iload_n hx hb d_Mo_row_0 rfl (lv_at hl 1 rfl) ?_
  refine lv_iconst (v := 1) hx hb d_Mo_row_1 (by decide) ?_
  refine lv_icmp_lt (tgt := 25) hx hb d_Mo_row_2 (by decide) (fun h2 => ?_) (fun h2 => ?_)
  · refine lv_iconst (v := (-1)) hx hb d_Mo_row_25 (by decide) ?_
    exact W.iret (v := (-1)) hx hb hr (fun t ht hW => ⟨⟨_, (), rfl, (rfl), trivial⟩, hS.F ht⟩) hS.2.2 d_Mo_row_26
  · refine lv_iload_n hx hb d_Mo_row_5 rfl (lv_at hl 1 rfl) ?_
    refine lv_aload_n hx hb d_Mo_row_6 rfl (lv_at hl 0 rfl) ?_
    refine va_get (D := (dC, dI)) (ci := 12) (v := .ref oR) (C := R_Mo) (T := F_Mo) (N := 87) hx hb hts (fun w h => List.mem_cons_of_mem _ (in_Mo w h)) hown hK.1 hP 0 rfl rfl 3 (by decide) (hts _ (List.mem_cons_of_mem _ mw_1789)) (fun _ h9 => h9) hm_interlocks d_Mo_row_7 ?_
    refine va_getN (D := (dC, dI)) (ci := 14) (v := .int 0) (C := R_Mr) (T := F_Mr) (N := 25) hx hb hts (fun w h => List.mem_cons_of_mem _ (in_Mr w h)) hown hK.1 hP 1 rfl rfl 20 (by decide) (va_Nw.use rfl (hK.2 _ nw_1725)) (fun _ h9 => h9) hr_rows d_Mo_row_10 ?_
    refine lv_icmp_gt (tgt := 25) hx hb d_Mo_row_13 (by decide) (fun _ => ?_) (fun h => absurd (nd_lt h2 (by decide)) h)
    refine lv_iconst (v := (-1)) hx hb d_Mo_row_25 (by decide) ?_
    exact W.iret (v := (-1)) hx hb hr (fun t ht hW => ⟨⟨_, (), rfl, (rfl), trivial⟩, hS.F ht⟩) hS.2.2 d_Mo_row_26
