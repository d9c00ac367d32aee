abbrev b_Mo_isThing : ByteArray := prog_14_method_16_code
def y_Mo_isThing : MethodName := ⟨R_Mo, "isThing", "(I)Z"⟩
abbrev w_Mo_isThing : List Cond := .code y_Mo_isThing b_Mo_isThing 2 (some .boolean) :: lw_gd
abbrev b_Mo_second : ByteArray := prog_14_method_91_code
def y_Mo_second : MethodName := ⟨R_Mo, "second", "()I"⟩
abbrev w_Mo_second : List Cond := .code y_Mo_second b_Mo_second 1 (some .int) :: lw_gd
abbrev b_Mo_isTank : ByteArray := prog_14_method_17_code
def y_Mo_isTank : MethodName := ⟨R_Mo, "isTank", "(I)Z"⟩
abbrev w_Mo_isTank : List Cond := .code y_Mo_isTank b_Mo_isTank 2 (some .boolean) :: lw_gd
abbrev b_Mo_isValve : ByteArray := prog_14_method_18_code
def y_Mo_isValve : MethodName := ⟨R_Mo, "isValve", "(I)Z"⟩
abbrev w_Mo_isValve : List Cond := .code y_Mo_isValve b_Mo_isValve 2 (some .boolean) :: lw_gd
theorem mw_18 : (.initialized "BreweryHouseModel" : Cond) ∈ lw_gd := tb_mem (i := 18) (by decide +kernel) (by decide +kernel)
theorem mw_1790 : (.fieldLink "BreweryHouseModel" 278 "BreweryHouseModel" "things" "I" : Cond) ∈ lw_gd := tb_mem (i := 1790) (by decide +kernel) (by decide +kernel)
theorem mw_1864 : (.fieldLink "BreweryHouseModel" 326 "BreweryHouseModel" "now" "I" : Cond) ∈ lw_gd := tb_mem (i := 1864) (by decide +kernel) (by decide +kernel)
theorem mw_2408 : (.methodLink "BreweryHouseModel" 314 y_Mo_isThing : Cond) ∈ lw_gd := tb_mem (i := 2408) (by decide +kernel) (by decide +kernel)
theorem mw_2410 : (.instanceMethod y_Mo_isThing : Cond) ∈ lw_gd := tb_mem (i := 2410) (by decide +kernel) (by decide +kernel)
theorem mw_2411 : (.code y_Mo_isThing b_Mo_isThing 2 (some .boolean) : Cond) ∈ lw_gd := tb_mem (i := 2411) (by decide +kernel) (by decide +kernel)
theorem sl_152 : (.selects "BreweryHouseModel" y_Mo_isThing y_Mo_isThing : Cond) ∈ lw_gd := List.mem_filter.mpr ⟨List.mem_append_left _ (List.mem_of_getElem? (i := 152) (by decide +kernel)), by decide +kernel⟩
theorem d_Mo_isThing_0 : decode b_Mo_isThing 0 = .ok (.iload_n 1, 1) := by decide +kernel
theorem d_Mo_isThing_1 : decode b_Mo_isThing 1 = .ok (.ifCond .lt 15, 3) := by decide +kernel
theorem d_Mo_isThing_4 : decode b_Mo_isThing 4 = .ok (.iload_n 1, 1) := by decide +kernel
theorem d_Mo_isThing_5 : decode b_Mo_isThing 5 = .ok (.aload_n 0, 1) := by decide +kernel
theorem d_Mo_isThing_6 : decode b_Mo_isThing 6 = .ok (.getfield 278, 3) := by decide +kernel
theorem d_Mo_isThing_9 : decode b_Mo_isThing 9 = .ok (.if_icmp .ge 7, 3) := by decide +kernel
theorem d_Mo_isThing_16 : decode b_Mo_isThing 16 = .ok (.iconst 0, 1) := by decide +kernel
theorem d_Mo_isThing_17 : decode b_Mo_isThing 17 = .ok (.ireturn, 1) := by decide +kernel
set_option maxHeartbeats 4000000 in
set_option maxRecDepth 100000 in
theorem c_Mo_isThing (l : Launch) (dC : Nat → ClassId) (dI : Nat → Nat → Nat) (cI cB cZ cJ : ClassId) (t : Int32) (h0 : Nat) (fs : List Value) (hf_things : fs[4]? = some (.int 0)) (sz : Nat) : Met l y_Mo_isThing w_Mo_isThing ({ frames := 0, cells := 0, slots := 0, locals := 0 }) (va_Pc [.ref h0, .int t] (PW dC dI cI cB cZ cJ [(h0, .inr (12, fs))] sz)) (va_Qi (fun (r : Int32) (_ : Unit) => r = 0) (fun _ _ => True) (va_A [] sz)) 0 0 (va_A [] sz) := by
  refine Met.ofW (cc := b_Mo_isThing) (maxL := 2) (ret := (some .boolean)) (by decide) rfl ?_
  intro p e s m args below meth c s₁ B hml hv
  obtain ⟨rfl, hsz, hP, hK, hD⟩ := hv
  have hx := B.exec
  have hb := B.bytes
  have hr := B.returns
  have hts := atoms_spec (ws := w_Mo_isThing) B.pre
  have hown : s.vm.findClass R_Mo = some m.cls := findClass_of_methodNamed B.named
  have hlocks := B.notSynchronized
  subst hsz
  generalize hAe : va_A [] s.heap.size = A at ⊢
  have hA : ∀ q : Nat, s.heap.size ≤ q → A q := fun q h => by rw [← hAe]; exact Or.inr h
  have hS : va_S A s.heap s.heap [] := va_S.rf
  have hP : va_P (dC, dI) classes [(h0, .inr (12, fs))] s.heap := hP
  have hl := lv_entry ([.ref h0, .int t]) (n := 2) (Nat.le_of_ble_eq_true rfl)
  rw [lg_entry_eq]
  generalize (lg_sl ([.ref h0, .int t]) ++ List.replicate (2 - (lg_sl ([.ref h0, .int t])).length) Slot.unset).toArray = ls at hl ⊢
  have hl : lv_has ls 2 [(0, .ref h0), (1, .int t)] := hl
  refine lv_iload_n hx hb d_Mo_isThing_0 rfl (lv_at hl 1 rfl) ?_
  refine lv_if_lt (tgt := 16) hx hb d_Mo_isThing_1 (by decide) (fun h1 => ?_) (fun h1 => ?_)
  · refine lv_iconst (v := 0) hx hb d_Mo_isThing_16 (by decide) ?_
    exact W.zret (v := 0) (ty := .boolean) hx hb hr (by decide) (fun t ht hW => ⟨⟨_, (), rfl, (rfl), trivial⟩, hS.F ht⟩) hS.2.2 d_Mo_isThing_17
  · refine lv_iload_n hx hb d_Mo_isThing_4 rfl (lv_at hl 1 rfl) ?_
    refine lv_aload_n hx hb d_Mo_isThing_5 rfl (lv_at hl 0 rfl) ?_
    refine va_get (D := (dC, dI)) (ci := 12) (v := .int 0) (C := R_Mo) (T := F_Mo) (N := 87) hx hb hts (fun w h => List.mem_cons_of_mem _ (in_Mo w h)) hown hK.1 hP 0 rfl rfl 4 (by decide) (hts _ (List.mem_cons_of_mem _ mw_1790)) (fun _ h9 => h9) hf_things d_Mo_isThing_6 ?_
    refine lv_icmp_ge (tgt := 16) hx hb d_Mo_isThing_9 (by decide) (fun _ => ?_) (fun h => absurd (Int32.not_lt.mp h1) h)
    refine lv_iconst (v := 0) hx hb d_Mo_isThing_16 (by decide) ?_
    exact W.zret (v := 0) (ty := .boolean) hx hb hr (by decide) (fun t ht hW => ⟨⟨_, (), rfl, (rfl), trivial⟩, hS.F ht⟩) hS.2.2 d_Mo_isThing_17
theorem d_Mo_second_0 : decode b_Mo_second 0 = .ok (.aload_n 0, 1) := by decide +kernel
theorem d_Mo_second_1 : decode b_Mo_second 1 = .ok (.getfield 326, 3) := by decide +kernel
theorem d_Mo_second_4 : decode b_Mo_second 4 = .ok (.ireturn, 1) := by decide +kernel
set_option maxHeartbeats 4000000 in
set_option maxRecDepth 100000 in
theorem c_Mo_second (l : Launch) (dC : Nat → ClassId) (dI : Nat → Nat → Nat) (cI cB cZ cJ : ClassId) (v : Int32) (h0 : Nat) (fs : List Value) (hf_now : fs[78]? = some (.int v)) (sz : Nat) : Met l y_Mo_second w_Mo_second ({ frames := 0, cells := 0, slots := 0, locals := 0 }) (va_Pc [.ref h0] (PW dC dI cI cB cZ cJ [(h0, .inr (12, fs))] sz)) (va_Qi (fun (r : Int32) (_ : Unit) => r = v) (fun _ _ => True) (va_A [] sz)) 0 0 (va_A [] sz) := by
  refine Met.ofW (cc := b_Mo_second) (maxL := 1) (ret := (some .int)) (by decide) rfl ?_
  intro p e s m args below meth c s₁ B hml hv
  obtain ⟨rfl, hsz, hP, hK, hD⟩ := hv
  have hx := B.exec
  have hb := B.bytes
  have hr := B.returns
  have hts := atoms_spec (ws := w_Mo_second) B.pre
  have hown : s.vm.findClass R_Mo = some m.cls := findClass_of_methodNamed B.named
  have hlocks := B.notSynchronized
  subst hsz
  generalize hAe : va_A [] s.heap.size = A at ⊢
  have hA : ∀ q : Nat, s.heap.size ≤ q → A q := fun q h => by rw [← hAe]; exact Or.inr h
  have hS : va_S A s.heap s.heap [] := va_S.rf
  have hP : va_P (dC, dI) classes [(h0, .inr (12, fs))] s.heap := hP
  have hl := lv_entry ([.ref h0]) (n := 1) (Nat.le_of_ble_eq_true rfl)
  rw [lg_entry_eq]
  generalize (lg_sl ([.ref h0]) ++ List.replicate (1 - (lg_sl ([.ref h0])).length) Slot.unset).toArray = ls at hl ⊢
  have hl : lv_has ls 1 [(0, .ref h0)] := hl
  refine lv_aload_n hx hb d_Mo_second_0 rfl (lv_at hl 0 rfl) ?_
  refine va_get (D := (dC, dI)) (ci := 12) (v := .int v) (C := R_Mo) (T := F_Mo) (N := 87) hx hb hts (fun w h => List.mem_cons_of_mem _ (in_Mo w h)) hown hK.1 hP 0 rfl rfl 78 (by decide) (hts _ (List.mem_cons_of_mem _ mw_1864)) (fun _ h9 => h9) hf_now d_Mo_second_1 ?_
  exact W.iret (v := v) hx hb hr (fun t ht hW => ⟨⟨_, (), rfl, (rfl), trivial⟩, hS.F ht⟩) hS.2.2 d_Mo_second_4
theorem d_Mo_isTank_0 : decode b_Mo_isTank 0 = .ok (.aload_n 0, 1) := by decide +kernel
theorem d_Mo_isTank_1 : decode b_Mo_isTank 1 = .ok (.iload_n 1, 1) := by decide +kernel
theorem d_Mo_isTank_2 : decode b_Mo_isTank 2 = .ok (.invokevirtual 314, 3) := by decide +kernel
theorem d_Mo_isTank_5 : decode b_Mo_isTank 5 = .ok (.ifCond .eq 16, 3) := by decide +kernel
theorem d_Mo_isTank_21 : decode b_Mo_isTank 21 = .ok (.iconst 0, 1) := by decide +kernel
theorem d_Mo_isTank_22 : decode b_Mo_isTank 22 = .ok (.ireturn, 1) := by decide +kernel
set_option maxHeartbeats 4000000 in
set_option maxRecDepth 100000 in
theorem c_Mo_isTank (l : Launch) (dC : Nat → ClassId) (dI : Nat → Nat → Nat) (cI cB cZ cJ : ClassId) (t : Int32) (h0 : Nat) (fs : List Value) (hf_things : fs[4]? = some (.int 0)) (sz : Nat) : Met l y_Mo_isTank w_Mo_isTank ({ frames := 1, cells := 0, slots := 0, locals := 21 }) (va_Pc [.ref h0, .int t] (PW dC dI cI cB cZ cJ [(h0, .inr (12, fs))] sz)) (va_Qi (fun (r : Int32) (_ : Unit) => r = 0) (fun _ _ => True) (va_A [] sz)) 0 0 (va_A [] sz) := by
  refine Met.ofW (cc := b_Mo_isTank) (maxL := 2) (ret := (some .boolean)) (by decide) rfl ?_
  intro p e s m args below meth c s₁ B hml hv
  obtain ⟨rfl, hsz, hP, hK, hD⟩ := hv
  have hx := B.exec
  have hb := B.bytes
  have hr := B.returns
  have hts := atoms_spec (ws := w_Mo_isTank) B.pre
  have hown : s.vm.findClass R_Mo = some m.cls := findClass_of_methodNamed B.named
  have hlocks := B.notSynchronized
  subst hsz
  generalize hAe : va_A [] s.heap.size = A at ⊢
  have hA : ∀ q : Nat, s.heap.size ≤ q → A q := fun q h => by rw [← hAe]; exact Or.inr h
  have hS : va_S A s.heap s.heap [] := va_S.rf
  have hP : va_P (dC, dI) classes [(h0, .inr (12, fs))] s.heap := hP
  have hl := lv_entry ([.ref h0, .int t]) (n := 2) (Nat.le_of_ble_eq_true rfl)
  rw [lg_entry_eq]
  generalize (lg_sl ([.ref h0, .int t]) ++ List.replicate (2 - (lg_sl ([.ref h0, .int t])).length) Slot.unset).toArray = ls at hl ⊢
  have hl : lv_has ls 2 [(0, .ref h0), (1, .int t)] := hl
  refine lv_aload_n hx hb d_Mo_isTank_0 rfl (lv_at hl 0 rfl) ?_
  refine lv_iload_n hx hb d_Mo_isTank_1 rfl (lv_at hl 1 rfl) ?_
  have hPc := hP.sub (ws' := [(h0, .inr (12, fs))]) [0] rfl
  have hDc := hD.sub (ws' := [(h0, .inr (12, fs))]) [0] (by decide) rfl
  have hFc := pu_free hS hA
  refine va_calli (va_runV (C := R_Mo) (As := [.int t]) (rest := []) ⟨hx, hb, hml, hown, hts⟩ (c_Mo_isThing l dC dI cI cB cZ cJ t h0 fs hf_things s.heap.size) (cwV 1 hts (tb_V mw_2408 mw_2410 sl_152 mw_18 mw_2411) rfl rfl rfl ⟨rfl, by decide +kernel, by decide +kernel, by decide +kernel⟩ ⟨(Nat.le_of_ble_eq_true rfl), (Nat.le_of_ble_eq_true rfl)⟩) ⟨pw_blind, va_recv (q := (R_Mo, F_Mo, 87)) hK.1 hP (ci := 12) (q0 := 0) rfl rfl, pw_pre hPc hK hDc⟩ rfl rfl hl.1 rfl (lv_room (Nat.le_of_ble_eq_true rfl)) d_Mo_isTank_2 ⟨(Nat.le_of_ble_eq_true rfl), (Nat.le_of_ble_eq_true rfl)⟩) hS (fun q _ h => hFc q h) hFc (fun r u t H locs ht hvm hw hB hz1 hk1 hS => ?_)
  have hP := pu_kept hP hk1
  obtain rfl : r = 0 := hw
  refine lv_if_eq (tgt := 21) hx hb d_Mo_isTank_5 (by decide) (fun _ => ?_) (fun h => absurd (by decide) h)
  refine lv_iconst (v := 0) hx hb d_Mo_isTank_21 (by decide) ?_
  exact W.zret (v := 0) (ty := .boolean) hx hb hr (by decide) (fun t ht hW => ⟨⟨_, (), rfl, (rfl), trivial⟩, hS.F ht⟩) hS.2.2 d_Mo_isTank_22
theorem d_Mo_isValve_0 : decode b_Mo_isValve 0 = .ok (.aload_n 0, 1) := by decide +kernel
theorem d_Mo_isValve_1 : decode b_Mo_isValve 1 = .ok (.iload_n 1, 1) := by decide +kernel
theorem d_Mo_isValve_2 : decode b_Mo_isValve 2 = .ok (.invokevirtual 314, 3) := by decide +kernel
theorem d_Mo_isValve_5 : decode b_Mo_isValve 5 = .ok (.ifCond .eq 17, 3) := by decide +kernel
theorem d_Mo_isValve_22 : decode b_Mo_isValve 22 = .ok (.iconst 0, 1) := by decide +kernel
theorem d_Mo_isValve_23 : decode b_Mo_isValve 23 = .ok (.ireturn, 1) := by decide +kernel
set_option maxHeartbeats 4000000 in
set_option maxRecDepth 100000 in
theorem c_Mo_isValve (l : Launch) (dC : Nat → ClassId) (dI : Nat → Nat → Nat) (cI cB cZ cJ : ClassId) (t : Int32) (h0 : Nat) (fs : List Value) (hf_things : fs[4]? = some (.int 0)) (sz : Nat) : Met l y_Mo_isValve w_Mo_isValve ({ frames := 1, cells := 0, slots := 0, locals := 21 }) (va_Pc [.ref h0, .int t] (PW dC dI cI cB cZ cJ [(h0, .inr (12, fs))] sz)) (va_Qi (fun (r : Int32) (_ : Unit) => r = 0) (fun _ _ => True) (va_A [] sz)) 0 0 (va_A [] sz) := by
  refine Met.ofW (cc := b_Mo_isValve) (maxL := 2) (ret := (some .boolean)) (by decide) rfl ?_
  intro p e s m args below meth c s₁ B hml hv
  obtain ⟨rfl, hsz, hP, hK, hD⟩ := hv
  have hx := B.exec
  have hb := B.bytes
  have hr := B.returns
  have hts := atoms_spec (ws := w_Mo_isValve) B.pre
  have hown : s.vm.findClass R_Mo = some m.cls := findClass_of_methodNamed B.named
  have hlocks := B.notSynchronized
  subst hsz
  generalize hAe : va_A [] s.heap.size = A at ⊢
  have hA : ∀ q : Nat, s.heap.size ≤ q → A q := fun q h => by rw [← hAe]; exact Or.inr h
  have hS : va_S A s.heap s.heap [] := va_S.rf
  have hP : va_P (dC, dI) classes [(h0, .inr (12, fs))] s.heap := hP
  have hl := lv_entry ([.ref h0, .int t]) (n := 2) (Nat.le_of_ble_eq_true rfl)
  rw [lg_entry_eq]
  generalize (lg_sl ([.ref h0, .int t]) ++ List.replicate (2 - (lg_sl ([.ref h0, .int t])).length) Slot.unset).toArray = ls at hl ⊢
  have hl : lv_has ls 2 [(0, .ref h0), (1, .int t)] := hl
  refine lv_aload_n hx hb d_Mo_isValve_0 rfl (lv_at hl 0 rfl) ?_
  refine lv_iload_n hx hb d_Mo_isValve_1 rfl (lv_at hl 1 rfl) ?_
  have hPc := hP.sub (ws' := [(h0, .inr (12, fs))]) [0] rfl
  have hDc := hD.sub (ws' := [(h0, .inr (12, fs))]) [0] (by decide) rfl
  have hFc := pu_free hS hA
  refine va_calli (va_runV (C := R_Mo) (As := [.int t]) (rest := []) ⟨hx, hb, hml, hown, hts⟩ (c_Mo_isThing l dC dI cI cB cZ cJ t h0 fs hf_things s.heap.size) (cwV 1 hts (tb_V mw_2408 mw_2410 sl_152 mw_18 mw_2411) rfl rfl rfl ⟨rfl, by decide +kernel, by decide +kernel, by decide +kernel⟩ ⟨(Nat.le_of_ble_eq_true rfl), (Nat.le_of_ble_eq_true rfl)⟩) ⟨pw_blind, va_recv (q := (R_Mo, F_Mo, 87)) hK.1 hP (ci := 12) (q0 := 0) rfl rfl, pw_pre hPc hK hDc⟩ rfl rfl hl.1 rfl (lv_room (Nat.le_of_ble_eq_true rfl)) d_Mo_isValve_2 ⟨(Nat.le_of_ble_eq_true rfl), (Nat.le_of_ble_eq_true rfl)⟩) hS (fun q _ h => hFc q h) hFc (fun r u t H locs ht hvm hw hB hz1 hk1 hS => ?_)
  have hP := pu_kept hP hk1
  obtain rfl : r = 0 := hw
  refine lv_if_eq (tgt := 22) hx hb d_Mo_isValve_5 (by decide) (fun _ => ?_) (fun h => absurd (by decide) h)
  refine lv_iconst (v := 0) hx hb d_Mo_isValve_22 (by decide) ?_
  exact W.zret (v := 0) (ty := .boolean) hx hb hr (by decide) (fun t ht hW => ⟨⟨_, (), rfl, (rfl), trivial⟩, hS.F ht⟩) hS.2.2 d_Mo_isValve_23
