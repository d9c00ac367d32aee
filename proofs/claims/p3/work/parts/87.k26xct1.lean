abbrev b_Tp_init : ByteArray := prog_11_method_1_code
def y_Tp_init : MethodName := ⟨R_Tp, "<init>", "()V"⟩
abbrev w_Tp_init : List Cond := .code y_Tp_init b_Tp_init 1 none :: lw_gd
abbrev b_Al_init : ByteArray := prog_3_method_1_code
def y_Al_init : MethodName := ⟨R_Al, "<init>", "()V"⟩
abbrev w_Al_init : List Cond := .code y_Al_init b_Al_init 1 none :: lw_gd
abbrev b_Pl_init : ByteArray := prog_4_method_1_code
def y_Pl_init : MethodName := ⟨R_Pl, "<init>", "()V"⟩
abbrev w_Pl_init : List Cond := .code y_Pl_init b_Pl_init 1 none :: lw_gd
abbrev b_Ro_init : ByteArray := prog_7_method_1_code
def y_Ro_init : MethodName := ⟨R_Ro, "<init>", "()V"⟩
abbrev w_Ro_init : List Cond := .code y_Ro_init b_Ro_init 1 none :: lw_gd
abbrev b_Pr_init : ByteArray := prog_5_method_1_code
def y_Pr_init : MethodName := ⟨R_Pr, "<init>", "()V"⟩
abbrev w_Pr_init : List Cond := .code y_Pr_init b_Pr_init 1 none :: lw_gd
theorem mw_37 : (.methodLink R_Tp 3 objectInit : Cond) ∈ lw_gd := tb_mem (i := 37) (by decide +kernel) (by decide +kernel)
theorem mw_59 : (.methodLink R_Al 3 objectInit : Cond) ∈ lw_gd := tb_mem (i := 59) (by decide +kernel) (by decide +kernel)
theorem mw_85 : (.methodLink R_Pl 3 objectInit : Cond) ∈ lw_gd := tb_mem (i := 85) (by decide +kernel) (by decide +kernel)
theorem mw_328 : (.methodLink R_Ro 3 objectInit : Cond) ∈ lw_gd := tb_mem (i := 328) (by decide +kernel) (by decide +kernel)
theorem mw_427 : (.methodLink R_Pr 3 objectInit : Cond) ∈ lw_gd := tb_mem (i := 427) (by decide +kernel) (by decide +kernel)
theorem mw_443 : (.fieldLink "BreweryHouse$Program" 22 "BreweryHouse$Program" "from" "[I" : Cond) ∈ lw_gd := tb_mem (i := 443) (by decide +kernel) (by decide +kernel)
theorem mw_446 : (.fieldLink "BreweryHouse$Program" 25 "BreweryHouse$Program" "to" "[I" : Cond) ∈ lw_gd := tb_mem (i := 446) (by decide +kernel) (by decide +kernel)
theorem mw_451 : (.fieldLink "BreweryHouse$Program" 31 "BreweryHouse$Program" "next" "[I" : Cond) ∈ lw_gd := tb_mem (i := 451) (by decide +kernel) (by decide +kernel)
theorem mw_454 : (.fieldLink "BreweryHouse$Program" 34 "BreweryHouse$Program" "number" "[J" : Cond) ∈ lw_gd := tb_mem (i := 454) (by decide +kernel) (by decide +kernel)
theorem mw_472 : (.fieldLink "BreweryHouse$Program" 56 "BreweryHouse$Program" "senseX" "[I" : Cond) ∈ lw_gd := tb_mem (i := 472) (by decide +kernel) (by decide +kernel)
abbrev t_Tp_init_13 : List UInt8 := 177 :: []
abbrev t_Tp_init_10 : List UInt8 := 181 :: 0 :: 9 :: t_Tp_init_13
abbrev t_Tp_init_8 : List UInt8 := 188 :: 10 :: t_Tp_init_10
abbrev t_Tp_init_5 : List UInt8 := 17 :: 3 :: 237 :: t_Tp_init_8
abbrev t_Tp_init_4 : List UInt8 := 42 :: t_Tp_init_5
abbrev t_Tp_init_1 : List UInt8 := 183 :: 0 :: 3 :: t_Tp_init_4
abbrev t_Tp_init_0 : List UInt8 := 42 :: t_Tp_init_1
theorem a_Tp_init_0 : dk_at b_Tp_init 0 t_Tp_init_0 := dk_start (by decide +kernel)
theorem a_Tp_init_1 : dk_at b_Tp_init 1 t_Tp_init_1 := dk_go 1 a_Tp_init_0 rfl
theorem a_Tp_init_4 : dk_at b_Tp_init 4 t_Tp_init_4 := dk_go 3 a_Tp_init_1 rfl
theorem a_Tp_init_5 : dk_at b_Tp_init 5 t_Tp_init_5 := dk_go 1 a_Tp_init_4 rfl
theorem a_Tp_init_8 : dk_at b_Tp_init 8 t_Tp_init_8 := dk_go 3 a_Tp_init_5 rfl
theorem a_Tp_init_10 : dk_at b_Tp_init 10 t_Tp_init_10 := dk_go 2 a_Tp_init_8 rfl
theorem a_Tp_init_13 : dk_at b_Tp_init 13 t_Tp_init_13 := dk_go 3 a_Tp_init_10 rfl
theorem d_Tp_init_0 : decode b_Tp_init 0 = .ok (.aload_n 0, 1) := dk_0 a_Tp_init_0 (dko_42 _)
theorem d_Tp_init_1 : decode b_Tp_init 1 = .ok (.invokespecial 3, 3) := dk_U2 a_Tp_init_1 (dko_183 _) rfl
theorem d_Tp_init_4 : decode b_Tp_init 4 = .ok (.aload_n 0, 1) := dk_0 a_Tp_init_4 (dko_42 _)
theorem d_Tp_init_5 : decode b_Tp_init 5 = .ok (.sipush 1005, 3) := dk_S2 a_Tp_init_5 (dko_17 _) (by decide +kernel)
theorem d_Tp_init_8 : decode b_Tp_init 8 = .ok (.newarray .int, 2) := dk_N a_Tp_init_8 (dko_188 _) rfl
theorem d_Tp_init_10 : decode b_Tp_init 10 = .ok (.putfield 9, 3) := dk_U2 a_Tp_init_10 (dko_181 _) rfl
theorem d_Tp_init_13 : decode b_Tp_init 13 = .ok (.return_, 1) := dk_0 a_Tp_init_13 (dko_177 _)
set_option maxHeartbeats 4000000 in
set_option maxRecDepth 100000 in
theorem c_Tp_init (l : Launch) (dC : Nat → ClassId) (dI : Nat → Nat → Nat) (cI cB cZ cJ : ClassId) (h0 : Nat) (sz : Nat) : Met l y_Tp_init w_Tp_init ({ frames := 1, cells := 1, slots := 1005, locals := 20 }) (va_Pc [.ref h0] (PW dC dI cI cB cZ cJ [(h0, .inr (1, [.null, .int 0, .int 0]))] sz)) (va_Qv (fun _ : Unit => True) (fun (_ : Unit) (t : State) => ∃ q8 : Nat, va_P (dC, dI) classes [(h0, .inr (1, [.ref q8, .int 0, .int 0])), (q8, .inl (cI, 1005, .inl (fun _ => 0)))] t.heap ∧ va_D (va_A [(h0, .inr (1, [.null, .int 0, .int 0]))] sz) [(h0, .inr (1, [.ref q8, .int 0, .int 0])), (q8, .inl (cI, 1005, .inl (fun _ => 0)))]) (va_A [(h0, .inr (1, [.null, .int 0, .int 0]))] sz)) 1 1005 (va_A [(h0, .inr (1, [.null, .int 0, .int 0]))] sz) := by
  refine Met.ofW (cc := b_Tp_init) (maxL := 1) (ret := none) (by decide) rfl ?_
  intro p e s m args below meth c s₁ B hml hv
  obtain ⟨rfl, hsz, hP, hK, hD⟩ := hv
  have hx := B.exec
  have hb := B.bytes
  have hr := B.returns
  have hts := atoms_spec (ws := w_Tp_init) B.pre
  have hown : s.vm.findClass R_Tp = some m.cls := findClass_of_methodNamed B.named
  have hlocks := B.notSynchronized
  have hin : meth.name = "<init>" := (name_of_methodNamed B.named B.method).1
  subst hsz
  have hD := hD.self (sz := s.heap.size)
  generalize hAe : va_A [(h0, .inr (1, [.null, .int 0, .int 0]))] s.heap.size = A at hD ⊢
  have hA : ∀ q : Nat, s.heap.size ≤ q → A q := fun q h => by rw [← hAe]; exact Or.inr h
  have hS : va_S A s.heap s.heap [] := va_S.rf
  have hP : va_P (dC, dI) classes [(h0, .inr (1, [.null, .int 0, .int 0]))] s.heap := hP
  have hl := lv_entry ([.ref h0]) (n := 1) (Nat.le_of_ble_eq_true rfl)
  rw [lg_entry_eq]
  generalize (lg_sl ([.ref h0]) ++ List.replicate (1 - (lg_sl ([.ref h0])).length) Slot.unset).toArray = ls at hl ⊢
  have hl : lv_has ls 1 [(0, .ref h0)] := hl
  refine lv_aload_n hx hb d_Tp_init_0 rfl (lv_at hl 0 rfl) ?_
  refine W.objInit hx hb hown (hts _ (List.mem_cons_of_mem _ mw_37)) (hts _ (List.mem_cons_of_mem _ mw_30)) (hts _ (List.mem_cons_of_mem _ mw_31)) rfl (by rw [hml]; exact hl.1) rfl d_Tp_init_1 (Nat.le_of_ble_eq_true rfl) (Nat.le_of_ble_eq_true rfl) ?_
  refine W.eq (g2 := F0 m 4 ls []) rfl ?_
  refine lv_aload_n hx hb d_Tp_init_4 rfl (lv_at hl 0 rfl) ?_
  refine lv_sipush (v := 1005) hx hb d_Tp_init_5 (by decide) ?_
  refine ka_newa (atype := .int) (ty := .int) (N' := 1005) (a0 := (1005, .inl (fun _ => 0))) hx hb (hts _ (List.mem_cons_of_mem _ mw_53)) rfl hK.1 hP hD hS hA 0 rfl (fun _ => rfl) (by decide) (by decide) (by decide) (Nat.le_of_ble_eq_true rfl) (Nat.le_of_ble_eq_true rfl) d_Tp_init_8 (fun q8 H hP hD hS => ?_)
  refine W.widen (k := 1) (n := 1005) (Nat.le_refl _) (Nat.le_refl _) ?_
  refine va_putF (D := (dC, dI)) (ci := 1) (v := .ref q8) (ty := (.array .int)) (C := R_Tp) (T := F_Tp) (N := 3) hx hb hts (fun w h => List.mem_cons_of_mem _ (in_Tp w h)) t_Tp t_Tp_ok n_Tp hown hK.1 hP hD hS 0 rfl rfl 0 (by decide) (hts _ (List.mem_cons_of_mem _ mw_38)) (fun _ h9 => h9) rfl hin rfl (by decide +kernel) rfl rfl (Nat.le_of_ble_eq_true rfl) d_Tp_init_10 (fun H locs hP hD hS => ?_)
  have hP : va_P (dC, dI) classes [(h0, .inr (1, [.ref q8, .int 0, .int 0])), (q8, .inl (cI, 1005, .inl (fun _ => 0)))] H := hP
  have hD : va_D A [(h0, .inr (1, [.ref q8, .int 0, .int 0])), (q8, .inl (cI, 1005, .inl (fun _ => 0)))] := hD
  exact W.vret hx hb hr (fun t ht hW => ⟨⟨(), rfl, trivial, ⟨q8, by rw [ht]; exact hP, hD⟩⟩, hS.F ht⟩) hS.2.2 d_Tp_init_13
abbrev t_Al_init_31 : List UInt8 := 177 :: []
abbrev t_Al_init_28 : List UInt8 := 181 :: 0 :: 18 :: t_Al_init_31
abbrev t_Al_init_26 : List UInt8 := 188 :: 10 :: t_Al_init_28
abbrev t_Al_init_23 : List UInt8 := 17 :: 0 :: 200 :: t_Al_init_26
abbrev t_Al_init_22 : List UInt8 := 42 :: t_Al_init_23
abbrev t_Al_init_19 : List UInt8 := 181 :: 0 :: 15 :: t_Al_init_22
abbrev t_Al_init_17 : List UInt8 := 188 :: 10 :: t_Al_init_19
abbrev t_Al_init_14 : List UInt8 := 17 :: 0 :: 200 :: t_Al_init_17
abbrev t_Al_init_13 : List UInt8 := 42 :: t_Al_init_14
abbrev t_Al_init_10 : List UInt8 := 181 :: 0 :: 9 :: t_Al_init_13
abbrev t_Al_init_8 : List UInt8 := 188 :: 10 :: t_Al_init_10
abbrev t_Al_init_5 : List UInt8 := 17 :: 0 :: 200 :: t_Al_init_8
abbrev t_Al_init_4 : List UInt8 := 42 :: t_Al_init_5
abbrev t_Al_init_1 : List UInt8 := 183 :: 0 :: 3 :: t_Al_init_4
abbrev t_Al_init_0 : List UInt8 := 42 :: t_Al_init_1
theorem a_Al_init_0 : dk_at b_Al_init 0 t_Al_init_0 := dk_start (by decide +kernel)
theorem a_Al_init_1 : dk_at b_Al_init 1 t_Al_init_1 := dk_go 1 a_Al_init_0 rfl
theorem a_Al_init_4 : dk_at b_Al_init 4 t_Al_init_4 := dk_go 3 a_Al_init_1 rfl
theorem a_Al_init_5 : dk_at b_Al_init 5 t_Al_init_5 := dk_go 1 a_Al_init_4 rfl
theorem a_Al_init_8 : dk_at b_Al_init 8 t_Al_init_8 := dk_go 3 a_Al_init_5 rfl
theorem a_Al_init_10 : dk_at b_Al_init 10 t_Al_init_10 := dk_go 2 a_Al_init_8 rfl
theorem a_Al_init_13 : dk_at b_Al_init 13 t_Al_init_13 := dk_go 3 a_Al_init_10 rfl
theorem a_Al_init_14 : dk_at b_Al_init 14 t_Al_init_14 := dk_go 1 a_Al_init_13 rfl
theorem a_Al_init_17 : dk_at b_Al_init 17 t_Al_init_17 := dk_go 3 a_Al_init_14 rfl
theorem a_Al_init_19 : dk_at b_Al_init 19 t_Al_init_19 := dk_go 2 a_Al_init_17 rfl
theorem a_Al_init_22 : dk_at b_Al_init 22 t_Al_init_22 := dk_go 3 a_Al_init_19 rfl
theorem a_Al_init_23 : dk_at b_Al_init 23 t_Al_init_23 := dk_go 1 a_Al_init_22 rfl
theorem a_Al_init_26 : dk_at b_Al_init 26 t_Al_init_26 := dk_go 3 a_Al_init_23 rfl
theorem a_Al_init_28 : dk_at b_Al_init 28 t_Al_init_28 := dk_go 2 a_Al_init_26 rfl
theorem a_Al_init_31 : dk_at b_Al_init 31 t_Al_init_31 := dk_go 3 a_Al_init_28 rfl
theorem d_Al_init_0 : decode b_Al_init 0 = .ok (.aload_n 0, 1) := dk_0 a_Al_init_0 (dko_42 _)
theorem d_Al_init_1 : decode b_Al_init 1 = .ok (.invokespecial 3, 3) := dk_U2 a_Al_init_1 (dko_183 _) rfl
theorem d_Al_init_4 : decode b_Al_init 4 = .ok (.aload_n 0, 1) := dk_0 a_Al_init_4 (dko_42 _)
theorem d_Al_init_5 : decode b_Al_init 5 = .ok (.sipush 200, 3) := dk_S2 a_Al_init_5 (dko_17 _) (by decide +kernel)
theorem d_Al_init_8 : decode b_Al_init 8 = .ok (.newarray .int, 2) := dk_N a_Al_init_8 (dko_188 _) rfl
theorem d_Al_init_10 : decode b_Al_init 10 = .ok (.putfield 9, 3) := dk_U2 a_Al_init_10 (dko_181 _) rfl
theorem d_Al_init_13 : decode b_Al_init 13 = .ok (.aload_n 0, 1) := dk_0 a_Al_init_13 (dko_42 _)
theorem d_Al_init_14 : decode b_Al_init 14 = .ok (.sipush 200, 3) := dk_S2 a_Al_init_14 (dko_17 _) (by decide +kernel)
theorem d_Al_init_17 : decode b_Al_init 17 = .ok (.newarray .int, 2) := dk_N a_Al_init_17 (dko_188 _) rfl
theorem d_Al_init_19 : decode b_Al_init 19 = .ok (.putfield 15, 3) := dk_U2 a_Al_init_19 (dko_181 _) rfl
theorem d_Al_init_22 : decode b_Al_init 22 = .ok (.aload_n 0, 1) := dk_0 a_Al_init_22 (dko_42 _)
theorem d_Al_init_23 : decode b_Al_init 23 = .ok (.sipush 200, 3) := dk_S2 a_Al_init_23 (dko_17 _) (by decide +kernel)
theorem d_Al_init_26 : decode b_Al_init 26 = .ok (.newarray .int, 2) := dk_N a_Al_init_26 (dko_188 _) rfl
theorem d_Al_init_28 : decode b_Al_init 28 = .ok (.putfield 18, 3) := dk_U2 a_Al_init_28 (dko_181 _) rfl
theorem d_Al_init_31 : decode b_Al_init 31 = .ok (.return_, 1) := dk_0 a_Al_init_31 (dko_177 _)
set_option maxHeartbeats 4000000 in
set_option maxRecDepth 100000 in
theorem c_Al_init (l : Launch) (dC : Nat → ClassId) (dI : Nat → Nat → Nat) (cI cB cZ cJ : ClassId) (h0 : Nat) (sz : Nat) : Met l y_Al_init w_Al_init ({ frames := 1, cells := 3, slots := 600, locals := 20 }) (va_Pc [.ref h0] (PW dC dI cI cB cZ cJ [(h0, .inr (2, [.int 0, .null, .null, .null]))] sz)) (va_Qv (fun _ : Unit => True) (fun (_ : Unit) (t : State) => ∃ q8 q17 q26 : Nat, va_P (dC, dI) classes [(h0, .inr (2, [.int 0, .ref q8, .ref q17, .ref q26])), (q8, .inl (cI, 200, .inl (fun _ => 0))), (q17, .inl (cI, 200, .inl (fun _ => 0))), (q26, .inl (cI, 200, .inl (fun _ => 0)))] t.heap ∧ va_D (va_A [(h0, .inr (2, [.int 0, .null, .null, .null]))] sz) [(h0, .inr (2, [.int 0, .ref q8, .ref q17, .ref q26])), (q8, .inl (cI, 200, .inl (fun _ => 0))), (q17, .inl (cI, 200, .inl (fun _ => 0))), (q26, .inl (cI, 200, .inl (fun _ => 0)))]) (va_A [(h0, .inr (2, [.int 0, .null, .null, .null]))] sz)) 3 600 (va_A [(h0, .inr (2, [.int 0, .null, .null, .null]))] sz) := by
  refine Met.ofW (cc := b_Al_init) (maxL := 1) (ret := none) (by decide) rfl ?_
  intro p e s m args below meth c s₁ B hml hv
  obtain ⟨rfl, hsz, hP, hK, hD⟩ := hv
  have hx := B.exec
  have hb := B.bytes
  have hr := B.returns
  have hts := atoms_spec (ws := w_Al_init) B.pre
  have hown : s.vm.findClass R_Al = some m.cls := findClass_of_methodNamed B.named
  have hlocks := B.notSynchronized
  have hin : meth.name = "<init>" := (name_of_methodNamed B.named B.method).1
  subst hsz
  have hD := hD.self (sz := s.heap.size)
  generalize hAe : va_A [(h0, .inr (2, [.int 0, .null, .null, .null]))] s.heap.size = A at hD ⊢
  have hA : ∀ q : Nat, s.heap.size ≤ q → A q := fun q h => by rw [← hAe]; exact Or.inr h
  have hS : va_S A s.heap s.heap [] := va_S.rf
  have hP : va_P (dC, dI) classes [(h0, .inr (2, [.int 0, .null, .null, .null]))] s.heap := hP
  have hl := lv_entry ([.ref h0]) (n := 1) (Nat.le_of_ble_eq_true rfl)
  rw [lg_entry_eq]
  generalize (lg_sl ([.ref h0]) ++ List.replicate (1 - (lg_sl ([.ref h0])).length) Slot.unset).toArray = ls at hl ⊢
  have hl : lv_has ls 1 [(0, .ref h0)] := hl
  refine lv_aload_n hx hb d_Al_init_0 rfl (lv_at hl 0 rfl) ?_
  refine W.objInit hx hb hown (hts _ (List.mem_cons_of_mem _ mw_59)) (hts _ (List.mem_cons_of_mem _ mw_30)) (hts _ (List.mem_cons_of_mem _ mw_31)) rfl (by rw [hml]; exact hl.1) rfl d_Al_init_1 (Nat.le_of_ble_eq_true rfl) (Nat.le_of_ble_eq_true rfl) ?_
  refine W.eq (g2 := F0 m 4 ls []) rfl ?_
  refine lv_aload_n hx hb d_Al_init_4 rfl (lv_at hl 0 rfl) ?_
  refine lv_sipush (v := 200) hx hb d_Al_init_5 (by decide) ?_
  refine ka_newa (atype := .int) (ty := .int) (N' := 200) (a0 := (200, .inl (fun _ => 0))) hx hb (hts _ (List.mem_cons_of_mem _ mw_53)) rfl hK.1 hP hD hS hA 0 rfl (fun _ => rfl) (by decide) (by decide) (by decide) (Nat.le_of_ble_eq_true rfl) (Nat.le_of_ble_eq_true rfl) d_Al_init_8 (fun q8 H hP hD hS => ?_)
  refine W.widen (k := 1) (n := 200) (Nat.le_refl _) (Nat.le_refl _) ?_
  refine va_putF (D := (dC, dI)) (ci := 2) (v := .ref q8) (ty := (.array .int)) (C := R_Al) (T := F_Al) (N := 4) hx hb hts (fun w h => List.mem_cons_of_mem _ (in_Al w h)) t_Al t_Al_ok n_Al hown hK.1 hP hD hS 0 rfl rfl 1 (by decide) (hts _ (List.mem_cons_of_mem _ mw_62)) (fun _ h9 => h9) rfl hin rfl (by decide +kernel) rfl rfl (Nat.le_of_ble_eq_true rfl) d_Al_init_10 (fun H locs hP hD hS => ?_)
  have hP : va_P (dC, dI) classes [(h0, .inr (2, [.int 0, .ref q8, .null, .null])), (q8, .inl (cI, 200, .inl (fun _ => 0)))] H := hP
  have hD : va_D A [(h0, .inr (2, [.int 0, .ref q8, .null, .null])), (q8, .inl (cI, 200, .inl (fun _ => 0)))] := hD
  refine lv_aload_n hx hb d_Al_init_13 rfl (lv_at hl 0 rfl) ?_
  refine lv_sipush (v := 200) hx hb d_Al_init_14 (by decide) ?_
  refine ka_newa (atype := .int) (ty := .int) (N' := 200) (a0 := (200, .inl (fun _ => 0))) hx hb (hts _ (List.mem_cons_of_mem _ mw_53)) rfl hK.1 hP hD hS hA 0 rfl (fun _ => rfl) (by decide) (by decide) (by decide) (Nat.le_of_ble_eq_true rfl) (Nat.le_of_ble_eq_true rfl) d_Al_init_17 (fun q17 H hP hD hS => ?_)
  refine W.widen (k := 2) (n := 400) (Nat.le_refl _) (Nat.le_refl _) ?_
  refine va_putF (D := (dC, dI)) (ci := 2) (v := .ref q17) (ty := (.array .int)) (C := R_Al) (T := F_Al) (N := 4) hx hb hts (fun w h => List.mem_cons_of_mem _ (in_Al w h)) t_Al t_Al_ok n_Al hown hK.1 hP hD hS 0 rfl rfl 2 (by decide) (hts _ (List.mem_cons_of_mem _ mw_63)) (fun _ h9 => h9) rfl hin rfl (by decide +kernel) rfl rfl (Nat.le_of_ble_eq_true rfl) d_Al_init_19 (fun H locs hP hD hS => ?_)
  have hP : va_P (dC, dI) classes [(h0, .inr (2, [.int 0, .ref q8, .ref q17, .null])), (q8, .inl (cI, 200, .inl (fun _ => 0))), (q17, .inl (cI, 200, .inl (fun _ => 0)))] H := hP
  have hD : va_D A [(h0, .inr (2, [.int 0, .ref q8, .ref q17, .null])), (q8, .inl (cI, 200, .inl (fun _ => 0))), (q17, .inl (cI, 200, .inl (fun _ => 0)))] := hD
  refine lv_aload_n hx hb d_Al_init_22 rfl (lv_at hl 0 rfl) ?_
  refine lv_sipush (v := 200) hx hb d_Al_init_23 (by decide) ?_
  refine ka_newa (atype := .int) (ty := .int) (N' := 200) (a0 := (200, .inl (fun _ => 0))) hx hb (hts _ (List.mem_cons_of_mem _ mw_53)) rfl hK.1 hP hD hS hA 0 rfl (fun _ => rfl) (by decide) (by decide) (by decide) (Nat.le_of_ble_eq_true rfl) (Nat.le_of_ble_eq_true rfl) d_Al_init_26 (fun q26 H hP hD hS => ?_)
  refine W.widen (k := 3) (n := 600) (Nat.le_refl _) (Nat.le_refl _) ?_
  refine va_putF (D := (dC, dI)) (ci := 2) (v := .ref q26) (ty := (.array .int)) (C := R_Al) (T := F_Al) (N := 4) hx hb hts (fun w h => List.mem_cons_of_mem _ (in_Al w h)) t_Al t_Al_ok n_Al hown hK.1 hP hD hS 0 rfl rfl 3 (by decide) (hts _ (List.mem_cons_of_mem _ mw_64)) (fun _ h9 => h9) rfl hin rfl (by decide +kernel) rfl rfl (Nat.le_of_ble_eq_true rfl) d_Al_init_28 (fun H locs hP hD hS => ?_)
  have hP : va_P (dC, dI) classes [(h0, .inr (2, [.int 0, .ref q8, .ref q17, .ref q26])), (q8, .inl (cI, 200, .inl (fun _ => 0))), (q17, .inl (cI, 200, .inl (fun _ => 0))), (q26, .inl (cI, 200, .inl (fun _ => 0)))] H := hP
  have hD : va_D A [(h0, .inr (2, [.int 0, .ref q8, .ref q17, .ref q26])), (q8, .inl (cI, 200, .inl (fun _ => 0))), (q17, .inl (cI, 200, .inl (fun _ => 0))), (q26, .inl (cI, 200, .inl (fun _ => 0)))] := hD
  exact W.vret hx hb hr (fun t ht hW => ⟨⟨(), rfl, trivial, ⟨q8, q17, q26, by rw [ht]; exact hP, hD⟩⟩, hS.F ht⟩) hS.2.2 d_Al_init_31
abbrev t_Pl_init_60 : List UInt8 := 177 :: []
abbrev t_Pl_init_57 : List UInt8 := 181 :: 0 :: 30 :: t_Pl_init_60
abbrev t_Pl_init_55 : List UInt8 := 188 :: 10 :: t_Pl_init_57
abbrev t_Pl_init_53 : List UInt8 := 16 :: 80 :: t_Pl_init_55
abbrev t_Pl_init_52 : List UInt8 := 42 :: t_Pl_init_53
abbrev t_Pl_init_49 : List UInt8 := 181 :: 0 :: 27 :: t_Pl_init_52
abbrev t_Pl_init_47 : List UInt8 := 188 :: 10 :: t_Pl_init_49
abbrev t_Pl_init_45 : List UInt8 := 16 :: 48 :: t_Pl_init_47
abbrev t_Pl_init_44 : List UInt8 := 42 :: t_Pl_init_45
abbrev t_Pl_init_41 : List UInt8 := 181 :: 0 :: 24 :: t_Pl_init_44
abbrev t_Pl_init_39 : List UInt8 := 188 :: 10 :: t_Pl_init_41
abbrev t_Pl_init_37 : List UInt8 := 16 :: 48 :: t_Pl_init_39
abbrev t_Pl_init_36 : List UInt8 := 42 :: t_Pl_init_37
abbrev t_Pl_init_33 : List UInt8 := 181 :: 0 :: 21 :: t_Pl_init_36
abbrev t_Pl_init_31 : List UInt8 := 188 :: 10 :: t_Pl_init_33
abbrev t_Pl_init_29 : List UInt8 := 16 :: 24 :: t_Pl_init_31
abbrev t_Pl_init_28 : List UInt8 := 42 :: t_Pl_init_29
abbrev t_Pl_init_25 : List UInt8 := 181 :: 0 :: 18 :: t_Pl_init_28
abbrev t_Pl_init_23 : List UInt8 := 188 :: 10 :: t_Pl_init_25
abbrev t_Pl_init_21 : List UInt8 := 16 :: 20 :: t_Pl_init_23
abbrev t_Pl_init_20 : List UInt8 := 42 :: t_Pl_init_21
abbrev t_Pl_init_17 : List UInt8 := 181 :: 0 :: 15 :: t_Pl_init_20
abbrev t_Pl_init_15 : List UInt8 := 188 :: 10 :: t_Pl_init_17
abbrev t_Pl_init_13 : List UInt8 := 16 :: 20 :: t_Pl_init_15
abbrev t_Pl_init_12 : List UInt8 := 42 :: t_Pl_init_13
abbrev t_Pl_init_9 : List UInt8 := 181 :: 0 :: 9 :: t_Pl_init_12
abbrev t_Pl_init_7 : List UInt8 := 188 :: 10 :: t_Pl_init_9
abbrev t_Pl_init_5 : List UInt8 := 16 :: 20 :: t_Pl_init_7
abbrev t_Pl_init_4 : List UInt8 := 42 :: t_Pl_init_5
abbrev t_Pl_init_1 : List UInt8 := 183 :: 0 :: 3 :: t_Pl_init_4
abbrev t_Pl_init_0 : List UInt8 := 42 :: t_Pl_init_1
theorem a_Pl_init_0 : dk_at b_Pl_init 0 t_Pl_init_0 := dk_start (by decide +kernel)
theorem a_Pl_init_1 : dk_at b_Pl_init 1 t_Pl_init_1 := dk_go 1 a_Pl_init_0 rfl
theorem a_Pl_init_4 : dk_at b_Pl_init 4 t_Pl_init_4 := dk_go 3 a_Pl_init_1 rfl
theorem a_Pl_init_5 : dk_at b_Pl_init 5 t_Pl_init_5 := dk_go 1 a_Pl_init_4 rfl
theorem a_Pl_init_7 : dk_at b_Pl_init 7 t_Pl_init_7 := dk_go 2 a_Pl_init_5 rfl
theorem a_Pl_init_9 : dk_at b_Pl_init 9 t_Pl_init_9 := dk_go 2 a_Pl_init_7 rfl
theorem a_Pl_init_12 : dk_at b_Pl_init 12 t_Pl_init_12 := dk_go 3 a_Pl_init_9 rfl
theorem a_Pl_init_13 : dk_at b_Pl_init 13 t_Pl_init_13 := dk_go 1 a_Pl_init_12 rfl
theorem a_Pl_init_15 : dk_at b_Pl_init 15 t_Pl_init_15 := dk_go 2 a_Pl_init_13 rfl
theorem a_Pl_init_17 : dk_at b_Pl_init 17 t_Pl_init_17 := dk_go 2 a_Pl_init_15 rfl
theorem a_Pl_init_20 : dk_at b_Pl_init 20 t_Pl_init_20 := dk_go 3 a_Pl_init_17 rfl
theorem a_Pl_init_21 : dk_at b_Pl_init 21 t_Pl_init_21 := dk_go 1 a_Pl_init_20 rfl
theorem a_Pl_init_23 : dk_at b_Pl_init 23 t_Pl_init_23 := dk_go 2 a_Pl_init_21 rfl
theorem a_Pl_init_25 : dk_at b_Pl_init 25 t_Pl_init_25 := dk_go 2 a_Pl_init_23 rfl
theorem a_Pl_init_28 : dk_at b_Pl_init 28 t_Pl_init_28 := dk_go 3 a_Pl_init_25 rfl
theorem a_Pl_init_29 : dk_at b_Pl_init 29 t_Pl_init_29 := dk_go 1 a_Pl_init_28 rfl
theorem a_Pl_init_31 : dk_at b_Pl_init 31 t_Pl_init_31 := dk_go 2 a_Pl_init_29 rfl
theorem a_Pl_init_33 : dk_at b_Pl_init 33 t_Pl_init_33 := dk_go 2 a_Pl_init_31 rfl
theorem a_Pl_init_36 : dk_at b_Pl_init 36 t_Pl_init_36 := dk_go 3 a_Pl_init_33 rfl
theorem a_Pl_init_37 : dk_at b_Pl_init 37 t_Pl_init_37 := dk_go 1 a_Pl_init_36 rfl
theorem a_Pl_init_39 : dk_at b_Pl_init 39 t_Pl_init_39 := dk_go 2 a_Pl_init_37 rfl
theorem a_Pl_init_41 : dk_at b_Pl_init 41 t_Pl_init_41 := dk_go 2 a_Pl_init_39 rfl
theorem a_Pl_init_44 : dk_at b_Pl_init 44 t_Pl_init_44 := dk_go 3 a_Pl_init_41 rfl
theorem a_Pl_init_45 : dk_at b_Pl_init 45 t_Pl_init_45 := dk_go 1 a_Pl_init_44 rfl
theorem a_Pl_init_47 : dk_at b_Pl_init 47 t_Pl_init_47 := dk_go 2 a_Pl_init_45 rfl
theorem a_Pl_init_49 : dk_at b_Pl_init 49 t_Pl_init_49 := dk_go 2 a_Pl_init_47 rfl
theorem a_Pl_init_52 : dk_at b_Pl_init 52 t_Pl_init_52 := dk_go 3 a_Pl_init_49 rfl
theorem a_Pl_init_53 : dk_at b_Pl_init 53 t_Pl_init_53 := dk_go 1 a_Pl_init_52 rfl
theorem a_Pl_init_55 : dk_at b_Pl_init 55 t_Pl_init_55 := dk_go 2 a_Pl_init_53 rfl
theorem a_Pl_init_57 : dk_at b_Pl_init 57 t_Pl_init_57 := dk_go 2 a_Pl_init_55 rfl
theorem a_Pl_init_60 : dk_at b_Pl_init 60 t_Pl_init_60 := dk_go 3 a_Pl_init_57 rfl
theorem d_Pl_init_0 : decode b_Pl_init 0 = .ok (.aload_n 0, 1) := dk_0 a_Pl_init_0 (dko_42 _)
theorem d_Pl_init_1 : decode b_Pl_init 1 = .ok (.invokespecial 3, 3) := dk_U2 a_Pl_init_1 (dko_183 _) rfl
theorem d_Pl_init_4 : decode b_Pl_init 4 = .ok (.aload_n 0, 1) := dk_0 a_Pl_init_4 (dko_42 _)
theorem d_Pl_init_5 : decode b_Pl_init 5 = .ok (.bipush 20, 2) := dk_S1 a_Pl_init_5 (dko_16 _) (by decide +kernel)
theorem d_Pl_init_7 : decode b_Pl_init 7 = .ok (.newarray .int, 2) := dk_N a_Pl_init_7 (dko_188 _) rfl
theorem d_Pl_init_9 : decode b_Pl_init 9 = .ok (.putfield 9, 3) := dk_U2 a_Pl_init_9 (dko_181 _) rfl
theorem d_Pl_init_12 : decode b_Pl_init 12 = .ok (.aload_n 0, 1) := dk_0 a_Pl_init_12 (dko_42 _)
theorem d_Pl_init_13 : decode b_Pl_init 13 = .ok (.bipush 20, 2) := dk_S1 a_Pl_init_13 (dko_16 _) (by decide +kernel)
theorem d_Pl_init_15 : decode b_Pl_init 15 = .ok (.newarray .int, 2) := dk_N a_Pl_init_15 (dko_188 _) rfl
theorem d_Pl_init_17 : decode b_Pl_init 17 = .ok (.putfield 15, 3) := dk_U2 a_Pl_init_17 (dko_181 _) rfl
theorem d_Pl_init_20 : decode b_Pl_init 20 = .ok (.aload_n 0, 1) := dk_0 a_Pl_init_20 (dko_42 _)
theorem d_Pl_init_21 : decode b_Pl_init 21 = .ok (.bipush 20, 2) := dk_S1 a_Pl_init_21 (dko_16 _) (by decide +kernel)
theorem d_Pl_init_23 : decode b_Pl_init 23 = .ok (.newarray .int, 2) := dk_N a_Pl_init_23 (dko_188 _) rfl
theorem d_Pl_init_25 : decode b_Pl_init 25 = .ok (.putfield 18, 3) := dk_U2 a_Pl_init_25 (dko_181 _) rfl
theorem d_Pl_init_28 : decode b_Pl_init 28 = .ok (.aload_n 0, 1) := dk_0 a_Pl_init_28 (dko_42 _)
theorem d_Pl_init_29 : decode b_Pl_init 29 = .ok (.bipush 24, 2) := dk_S1 a_Pl_init_29 (dko_16 _) (by decide +kernel)
theorem d_Pl_init_31 : decode b_Pl_init 31 = .ok (.newarray .int, 2) := dk_N a_Pl_init_31 (dko_188 _) rfl
theorem d_Pl_init_33 : decode b_Pl_init 33 = .ok (.putfield 21, 3) := dk_U2 a_Pl_init_33 (dko_181 _) rfl
theorem d_Pl_init_36 : decode b_Pl_init 36 = .ok (.aload_n 0, 1) := dk_0 a_Pl_init_36 (dko_42 _)
theorem d_Pl_init_37 : decode b_Pl_init 37 = .ok (.bipush 48, 2) := dk_S1 a_Pl_init_37 (dko_16 _) (by decide +kernel)
theorem d_Pl_init_39 : decode b_Pl_init 39 = .ok (.newarray .int, 2) := dk_N a_Pl_init_39 (dko_188 _) rfl
theorem d_Pl_init_41 : decode b_Pl_init 41 = .ok (.putfield 24, 3) := dk_U2 a_Pl_init_41 (dko_181 _) rfl
theorem d_Pl_init_44 : decode b_Pl_init 44 = .ok (.aload_n 0, 1) := dk_0 a_Pl_init_44 (dko_42 _)
theorem d_Pl_init_45 : decode b_Pl_init 45 = .ok (.bipush 48, 2) := dk_S1 a_Pl_init_45 (dko_16 _) (by decide +kernel)
theorem d_Pl_init_47 : decode b_Pl_init 47 = .ok (.newarray .int, 2) := dk_N a_Pl_init_47 (dko_188 _) rfl
theorem d_Pl_init_49 : decode b_Pl_init 49 = .ok (.putfield 27, 3) := dk_U2 a_Pl_init_49 (dko_181 _) rfl
theorem d_Pl_init_52 : decode b_Pl_init 52 = .ok (.aload_n 0, 1) := dk_0 a_Pl_init_52 (dko_42 _)
theorem d_Pl_init_53 : decode b_Pl_init 53 = .ok (.bipush 80, 2) := dk_S1 a_Pl_init_53 (dko_16 _) (by decide +kernel)
theorem d_Pl_init_55 : decode b_Pl_init 55 = .ok (.newarray .int, 2) := dk_N a_Pl_init_55 (dko_188 _) rfl
theorem d_Pl_init_57 : decode b_Pl_init 57 = .ok (.putfield 30, 3) := dk_U2 a_Pl_init_57 (dko_181 _) rfl
theorem d_Pl_init_60 : decode b_Pl_init 60 = .ok (.return_, 1) := dk_0 a_Pl_init_60 (dko_177 _)
set_option maxHeartbeats 4000000 in
set_option maxRecDepth 100000 in
theorem c_Pl_init (l : Launch) (dC : Nat → ClassId) (dI : Nat → Nat → Nat) (cI cB cZ cJ : ClassId) (h0 : Nat) (sz : Nat) : Met l y_Pl_init w_Pl_init ({ frames := 1, cells := 7, slots := 260, locals := 20 }) (va_Pc [.ref h0] (PW dC dI cI cB cZ cJ [(h0, .inr (3, [.int 0, .int 0, .null, .null, .null, .null, .null, .null, .null, .null, .int 0, .int 0]))] sz)) (va_Qv (fun _ : Unit => True) (fun (_ : Unit) (t : State) => ∃ q7 q15 q23 q31 q39 q47 q55 : Nat, va_P (dC, dI) classes [(h0, .inr (3, [.int 0, .int 0, .ref q7, .ref q15, .ref q23, .ref q31, .ref q39, .ref q47, .ref q55, .null, .int 0, .int 0])), (q7, .inl (cI, 20, .inl (fun _ => 0))), (q15, .inl (cI, 20, .inl (fun _ => 0))), (q23, .inl (cI, 20, .inl (fun _ => 0))), (q31, .inl (cI, 24, .inl (fun _ => 0))), (q39, .inl (cI, 48, .inl (fun _ => 0))), (q47, .inl (cI, 48, .inl (fun _ => 0))), (q55, .inl (cI, 80, .inl (fun _ => 0)))] t.heap ∧ va_D (va_A [(h0, .inr (3, [.int 0, .int 0, .null, .null, .null, .null, .null, .null, .null, .null, .int 0, .int 0]))] sz) [(h0, .inr (3, [.int 0, .int 0, .ref q7, .ref q15, .ref q23, .ref q31, .ref q39, .ref q47, .ref q55, .null, .int 0, .int 0])), (q7, .inl (cI, 20, .inl (fun _ => 0))), (q15, .inl (cI, 20, .inl (fun _ => 0))), (q23, .inl (cI, 20, .inl (fun _ => 0))), (q31, .inl (cI, 24, .inl (fun _ => 0))), (q39, .inl (cI, 48, .inl (fun _ => 0))), (q47, .inl (cI, 48, .inl (fun _ => 0))), (q55, .inl (cI, 80, .inl (fun _ => 0)))]) (va_A [(h0, .inr (3, [.int 0, .int 0, .null, .null, .null, .null, .null, .null, .null, .null, .int 0, .int 0]))] sz)) 7 260 (va_A [(h0, .inr (3, [.int 0, .int 0, .null, .null, .null, .null, .null, .null, .null, .null, .int 0, .int 0]))] sz) := by
  refine Met.ofW (cc := b_Pl_init) (maxL := 1) (ret := none) (by decide) rfl ?_
  intro p e s m args below meth c s₁ B hml hv
  obtain ⟨rfl, hsz, hP, hK, hD⟩ := hv
  have hx := B.exec
  have hb := B.bytes
  have hr := B.returns
  have hts := atoms_spec (ws := w_Pl_init) B.pre
  have hown : s.vm.findClass R_Pl = some m.cls := findClass_of_methodNamed B.named
  have hlocks := B.notSynchronized
  have hin : meth.name = "<init>" := (name_of_methodNamed B.named B.method).1
  subst hsz
  have hD := hD.self (sz := s.heap.size)
  generalize hAe : va_A [(h0, .inr (3, [.int 0, .int 0, .null, .null, .null, .null, .null, .null, .null, .null, .int 0, .int 0]))] s.heap.size = A at hD ⊢
  have hA : ∀ q : Nat, s.heap.size ≤ q → A q := fun q h => by rw [← hAe]; exact Or.inr h
  have hS : va_S A s.heap s.heap [] := va_S.rf
  have hP : va_P (dC, dI) classes [(h0, .inr (3, [.int 0, .int 0, .null, .null, .null, .null, .null, .null, .null, .null, .int 0, .int 0]))] s.heap := hP
  have hl := lv_entry ([.ref h0]) (n := 1) (Nat.le_of_ble_eq_true rfl)
  rw [lg_entry_eq]
  generalize (lg_sl ([.ref h0]) ++ List.replicate (1 - (lg_sl ([.ref h0])).length) Slot.unset).toArray = ls at hl ⊢
  have hl : lv_has ls 1 [(0, .ref h0)] := hl
  refine lv_aload_n hx hb d_Pl_init_0 rfl (lv_at hl 0 rfl) ?_
  refine W.objInit hx hb hown (hts _ (List.mem_cons_of_mem _ mw_85)) (hts _ (List.mem_cons_of_mem _ mw_30)) (hts _ (List.mem_cons_of_mem _ mw_31)) rfl (by rw [hml]; exact hl.1) rfl d_Pl_init_1 (Nat.le_of_ble_eq_true rfl) (Nat.le_of_ble_eq_true rfl) ?_
  refine W.eq (g2 := F0 m 4 ls []) rfl ?_
  refine lv_aload_n hx hb d_Pl_init_4 rfl (lv_at hl 0 rfl) ?_
  refine lv_bipush (v := 20) hx hb d_Pl_init_5 (by decide) ?_
  refine ka_newa (atype := .int) (ty := .int) (N' := 20) (a0 := (20, .inl (fun _ => 0))) hx hb (hts _ (List.mem_cons_of_mem _ mw_53)) rfl hK.1 hP hD hS hA 0 rfl (fun _ => rfl) (by decide) (by decide) (by decide) (Nat.le_of_ble_eq_true rfl) (Nat.le_of_ble_eq_true rfl) d_Pl_init_7 (fun q7 H hP hD hS => ?_)
  refine W.widen (k := 1) (n := 20) (Nat.le_refl _) (Nat.le_refl _) ?_
  refine va_putF (D := (dC, dI)) (ci := 3) (v := .ref q7) (ty := (.array .int)) (C := R_Pl) (T := F_Pl) (N := 12) hx hb hts (fun w h => List.mem_cons_of_mem _ (in_Pl w h)) t_Pl t_Pl_ok n_Pl hown hK.1 hP hD hS 0 rfl rfl 2 (by decide) (hts _ (List.mem_cons_of_mem _ mw_96)) (fun _ h9 => h9) rfl hin rfl (by decide +kernel) rfl rfl (Nat.le_of_ble_eq_true rfl) d_Pl_init_9 (fun H locs hP hD hS => ?_)
  have hP : va_P (dC, dI) classes [(h0, .inr (3, [.int 0, .int 0, .ref q7, .null, .null, .null, .null, .null, .null, .null, .int 0, .int 0])), (q7, .inl (cI, 20, .inl (fun _ => 0)))] H := hP
  have hD : va_D A [(h0, .inr (3, [.int 0, .int 0, .ref q7, .null, .null, .null, .null, .null, .null, .null, .int 0, .int 0])), (q7, .inl (cI, 20, .inl (fun _ => 0)))] := hD
  refine lv_aload_n hx hb d_Pl_init_12 rfl (lv_at hl 0 rfl) ?_
  refine lv_bipush (v := 20) hx hb d_Pl_init_13 (by decide) ?_
  refine ka_newa (atype := .int) (ty := .int) (N' := 20) (a0 := (20, .inl (fun _ => 0))) hx hb (hts _ (List.mem_cons_of_mem _ mw_53)) rfl hK.1 hP hD hS hA 0 rfl (fun _ => rfl) (by decide) (by decide) (by decide) (Nat.le_of_ble_eq_true rfl) (Nat.le_of_ble_eq_true rfl) d_Pl_init_15 (fun q15 H hP hD hS => ?_)
  refine W.widen (k := 2) (n := 40) (Nat.le_refl _) (Nat.le_refl _) ?_
  refine va_putF (D := (dC, dI)) (ci := 3) (v := .ref q15) (ty := (.array .int)) (C := R_Pl) (T := F_Pl) (N := 12) hx hb hts (fun w h => List.mem_cons_of_mem _ (in_Pl w h)) t_Pl t_Pl_ok n_Pl hown hK.1 hP hD hS 0 rfl rfl 3 (by decide) (hts _ (List.mem_cons_of_mem _ mw_100)) (fun _ h9 => h9) rfl hin rfl (by decide +kernel) rfl rfl (Nat.le_of_ble_eq_true rfl) d_Pl_init_17 (fun H locs hP hD hS => ?_)
  have hP : va_P (dC, dI) classes [(h0, .inr (3, [.int 0, .int 0, .ref q7, .ref q15, .null, .null, .null, .null, .null, .null, .int 0, .int 0])), (q7, .inl (cI, 20, .inl (fun _ => 0))), (q15, .inl (cI, 20, .inl (fun _ => 0)))] H := hP
  have hD : va_D A [(h0, .inr (3, [.int 0, .int 0, .ref q7, .ref q15, .null, .null, .null, .null, .null, .null, .int 0, .int 0])), (q7, .inl (cI, 20, .inl (fun _ => 0))), (q15, .inl (cI, 20, .inl (fun _ => 0)))] := hD
  refine lv_aload_n hx hb d_Pl_init_20 rfl (lv_at hl 0 rfl) ?_
  refine lv_bipush (v := 20) hx hb d_Pl_init_21 (by decide) ?_
  refine ka_newa (atype := .int) (ty := .int) (N' := 20) (a0 := (20, .inl (fun _ => 0))) hx hb (hts _ (List.mem_cons_of_mem _ mw_53)) rfl hK.1 hP hD hS hA 0 rfl (fun _ => rfl) (by decide) (by decide) (by decide) (Nat.le_of_ble_eq_true rfl) (Nat.le_of_ble_eq_true rfl) d_Pl_init_23 (fun q23 H hP hD hS => ?_)
  refine W.widen (k := 3) (n := 60) (Nat.le_refl _) (Nat.le_refl _) ?_
  refine va_putF (D := (dC, dI)) (ci := 3) (v := .ref q23) (ty := (.array .int)) (C := R_Pl) (T := F_Pl) (N := 12) hx hb hts (fun w h => List.mem_cons_of_mem _ (in_Pl w h)) t_Pl t_Pl_ok n_Pl hown hK.1 hP hD hS 0 rfl rfl 4 (by decide) (hts _ (List.mem_cons_of_mem _ mw_103)) (fun _ h9 => h9) rfl hin rfl (by decide +kernel) rfl rfl (Nat.le_of_ble_eq_true rfl) d_Pl_init_25 (fun H locs hP hD hS => ?_)
  have hP : va_P (dC, dI) classes [(h0, .inr (3, [.int 0, .int 0, .ref q7, .ref q15, .ref q23, .null, .null, .null, .null, .null, .int 0, .int 0])), (q7, .inl (cI, 20, .inl (fun _ => 0))), (q15, .inl (cI, 20, .inl (fun _ => 0))), (q23, .inl (cI, 20, .inl (fun _ => 0)))] H := hP
  have hD : va_D A [(h0, .inr (3, [.int 0, .int 0, .ref q7, .ref q15, .ref q23, .null, .null, .null, .null, .null, .int 0, .int 0])), (q7, .inl (cI, 20, .inl (fun _ => 0))), (q15, .inl (cI, 20, .inl (fun _ => 0))), (q23, .inl (cI, 20, .inl (fun _ => 0)))] := hD
  refine lv_aload_n hx hb d_Pl_init_28 rfl (lv_at hl 0 rfl) ?_
  refine lv_bipush (v := 24) hx hb d_Pl_init_29 (by decide) ?_
  refine ka_newa (atype := .int) (ty := .int) (N' := 24) (a0 := (24, .inl (fun _ => 0))) hx hb (hts _ (List.mem_cons_of_mem _ mw_53)) rfl hK.1 hP hD hS hA 0 rfl (fun _ => rfl) (by decide) (by decide) (by decide) (Nat.le_of_ble_eq_true rfl) (Nat.le_of_ble_eq_true rfl) d_Pl_init_31 (fun q31 H hP hD hS => ?_)
  refine W.widen (k := 4) (n := 84) (Nat.le_refl _) (Nat.le_refl _) ?_
  refine va_putF (D := (dC, dI)) (ci := 3) (v := .ref q31) (ty := (.array .int)) (C := R_Pl) (T := F_Pl) (N := 12) hx hb hts (fun w h => List.mem_cons_of_mem _ (in_Pl w h)) t_Pl t_Pl_ok n_Pl hown hK.1 hP hD hS 0 rfl rfl 5 (by decide) (hts _ (List.mem_cons_of_mem _ mw_105)) (fun _ h9 => h9) rfl hin rfl (by decide +kernel) rfl rfl (Nat.le_of_ble_eq_true rfl) d_Pl_init_33 (fun H locs hP hD hS => ?_)
  have hP : va_P (dC, dI) classes [(h0, .inr (3, [.int 0, .int 0, .ref q7, .ref q15, .ref q23, .ref q31, .null, .null, .null, .null, .int 0, .int 0])), (q7, .inl (cI, 20, .inl (fun _ => 0))), (q15, .inl (cI, 20, .inl (fun _ => 0))), (q23, .inl (cI, 20, .inl (fun _ => 0))), (q31, .inl (cI, 24, .inl (fun _ => 0)))] H := hP
  have hD : va_D A [(h0, .inr (3, [.int 0, .int 0, .ref q7, .ref q15, .ref q23, .ref q31, .null, .null, .null, .null, .int 0, .int 0])), (q7, .inl (cI, 20, .inl (fun _ => 0))), (q15, .inl (cI, 20, .inl (fun _ => 0))), (q23, .inl (cI, 20, .inl (fun _ => 0))), (q31, .inl (cI, 24, .inl (fun _ => 0)))] := hD
  refine lv_aload_n hx hb d_Pl_init_36 rfl (lv_at hl 0 rfl) ?_
  refine lv_bipush (v := 48) hx hb d_Pl_init_37 (by decide) ?_
  refine ka_newa (atype := .int) (ty := .int) (N' := 48) (a0 := (48, .inl (fun _ => 0))) hx hb (hts _ (List.mem_cons_of_mem _ mw_53)) rfl hK.1 hP hD hS hA 0 rfl (fun _ => rfl) (by decide) (by decide) (by decide) (Nat.le_of_ble_eq_true rfl) (Nat.le_of_ble_eq_true rfl) d_Pl_init_39 (fun q39 H hP hD hS => ?_)
  refine W.widen (k := 5) (n := 132) (Nat.le_refl _) (Nat.le_refl _) ?_
  refine va_putF (D := (dC, dI)) (ci := 3) (v := .ref q39) (ty := (.array .int)) (C := R_Pl) (T := F_Pl) (N := 12) hx hb hts (fun w h => List.mem_cons_of_mem _ (in_Pl w h)) t_Pl t_Pl_ok n_Pl hown hK.1 hP hD hS 0 rfl rfl 6 (by decide) (hts _ (List.mem_cons_of_mem _ mw_108)) (fun _ h9 => h9) rfl hin rfl (by decide +kernel) rfl rfl (Nat.le_of_ble_eq_true rfl) d_Pl_init_41 (fun H locs hP hD hS => ?_)
  have hP : va_P (dC, dI) classes [(h0, .inr (3, [.int 0, .int 0, .ref q7, .ref q15, .ref q23, .ref q31, .ref q39, .null, .null, .null, .int 0, .int 0])), (q7, .inl (cI, 20, .inl (fun _ => 0))), (q15, .inl (cI, 20, .inl (fun _ => 0))), (q23, .inl (cI, 20, .inl (fun _ => 0))), (q31, .inl (cI, 24, .inl (fun _ => 0))), (q39, .inl (cI, 48, .inl (fun _ => 0)))] H := hP
  have hD : va_D A [(h0, .inr (3, [.int 0, .int 0, .ref q7, .ref q15, .ref q23, .ref q31, .ref q39, .null, .null, .null, .int 0, .int 0])), (q7, .inl (cI, 20, .inl (fun _ => 0))), (q15, .inl (cI, 20, .inl (fun _ => 0))), (q23, .inl (cI, 20, .inl (fun _ => 0))), (q31, .inl (cI, 24, .inl (fun _ => 0))), (q39, .inl (cI, 48, .inl (fun _ => 0)))] := hD
  refine lv_aload_n hx hb d_Pl_init_44 rfl (lv_at hl 0 rfl) ?_
  refine lv_bipush (v := 48) hx hb d_Pl_init_45 (by decide) ?_
  refine ka_newa (atype := .int) (ty := .int) (N' := 48) (a0 := (48, .inl (fun _ => 0))) hx hb (hts _ (List.mem_cons_of_mem _ mw_53)) rfl hK.1 hP hD hS hA 0 rfl (fun _ => rfl) (by decide) (by decide) (by decide) (Nat.le_of_ble_eq_true rfl) (Nat.le_of_ble_eq_true rfl) d_Pl_init_47 (fun q47 H hP hD hS => ?_)
  refine W.widen (k := 6) (n := 180) (Nat.le_refl _) (Nat.le_refl _) ?_
  refine va_putF (D := (dC, dI)) (ci := 3) (v := .ref q47) (ty := (.array .int)) (C := R_Pl) (T := F_Pl) (N := 12) hx hb hts (fun w h => List.mem_cons_of_mem _ (in_Pl w h)) t_Pl t_Pl_ok n_Pl hown hK.1 hP hD hS 0 rfl rfl 7 (by decide) (hts _ (List.mem_cons_of_mem _ mw_111)) (fun _ h9 => h9) rfl hin rfl (by decide +kernel) rfl rfl (Nat.le_of_ble_eq_true rfl) d_Pl_init_49 (fun H locs hP hD hS => ?_)
  have hP : va_P (dC, dI) classes [(h0, .inr (3, [.int 0, .int 0, .ref q7, .ref q15, .ref q23, .ref q31, .ref q39, .ref q47, .null, .null, .int 0, .int 0])), (q7, .inl (cI, 20, .inl (fun _ => 0))), (q15, .inl (cI, 20, .inl (fun _ => 0))), (q23, .inl (cI, 20, .inl (fun _ => 0))), (q31, .inl (cI, 24, .inl (fun _ => 0))), (q39, .inl (cI, 48, .inl (fun _ => 0))), (q47, .inl (cI, 48, .inl (fun _ => 0)))] H := hP
  have hD : va_D A [(h0, .inr (3, [.int 0, .int 0, .ref q7, .ref q15, .ref q23, .ref q31, .ref q39, .ref q47, .null, .null, .int 0, .int 0])), (q7, .inl (cI, 20, .inl (fun _ => 0))), (q15, .inl (cI, 20, .inl (fun _ => 0))), (q23, .inl (cI, 20, .inl (fun _ => 0))), (q31, .inl (cI, 24, .inl (fun _ => 0))), (q39, .inl (cI, 48, .inl (fun _ => 0))), (q47, .inl (cI, 48, .inl (fun _ => 0)))] := hD
  refine lv_aload_n hx hb d_Pl_init_52 rfl (lv_at hl 0 rfl) ?_
  refine lv_bipush (v := 80) hx hb d_Pl_init_53 (by decide) ?_
  refine ka_newa (atype := .int) (ty := .int) (N' := 80) (a0 := (80, .inl (fun _ => 0))) hx hb (hts _ (List.mem_cons_of_mem _ mw_53)) rfl hK.1 hP hD hS hA 0 rfl (fun _ => rfl) (by decide) (by decide) (by decide) (Nat.le_of_ble_eq_true rfl) (Nat.le_of_ble_eq_true rfl) d_Pl_init_55 (fun q55 H hP hD hS => ?_)
  refine W.widen (k := 7) (n := 260) (Nat.le_refl _) (Nat.le_refl _) ?_
  refine va_putF (D := (dC, dI)) (ci := 3) (v := .ref q55) (ty := (.array .int)) (C := R_Pl) (T := F_Pl) (N := 12) hx hb hts (fun w h => List.mem_cons_of_mem _ (in_Pl w h)) t_Pl t_Pl_ok n_Pl hown hK.1 hP hD hS 0 rfl rfl 8 (by decide) (hts _ (List.mem_cons_of_mem _ mw_114)) (fun _ h9 => h9) rfl hin rfl (by decide +kernel) rfl rfl (Nat.le_of_ble_eq_true rfl) d_Pl_init_57 (fun H locs hP hD hS => ?_)
  have hP : va_P (dC, dI) classes [(h0, .inr (3, [.int 0, .int 0, .ref q7, .ref q15, .ref q23, .ref q31, .ref q39, .ref q47, .ref q55, .null, .int 0, .int 0])), (q7, .inl (cI, 20, .inl (fun _ => 0))), (q15, .inl (cI, 20, .inl (fun _ => 0))), (q23, .inl (cI, 20, .inl (fun _ => 0))), (q31, .inl (cI, 24, .inl (fun _ => 0))), (q39, .inl (cI, 48, .inl (fun _ => 0))), (q47, .inl (cI, 48, .inl (fun _ => 0))), (q55, .inl (cI, 80, .inl (fun _ => 0)))] H := hP
  have hD : va_D A [(h0, .inr (3, [.int 0, .int 0, .ref q7, .ref q15, .ref q23, .ref q31, .ref q39, .ref q47, .ref q55, .null, .int 0, .int 0])), (q7, .inl (cI, 20, .inl (fun _ => 0))), (q15, .inl (cI, 20, .inl (fun _ => 0))), (q23, .inl (cI, 20, .inl (fun _ => 0))), (q31, .inl (cI, 24, .inl (fun _ => 0))), (q39, .inl (cI, 48, .inl (fun _ => 0))), (q47, .inl (cI, 48, .inl (fun _ => 0))), (q55, .inl (cI, 80, .inl (fun _ => 0)))] := hD
  exact W.vret hx hb hr (fun t ht hW => ⟨⟨(), rfl, trivial, ⟨q7, q15, q23, q31, q39, q47, q55, by rw [ht]; exact hP, hD⟩⟩, hS.F ht⟩) hS.2.2 d_Pl_init_60
abbrev t_Ro_init_69 : List UInt8 := 177 :: []
abbrev t_Ro_init_66 : List UInt8 := 181 :: 0 :: 34 :: t_Ro_init_69
abbrev t_Ro_init_64 : List UInt8 := 188 :: 10 :: t_Ro_init_66
abbrev t_Ro_init_61 : List UInt8 := 17 :: 5 :: 120 :: t_Ro_init_64
abbrev t_Ro_init_60 : List UInt8 := 42 :: t_Ro_init_61
abbrev t_Ro_init_57 : List UInt8 := 181 :: 0 :: 31 :: t_Ro_init_60
abbrev t_Ro_init_55 : List UInt8 := 188 :: 10 :: t_Ro_init_57
abbrev t_Ro_init_53 : List UInt8 := 16 :: 41 :: t_Ro_init_55
abbrev t_Ro_init_52 : List UInt8 := 42 :: t_Ro_init_53
abbrev t_Ro_init_49 : List UInt8 := 181 :: 0 :: 28 :: t_Ro_init_52
abbrev t_Ro_init_47 : List UInt8 := 188 :: 4 :: t_Ro_init_49
abbrev t_Ro_init_45 : List UInt8 := 16 :: 40 :: t_Ro_init_47
abbrev t_Ro_init_44 : List UInt8 := 42 :: t_Ro_init_45
abbrev t_Ro_init_41 : List UInt8 := 181 :: 0 :: 25 :: t_Ro_init_44
abbrev t_Ro_init_39 : List UInt8 := 188 :: 10 :: t_Ro_init_41
abbrev t_Ro_init_37 : List UInt8 := 16 :: 40 :: t_Ro_init_39
abbrev t_Ro_init_36 : List UInt8 := 42 :: t_Ro_init_37
abbrev t_Ro_init_33 : List UInt8 := 181 :: 0 :: 22 :: t_Ro_init_36
abbrev t_Ro_init_31 : List UInt8 := 188 :: 10 :: t_Ro_init_33
abbrev t_Ro_init_29 : List UInt8 := 16 :: 40 :: t_Ro_init_31
abbrev t_Ro_init_28 : List UInt8 := 42 :: t_Ro_init_29
abbrev t_Ro_init_25 : List UInt8 := 181 :: 0 :: 19 :: t_Ro_init_28
abbrev t_Ro_init_23 : List UInt8 := 188 :: 10 :: t_Ro_init_25
abbrev t_Ro_init_21 : List UInt8 := 16 :: 40 :: t_Ro_init_23
abbrev t_Ro_init_20 : List UInt8 := 42 :: t_Ro_init_21
abbrev t_Ro_init_17 : List UInt8 := 181 :: 0 :: 15 :: t_Ro_init_20
abbrev t_Ro_init_15 : List UInt8 := 188 :: 4 :: t_Ro_init_17
abbrev t_Ro_init_13 : List UInt8 := 16 :: 40 :: t_Ro_init_15
abbrev t_Ro_init_12 : List UInt8 := 42 :: t_Ro_init_13
abbrev t_Ro_init_9 : List UInt8 := 181 :: 0 :: 9 :: t_Ro_init_12
abbrev t_Ro_init_7 : List UInt8 := 188 :: 10 :: t_Ro_init_9
abbrev t_Ro_init_5 : List UInt8 := 16 :: 40 :: t_Ro_init_7
abbrev t_Ro_init_4 : List UInt8 := 42 :: t_Ro_init_5
abbrev t_Ro_init_1 : List UInt8 := 183 :: 0 :: 3 :: t_Ro_init_4
abbrev t_Ro_init_0 : List UInt8 := 42 :: t_Ro_init_1
theorem a_Ro_init_0 : dk_at b_Ro_init 0 t_Ro_init_0 := dk_start (by decide +kernel)
theorem a_Ro_init_1 : dk_at b_Ro_init 1 t_Ro_init_1 := dk_go 1 a_Ro_init_0 rfl
theorem a_Ro_init_4 : dk_at b_Ro_init 4 t_Ro_init_4 := dk_go 3 a_Ro_init_1 rfl
theorem a_Ro_init_5 : dk_at b_Ro_init 5 t_Ro_init_5 := dk_go 1 a_Ro_init_4 rfl
theorem a_Ro_init_7 : dk_at b_Ro_init 7 t_Ro_init_7 := dk_go 2 a_Ro_init_5 rfl
theorem a_Ro_init_9 : dk_at b_Ro_init 9 t_Ro_init_9 := dk_go 2 a_Ro_init_7 rfl
theorem a_Ro_init_12 : dk_at b_Ro_init 12 t_Ro_init_12 := dk_go 3 a_Ro_init_9 rfl
theorem a_Ro_init_13 : dk_at b_Ro_init 13 t_Ro_init_13 := dk_go 1 a_Ro_init_12 rfl
theorem a_Ro_init_15 : dk_at b_Ro_init 15 t_Ro_init_15 := dk_go 2 a_Ro_init_13 rfl
theorem a_Ro_init_17 : dk_at b_Ro_init 17 t_Ro_init_17 := dk_go 2 a_Ro_init_15 rfl
theorem a_Ro_init_20 : dk_at b_Ro_init 20 t_Ro_init_20 := dk_go 3 a_Ro_init_17 rfl
theorem a_Ro_init_21 : dk_at b_Ro_init 21 t_Ro_init_21 := dk_go 1 a_Ro_init_20 rfl
theorem a_Ro_init_23 : dk_at b_Ro_init 23 t_Ro_init_23 := dk_go 2 a_Ro_init_21 rfl
theorem a_Ro_init_25 : dk_at b_Ro_init 25 t_Ro_init_25 := dk_go 2 a_Ro_init_23 rfl
theorem a_Ro_init_28 : dk_at b_Ro_init 28 t_Ro_init_28 := dk_go 3 a_Ro_init_25 rfl
theorem a_Ro_init_29 : dk_at b_Ro_init 29 t_Ro_init_29 := dk_go 1 a_Ro_init_28 rfl
theorem a_Ro_init_31 : dk_at b_Ro_init 31 t_Ro_init_31 := dk_go 2 a_Ro_init_29 rfl
theorem a_Ro_init_33 : dk_at b_Ro_init 33 t_Ro_init_33 := dk_go 2 a_Ro_init_31 rfl
theorem a_Ro_init_36 : dk_at b_Ro_init 36 t_Ro_init_36 := dk_go 3 a_Ro_init_33 rfl
theorem a_Ro_init_37 : dk_at b_Ro_init 37 t_Ro_init_37 := dk_go 1 a_Ro_init_36 rfl
theorem a_Ro_init_39 : dk_at b_Ro_init 39 t_Ro_init_39 := dk_go 2 a_Ro_init_37 rfl
theorem a_Ro_init_41 : dk_at b_Ro_init 41 t_Ro_init_41 := dk_go 2 a_Ro_init_39 rfl
theorem a_Ro_init_44 : dk_at b_Ro_init 44 t_Ro_init_44 := dk_go 3 a_Ro_init_41 rfl
theorem a_Ro_init_45 : dk_at b_Ro_init 45 t_Ro_init_45 := dk_go 1 a_Ro_init_44 rfl
theorem a_Ro_init_47 : dk_at b_Ro_init 47 t_Ro_init_47 := dk_go 2 a_Ro_init_45 rfl
theorem a_Ro_init_49 : dk_at b_Ro_init 49 t_Ro_init_49 := dk_go 2 a_Ro_init_47 rfl
theorem a_Ro_init_52 : dk_at b_Ro_init 52 t_Ro_init_52 := dk_go 3 a_Ro_init_49 rfl
theorem a_Ro_init_53 : dk_at b_Ro_init 53 t_Ro_init_53 := dk_go 1 a_Ro_init_52 rfl
theorem a_Ro_init_55 : dk_at b_Ro_init 55 t_Ro_init_55 := dk_go 2 a_Ro_init_53 rfl
theorem a_Ro_init_57 : dk_at b_Ro_init 57 t_Ro_init_57 := dk_go 2 a_Ro_init_55 rfl
theorem a_Ro_init_60 : dk_at b_Ro_init 60 t_Ro_init_60 := dk_go 3 a_Ro_init_57 rfl
theorem a_Ro_init_61 : dk_at b_Ro_init 61 t_Ro_init_61 := dk_go 1 a_Ro_init_60 rfl
theorem a_Ro_init_64 : dk_at b_Ro_init 64 t_Ro_init_64 := dk_go 3 a_Ro_init_61 rfl
theorem a_Ro_init_66 : dk_at b_Ro_init 66 t_Ro_init_66 := dk_go 2 a_Ro_init_64 rfl
theorem a_Ro_init_69 : dk_at b_Ro_init 69 t_Ro_init_69 := dk_go 3 a_Ro_init_66 rfl
theorem d_Ro_init_0 : decode b_Ro_init 0 = .ok (.aload_n 0, 1) := dk_0 a_Ro_init_0 (dko_42 _)
theorem d_Ro_init_1 : decode b_Ro_init 1 = .ok (.invokespecial 3, 3) := dk_U2 a_Ro_init_1 (dko_183 _) rfl
theorem d_Ro_init_4 : decode b_Ro_init 4 = .ok (.aload_n 0, 1) := dk_0 a_Ro_init_4 (dko_42 _)
theorem d_Ro_init_5 : decode b_Ro_init 5 = .ok (.bipush 40, 2) := dk_S1 a_Ro_init_5 (dko_16 _) (by decide +kernel)
theorem d_Ro_init_7 : decode b_Ro_init 7 = .ok (.newarray .int, 2) := dk_N a_Ro_init_7 (dko_188 _) rfl
theorem d_Ro_init_9 : decode b_Ro_init 9 = .ok (.putfield 9, 3) := dk_U2 a_Ro_init_9 (dko_181 _) rfl
theorem d_Ro_init_12 : decode b_Ro_init 12 = .ok (.aload_n 0, 1) := dk_0 a_Ro_init_12 (dko_42 _)
theorem d_Ro_init_13 : decode b_Ro_init 13 = .ok (.bipush 40, 2) := dk_S1 a_Ro_init_13 (dko_16 _) (by decide +kernel)
theorem d_Ro_init_15 : decode b_Ro_init 15 = .ok (.newarray .boolean, 2) := dk_N a_Ro_init_15 (dko_188 _) rfl
theorem d_Ro_init_17 : decode b_Ro_init 17 = .ok (.putfield 15, 3) := dk_U2 a_Ro_init_17 (dko_181 _) rfl
theorem d_Ro_init_20 : decode b_Ro_init 20 = .ok (.aload_n 0, 1) := dk_0 a_Ro_init_20 (dko_42 _)
theorem d_Ro_init_21 : decode b_Ro_init 21 = .ok (.bipush 40, 2) := dk_S1 a_Ro_init_21 (dko_16 _) (by decide +kernel)
theorem d_Ro_init_23 : decode b_Ro_init 23 = .ok (.newarray .int, 2) := dk_N a_Ro_init_23 (dko_188 _) rfl
theorem d_Ro_init_25 : decode b_Ro_init 25 = .ok (.putfield 19, 3) := dk_U2 a_Ro_init_25 (dko_181 _) rfl
theorem d_Ro_init_28 : decode b_Ro_init 28 = .ok (.aload_n 0, 1) := dk_0 a_Ro_init_28 (dko_42 _)
theorem d_Ro_init_29 : decode b_Ro_init 29 = .ok (.bipush 40, 2) := dk_S1 a_Ro_init_29 (dko_16 _) (by decide +kernel)
theorem d_Ro_init_31 : decode b_Ro_init 31 = .ok (.newarray .int, 2) := dk_N a_Ro_init_31 (dko_188 _) rfl
theorem d_Ro_init_33 : decode b_Ro_init 33 = .ok (.putfield 22, 3) := dk_U2 a_Ro_init_33 (dko_181 _) rfl
theorem d_Ro_init_36 : decode b_Ro_init 36 = .ok (.aload_n 0, 1) := dk_0 a_Ro_init_36 (dko_42 _)
theorem d_Ro_init_37 : decode b_Ro_init 37 = .ok (.bipush 40, 2) := dk_S1 a_Ro_init_37 (dko_16 _) (by decide +kernel)
theorem d_Ro_init_39 : decode b_Ro_init 39 = .ok (.newarray .int, 2) := dk_N a_Ro_init_39 (dko_188 _) rfl
theorem d_Ro_init_41 : decode b_Ro_init 41 = .ok (.putfield 25, 3) := dk_U2 a_Ro_init_41 (dko_181 _) rfl
theorem d_Ro_init_44 : decode b_Ro_init 44 = .ok (.aload_n 0, 1) := dk_0 a_Ro_init_44 (dko_42 _)
theorem d_Ro_init_45 : decode b_Ro_init 45 = .ok (.bipush 40, 2) := dk_S1 a_Ro_init_45 (dko_16 _) (by decide +kernel)
theorem d_Ro_init_47 : decode b_Ro_init 47 = .ok (.newarray .boolean, 2) := dk_N a_Ro_init_47 (dko_188 _) rfl
theorem d_Ro_init_49 : decode b_Ro_init 49 = .ok (.putfield 28, 3) := dk_U2 a_Ro_init_49 (dko_181 _) rfl
theorem d_Ro_init_52 : decode b_Ro_init 52 = .ok (.aload_n 0, 1) := dk_0 a_Ro_init_52 (dko_42 _)
theorem d_Ro_init_53 : decode b_Ro_init 53 = .ok (.bipush 41, 2) := dk_S1 a_Ro_init_53 (dko_16 _) (by decide +kernel)
theorem d_Ro_init_55 : decode b_Ro_init 55 = .ok (.newarray .int, 2) := dk_N a_Ro_init_55 (dko_188 _) rfl
theorem d_Ro_init_57 : decode b_Ro_init 57 = .ok (.putfield 31, 3) := dk_U2 a_Ro_init_57 (dko_181 _) rfl
theorem d_Ro_init_60 : decode b_Ro_init 60 = .ok (.aload_n 0, 1) := dk_0 a_Ro_init_60 (dko_42 _)
theorem d_Ro_init_61 : decode b_Ro_init 61 = .ok (.sipush 1400, 3) := dk_S2 a_Ro_init_61 (dko_17 _) (by decide +kernel)
theorem d_Ro_init_64 : decode b_Ro_init 64 = .ok (.newarray .int, 2) := dk_N a_Ro_init_64 (dko_188 _) rfl
theorem d_Ro_init_66 : decode b_Ro_init 66 = .ok (.putfield 34, 3) := dk_U2 a_Ro_init_66 (dko_181 _) rfl
theorem d_Ro_init_69 : decode b_Ro_init 69 = .ok (.return_, 1) := dk_0 a_Ro_init_69 (dko_177 _)
set_option maxHeartbeats 4000000 in
set_option maxRecDepth 100000 in
theorem c_Ro_init (l : Launch) (dC : Nat → ClassId) (dI : Nat → Nat → Nat) (cI cB cZ cJ : ClassId) (h0 : Nat) (sz : Nat) : Met l y_Ro_init w_Ro_init ({ frames := 1, cells := 8, slots := 1681, locals := 20 }) (va_Pc [.ref h0] (PW dC dI cI cB cZ cJ [(h0, .inr (7, [.int 0, .int 0, .null, .null, .null, .null, .null, .null, .null, .null, .int 0, .null, .int 0, .int 0, .int 0, .int 0, .int 0, .int 0]))] sz)) (va_Qv (fun _ : Unit => True) (fun (_ : Unit) (t : State) => ∃ q7 q15 q23 q31 q39 q47 q55 q64 : Nat, va_P (dC, dI) classes [(h0, .inr (7, [.int 0, .int 0, .ref q7, .ref q15, .ref q23, .ref q31, .ref q39, .ref q47, .ref q55, .ref q64, .int 0, .null, .int 0, .int 0, .int 0, .int 0, .int 0, .int 0])), (q7, .inl (cI, 40, .inl (fun _ => 0))), (q15, .inl (cZ, 40, .inl (fun _ => 0))), (q23, .inl (cI, 40, .inl (fun _ => 0))), (q31, .inl (cI, 40, .inl (fun _ => 0))), (q39, .inl (cI, 40, .inl (fun _ => 0))), (q47, .inl (cZ, 40, .inl (fun _ => 0))), (q55, .inl (cI, 41, .inl (fun _ => 0))), (q64, .inl (cI, 1400, .inl (fun _ => 0)))] t.heap ∧ va_D (va_A [(h0, .inr (7, [.int 0, .int 0, .null, .null, .null, .null, .null, .null, .null, .null, .int 0, .null, .int 0, .int 0, .int 0, .int 0, .int 0, .int 0]))] sz) [(h0, .inr (7, [.int 0, .int 0, .ref q7, .ref q15, .ref q23, .ref q31, .ref q39, .ref q47, .ref q55, .ref q64, .int 0, .null, .int 0, .int 0, .int 0, .int 0, .int 0, .int 0])), (q7, .inl (cI, 40, .inl (fun _ => 0))), (q15, .inl (cZ, 40, .inl (fun _ => 0))), (q23, .inl (cI, 40, .inl (fun _ => 0))), (q31, .inl (cI, 40, .inl (fun _ => 0))), (q39, .inl (cI, 40, .inl (fun _ => 0))), (q47, .inl (cZ, 40, .inl (fun _ => 0))), (q55, .inl (cI, 41, .inl (fun _ => 0))), (q64, .inl (cI, 1400, .inl (fun _ => 0)))]) (va_A [(h0, .inr (7, [.int 0, .int 0, .null, .null, .null, .null, .null, .null, .null, .null, .int 0, .null, .int 0, .int 0, .int 0, .int 0, .int 0, .int 0]))] sz)) 8 1681 (va_A [(h0, .inr (7, [.int 0, .int 0, .null, .null, .null, .null, .null, .null, .null, .null, .int 0, .null, .int 0, .int 0, .int 0, .int 0, .int 0, .int 0]))] sz) := by
  refine Met.ofW (cc := b_Ro_init) (maxL := 1) (ret := none) (by decide) rfl ?_
  intro p e s m args below meth c s₁ B hml hv
  obtain ⟨rfl, hsz, hP, hK, hD⟩ := hv
  have hx := B.exec
  have hb := B.bytes
  have hr := B.returns
  have hts := atoms_spec (ws := w_Ro_init) B.pre
  have hown : s.vm.findClass R_Ro = some m.cls := findClass_of_methodNamed B.named
  have hlocks := B.notSynchronized
  have hin : meth.name = "<init>" := (name_of_methodNamed B.named B.method).1
  subst hsz
  have hD := hD.self (sz := s.heap.size)
  generalize hAe : va_A [(h0, .inr (7, [.int 0, .int 0, .null, .null, .null, .null, .null, .null, .null, .null, .int 0, .null, .int 0, .int 0, .int 0, .int 0, .int 0, .int 0]))] s.heap.size = A at hD ⊢
  have hA : ∀ q : Nat, s.heap.size ≤ q → A q := fun q h => by rw [← hAe]; exact Or.inr h
  have hS : va_S A s.heap s.heap [] := va_S.rf
  have hP : va_P (dC, dI) classes [(h0, .inr (7, [.int 0, .int 0, .null, .null, .null, .null, .null, .null, .null, .null, .int 0, .null, .int 0, .int 0, .int 0, .int 0, .int 0, .int 0]))] s.heap := hP
  have hl := lv_entry ([.ref h0]) (n := 1) (Nat.le_of_ble_eq_true rfl)
  rw [lg_entry_eq]
  generalize (lg_sl ([.ref h0]) ++ List.replicate (1 - (lg_sl ([.ref h0])).length) Slot.unset).toArray = ls at hl ⊢
  have hl : lv_has ls 1 [(0, .ref h0)] := hl
  refine lv_aload_n hx hb d_Ro_init_0 rfl (lv_at hl 0 rfl) ?_
  refine W.objInit hx hb hown (hts _ (List.mem_cons_of_mem _ mw_328)) (hts _ (List.mem_cons_of_mem _ mw_30)) (hts _ (List.mem_cons_of_mem _ mw_31)) rfl (by rw [hml]; exact hl.1) rfl d_Ro_init_1 (Nat.le_of_ble_eq_true rfl) (Nat.le_of_ble_eq_true rfl) ?_
  refine W.eq (g2 := F0 m 4 ls []) rfl ?_
  refine lv_aload_n hx hb d_Ro_init_4 rfl (lv_at hl 0 rfl) ?_
  refine lv_bipush (v := 40) hx hb d_Ro_init_5 (by decide) ?_
  refine ka_newa (atype := .int) (ty := .int) (N' := 40) (a0 := (40, .inl (fun _ => 0))) hx hb (hts _ (List.mem_cons_of_mem _ mw_53)) rfl hK.1 hP hD hS hA 0 rfl (fun _ => rfl) (by decide) (by decide) (by decide) (Nat.le_of_ble_eq_true rfl) (Nat.le_of_ble_eq_true rfl) d_Ro_init_7 (fun q7 H hP hD hS => ?_)
  refine W.widen (k := 1) (n := 40) (Nat.le_refl _) (Nat.le_refl _) ?_
  refine va_putF (D := (dC, dI)) (ci := 7) (v := .ref q7) (ty := (.array .int)) (C := R_Ro) (T := F_Ro) (N := 18) hx hb hts (fun w h => List.mem_cons_of_mem _ (in_Ro w h)) t_Ro t_Ro_ok n_Ro hown hK.1 hP hD hS 0 rfl rfl 2 (by decide) (hts _ (List.mem_cons_of_mem _ mw_333)) (fun _ h9 => h9) rfl hin rfl (by decide +kernel) rfl rfl (Nat.le_of_ble_eq_true rfl) d_Ro_init_9 (fun H locs hP hD hS => ?_)
  have hP : va_P (dC, dI) classes [(h0, .inr (7, [.int 0, .int 0, .ref q7, .null, .null, .null, .null, .null, .null, .null, .int 0, .null, .int 0, .int 0, .int 0, .int 0, .int 0, .int 0])), (q7, .inl (cI, 40, .inl (fun _ => 0)))] H := hP
  have hD : va_D A [(h0, .inr (7, [.int 0, .int 0, .ref q7, .null, .null, .null, .null, .null, .null, .null, .int 0, .null, .int 0, .int 0, .int 0, .int 0, .int 0, .int 0])), (q7, .inl (cI, 40, .inl (fun _ => 0)))] := hD
  refine lv_aload_n hx hb d_Ro_init_12 rfl (lv_at hl 0 rfl) ?_
  refine lv_bipush (v := 40) hx hb d_Ro_init_13 (by decide) ?_
  refine ka_newa (atype := .boolean) (ty := .boolean) (N' := 40) (a0 := (40, .inl (fun _ => 0))) hx hb (hts _ (List.mem_cons_of_mem _ mw_275)) rfl hK.1 hP hD hS hA 2 rfl (fun _ => rfl) (by decide) (by decide) (by decide) (Nat.le_of_ble_eq_true rfl) (Nat.le_of_ble_eq_true rfl) d_Ro_init_15 (fun q15 H hP hD hS => ?_)
  refine W.widen (k := 2) (n := 80) (Nat.le_refl _) (Nat.le_refl _) ?_
  refine va_putF (D := (dC, dI)) (ci := 7) (v := .ref q15) (ty := (.array .boolean)) (C := R_Ro) (T := F_Ro) (N := 18) hx hb hts (fun w h => List.mem_cons_of_mem _ (in_Ro w h)) t_Ro t_Ro_ok n_Ro hown hK.1 hP hD hS 0 rfl rfl 3 (by decide) (hts _ (List.mem_cons_of_mem _ mw_335)) (fun _ h9 => h9) rfl hin rfl (by decide +kernel) rfl rfl (Nat.le_of_ble_eq_true rfl) d_Ro_init_17 (fun H locs hP hD hS => ?_)
  have hP : va_P (dC, dI) classes [(h0, .inr (7, [.int 0, .int 0, .ref q7, .ref q15, .null, .null, .null, .null, .null, .null, .int 0, .null, .int 0, .int 0, .int 0, .int 0, .int 0, .int 0])), (q7, .inl (cI, 40, .inl (fun _ => 0))), (q15, .inl (cZ, 40, .inl (fun _ => 0)))] H := hP
  have hD : va_D A [(h0, .inr (7, [.int 0, .int 0, .ref q7, .ref q15, .null, .null, .null, .null, .null, .null, .int 0, .null, .int 0, .int 0, .int 0, .int 0, .int 0, .int 0])), (q7, .inl (cI, 40, .inl (fun _ => 0))), (q15, .inl (cZ, 40, .inl (fun _ => 0)))] := hD
  refine lv_aload_n hx hb d_Ro_init_20 rfl (lv_at hl 0 rfl) ?_
  refine lv_bipush (v := 40) hx hb d_Ro_init_21 (by decide) ?_
  refine ka_newa (atype := .int) (ty := .int) (N' := 40) (a0 := (40, .inl (fun _ => 0))) hx hb (hts _ (List.mem_cons_of_mem _ mw_53)) rfl hK.1 hP hD hS hA 0 rfl (fun _ => rfl) (by decide) (by decide) (by decide) (Nat.le_of_ble_eq_true rfl) (Nat.le_of_ble_eq_true rfl) d_Ro_init_23 (fun q23 H hP hD hS => ?_)
  refine W.widen (k := 3) (n := 120) (Nat.le_refl _) (Nat.le_refl _) ?_
  refine va_putF (D := (dC, dI)) (ci := 7) (v := .ref q23) (ty := (.array .int)) (C := R_Ro) (T := F_Ro) (N := 18) hx hb hts (fun w h => List.mem_cons_of_mem _ (in_Ro w h)) t_Ro t_Ro_ok n_Ro hown hK.1 hP hD hS 0 rfl rfl 4 (by decide) (hts _ (List.mem_cons_of_mem _ mw_337)) (fun _ h9 => h9) rfl hin rfl (by decide +kernel) rfl rfl (Nat.le_of_ble_eq_true rfl) d_Ro_init_25 (fun H locs hP hD hS => ?_)
  have hP : va_P (dC, dI) classes [(h0, .inr (7, [.int 0, .int 0, .ref q7, .ref q15, .ref q23, .null, .null, .null, .null, .null, .int 0, .null, .int 0, .int 0, .int 0, .int 0, .int 0, .int 0])), (q7, .inl (cI, 40, .inl (fun _ => 0))), (q15, .inl (cZ, 40, .inl (fun _ => 0))), (q23, .inl (cI, 40, .inl (fun _ => 0)))] H := hP
  have hD : va_D A [(h0, .inr (7, [.int 0, .int 0, .ref q7, .ref q15, .ref q23, .null, .null, .null, .null, .null, .int 0, .null, .int 0, .int 0, .int 0, .int 0, .int 0, .int 0])), (q7, .inl (cI, 40, .inl (fun _ => 0))), (q15, .inl (cZ, 40, .inl (fun _ => 0))), (q23, .inl (cI, 40, .inl (fun _ => 0)))] := hD
  refine lv_aload_n hx hb d_Ro_init_28 rfl (lv_at hl 0 rfl) ?_
  refine lv_bipush (v := 40) hx hb d_Ro_init_29 (by decide) ?_
  refine ka_newa (atype := .int) (ty := .int) (N' := 40) (a0 := (40, .inl (fun _ => 0))) hx hb (hts _ (List.mem_cons_of_mem _ mw_53)) rfl hK.1 hP hD hS hA 0 rfl (fun _ => rfl) (by decide) (by decide) (by decide) (Nat.le_of_ble_eq_true rfl) (Nat.le_of_ble_eq_true rfl) d_Ro_init_31 (fun q31 H hP hD hS => ?_)
  refine W.widen (k := 4) (n := 160) (Nat.le_refl _) (Nat.le_refl _) ?_
  refine va_putF (D := (dC, dI)) (ci := 7) (v := .ref q31) (ty := (.array .int)) (C := R_Ro) (T := F_Ro) (N := 18) hx hb hts (fun w h => List.mem_cons_of_mem _ (in_Ro w h)) t_Ro t_Ro_ok n_Ro hown hK.1 hP hD hS 0 rfl rfl 5 (by decide) (hts _ (List.mem_cons_of_mem _ mw_339)) (fun _ h9 => h9) rfl hin rfl (by decide +kernel) rfl rfl (Nat.le_of_ble_eq_true rfl) d_Ro_init_33 (fun H locs hP hD hS => ?_)
  have hP : va_P (dC, dI) classes [(h0, .inr (7, [.int 0, .int 0, .ref q7, .ref q15, .ref q23, .ref q31, .null, .null, .null, .null, .int 0, .null, .int 0, .int 0, .int 0, .int 0, .int 0, .int 0])), (q7, .inl (cI, 40, .inl (fun _ => 0))), (q15, .inl (cZ, 40, .inl (fun _ => 0))), (q23, .inl (cI, 40, .inl (fun _ => 0))), (q31, .inl (cI, 40, .inl (fun _ => 0)))] H := hP
  have hD : va_D A [(h0, .inr (7, [.int 0, .int 0, .ref q7, .ref q15, .ref q23, .ref q31, .null, .null, .null, .null, .int 0, .null, .int 0, .int 0, .int 0, .int 0, .int 0, .int 0])), (q7, .inl (cI, 40, .inl (fun _ => 0))), (q15, .inl (cZ, 40, .inl (fun _ => 0))), (q23, .inl (cI, 40, .inl (fun _ => 0))), (q31, .inl (cI, 40, .inl (fun _ => 0)))] := hD
  refine lv_aload_n hx hb d_Ro_init_36 rfl (lv_at hl 0 rfl) ?_
  refine lv_bipush (v := 40) hx hb d_Ro_init_37 (by decide) ?_
  refine ka_newa (atype := .int) (ty := .int) (N' := 40) (a0 := (40, .inl (fun _ => 0))) hx hb (hts _ (List.mem_cons_of_mem _ mw_53)) rfl hK.1 hP hD hS hA 0 rfl (fun _ => rfl) (by decide) (by decide) (by decide) (Nat.le_of_ble_eq_true rfl) (Nat.le_of_ble_eq_true rfl) d_Ro_init_39 (fun q39 H hP hD hS => ?_)
  refine W.widen (k := 5) (n := 200) (Nat.le_refl _) (Nat.le_refl _) ?_
  refine va_putF (D := (dC, dI)) (ci := 7) (v := .ref q39) (ty := (.array .int)) (C := R_Ro) (T := F_Ro) (N := 18) hx hb hts (fun w h => List.mem_cons_of_mem _ (in_Ro w h)) t_Ro t_Ro_ok n_Ro hown hK.1 hP hD hS 0 rfl rfl 6 (by decide) (hts _ (List.mem_cons_of_mem _ mw_340)) (fun _ h9 => h9) rfl hin rfl (by decide +kernel) rfl rfl (Nat.le_of_ble_eq_true rfl) d_Ro_init_41 (fun H locs hP hD hS => ?_)
  have hP : va_P (dC, dI) classes [(h0, .inr (7, [.int 0, .int 0, .ref q7, .ref q15, .ref q23, .ref q31, .ref q39, .null, .null, .null, .int 0, .null, .int 0, .int 0, .int 0, .int 0, .int 0, .int 0])), (q7, .inl (cI, 40, .inl (fun _ => 0))), (q15, .inl (cZ, 40, .inl (fun _ => 0))), (q23, .inl (cI, 40, .inl (fun _ => 0))), (q31, .inl (cI, 40, .inl (fun _ => 0))), (q39, .inl (cI, 40, .inl (fun _ => 0)))] H := hP
  have hD : va_D A [(h0, .inr (7, [.int 0, .int 0, .ref q7, .ref q15, .ref q23, .ref q31, .ref q39, .null, .null, .null, .int 0, .null, .int 0, .int 0, .int 0, .int 0, .int 0, .int 0])), (q7, .inl (cI, 40, .inl (fun _ => 0))), (q15, .inl (cZ, 40, .inl (fun _ => 0))), (q23, .inl (cI, 40, .inl (fun _ => 0))), (q31, .inl (cI, 40, .inl (fun _ => 0))), (q39, .inl (cI, 40, .inl (fun _ => 0)))] := hD
  refine lv_aload_n hx hb d_Ro_init_44 rfl (lv_at hl 0 rfl) ?_
  refine lv_bipush (v := 40) hx hb d_Ro_init_45 (by decide) ?_
  refine ka_newa (atype := .boolean) (ty := .boolean) (N' := 40) (a0 := (40, .inl (fun _ => 0))) hx hb (hts _ (List.mem_cons_of_mem _ mw_275)) rfl hK.1 hP hD hS hA 2 rfl (fun _ => rfl) (by decide) (by decide) (by decide) (Nat.le_of_ble_eq_true rfl) (Nat.le_of_ble_eq_true rfl) d_Ro_init_47 (fun q47 H hP hD hS => ?_)
  refine W.widen (k := 6) (n := 240) (Nat.le_refl _) (Nat.le_refl _) ?_
  refine va_putF (D := (dC, dI)) (ci := 7) (v := .ref q47) (ty := (.array .boolean)) (C := R_Ro) (T := F_Ro) (N := 18) hx hb hts (fun w h => List.mem_cons_of_mem _ (in_Ro w h)) t_Ro t_Ro_ok n_Ro hown hK.1 hP hD hS 0 rfl rfl 7 (by decide) (hts _ (List.mem_cons_of_mem _ mw_341)) (fun _ h9 => h9) rfl hin rfl (by decide +kernel) rfl rfl (Nat.le_of_ble_eq_true rfl) d_Ro_init_49 (fun H locs hP hD hS => ?_)
  have hP : va_P (dC, dI) classes [(h0, .inr (7, [.int 0, .int 0, .ref q7, .ref q15, .ref q23, .ref q31, .ref q39, .ref q47, .null, .null, .int 0, .null, .int 0, .int 0, .int 0, .int 0, .int 0, .int 0])), (q7, .inl (cI, 40, .inl (fun _ => 0))), (q15, .inl (cZ, 40, .inl (fun _ => 0))), (q23, .inl (cI, 40, .inl (fun _ => 0))), (q31, .inl (cI, 40, .inl (fun _ => 0))), (q39, .inl (cI, 40, .inl (fun _ => 0))), (q47, .inl (cZ, 40, .inl (fun _ => 0)))] H := hP
  have hD : va_D A [(h0, .inr (7, [.int 0, .int 0, .ref q7, .ref q15, .ref q23, .ref q31, .ref q39, .ref q47, .null, .null, .int 0, .null, .int 0, .int 0, .int 0, .int 0, .int 0, .int 0])), (q7, .inl (cI, 40, .inl (fun _ => 0))), (q15, .inl (cZ, 40, .inl (fun _ => 0))), (q23, .inl (cI, 40, .inl (fun _ => 0))), (q31, .inl (cI, 40, .inl (fun _ => 0))), (q39, .inl (cI, 40, .inl (fun _ => 0))), (q47, .inl (cZ, 40, .inl (fun _ => 0)))] := hD
  refine lv_aload_n hx hb d_Ro_init_52 rfl (lv_at hl 0 rfl) ?_
  refine lv_bipush (v := 41) hx hb d_Ro_init_53 (by decide) ?_
  refine ka_newa (atype := .int) (ty := .int) (N' := 41) (a0 := (41, .inl (fun _ => 0))) hx hb (hts _ (List.mem_cons_of_mem _ mw_53)) rfl hK.1 hP hD hS hA 0 rfl (fun _ => rfl) (by decide) (by decide) (by decide) (Nat.le_of_ble_eq_true rfl) (Nat.le_of_ble_eq_true rfl) d_Ro_init_55 (fun q55 H hP hD hS => ?_)
  refine W.widen (k := 7) (n := 281) (Nat.le_refl _) (Nat.le_refl _) ?_
  refine va_putF (D := (dC, dI)) (ci := 7) (v := .ref q55) (ty := (.array .int)) (C := R_Ro) (T := F_Ro) (N := 18) hx hb hts (fun w h => List.mem_cons_of_mem _ (in_Ro w h)) t_Ro t_Ro_ok n_Ro hown hK.1 hP hD hS 0 rfl rfl 8 (by decide) (hts _ (List.mem_cons_of_mem _ mw_342)) (fun _ h9 => h9) rfl hin rfl (by decide +kernel) rfl rfl (Nat.le_of_ble_eq_true rfl) d_Ro_init_57 (fun H locs hP hD hS => ?_)
  have hP : va_P (dC, dI) classes [(h0, .inr (7, [.int 0, .int 0, .ref q7, .ref q15, .ref q23, .ref q31, .ref q39, .ref q47, .ref q55, .null, .int 0, .null, .int 0, .int 0, .int 0, .int 0, .int 0, .int 0])), (q7, .inl (cI, 40, .inl (fun _ => 0))), (q15, .inl (cZ, 40, .inl (fun _ => 0))), (q23, .inl (cI, 40, .inl (fun _ => 0))), (q31, .inl (cI, 40, .inl (fun _ => 0))), (q39, .inl (cI, 40, .inl (fun _ => 0))), (q47, .inl (cZ, 40, .inl (fun _ => 0))), (q55, .inl (cI, 41, .inl (fun _ => 0)))] H := hP
  have hD : va_D A [(h0, .inr (7, [.int 0, .int 0, .ref q7, .ref q15, .ref q23, .ref q31, .ref q39, .ref q47, .ref q55, .null, .int 0, .null, .int 0, .int 0, .int 0, .int 0, .int 0, .int 0])), (q7, .inl (cI, 40, .inl (fun _ => 0))), (q15, .inl (cZ, 40, .inl (fun _ => 0))), (q23, .inl (cI, 40, .inl (fun _ => 0))), (q31, .inl (cI, 40, .inl (fun _ => 0))), (q39, .inl (cI, 40, .inl (fun _ => 0))), (q47, .inl (cZ, 40, .inl (fun _ => 0))), (q55, .inl (cI, 41, .inl (fun _ => 0)))] := hD
  refine lv_aload_n hx hb d_Ro_init_60 rfl (lv_at hl 0 rfl) ?_
  refine lv_sipush (v := 1400) hx hb d_Ro_init_61 (by decide) ?_
  refine ka_newa (atype := .int) (ty := .int) (N' := 1400) (a0 := (1400, .inl (fun _ => 0))) hx hb (hts _ (List.mem_cons_of_mem _ mw_53)) rfl hK.1 hP hD hS hA 0 rfl (fun _ => rfl) (by decide) (by decide) (by decide) (Nat.le_of_ble_eq_true rfl) (Nat.le_of_ble_eq_true rfl) d_Ro_init_64 (fun q64 H hP hD hS => ?_)
  refine W.widen (k := 8) (n := 1681) (Nat.le_refl _) (Nat.le_refl _) ?_
  refine va_putF (D := (dC, dI)) (ci := 7) (v := .ref q64) (ty := (.array .int)) (C := R_Ro) (T := F_Ro) (N := 18) hx hb hts (fun w h => List.mem_cons_of_mem _ (in_Ro w h)) t_Ro t_Ro_ok n_Ro hown hK.1 hP hD hS 0 rfl rfl 9 (by decide) (hts _ (List.mem_cons_of_mem _ mw_343)) (fun _ h9 => h9) rfl hin rfl (by decide +kernel) rfl rfl (Nat.le_of_ble_eq_true rfl) d_Ro_init_66 (fun H locs hP hD hS => ?_)
  have hP : va_P (dC, dI) classes [(h0, .inr (7, [.int 0, .int 0, .ref q7, .ref q15, .ref q23, .ref q31, .ref q39, .ref q47, .ref q55, .ref q64, .int 0, .null, .int 0, .int 0, .int 0, .int 0, .int 0, .int 0])), (q7, .inl (cI, 40, .inl (fun _ => 0))), (q15, .inl (cZ, 40, .inl (fun _ => 0))), (q23, .inl (cI, 40, .inl (fun _ => 0))), (q31, .inl (cI, 40, .inl (fun _ => 0))), (q39, .inl (cI, 40, .inl (fun _ => 0))), (q47, .inl (cZ, 40, .inl (fun _ => 0))), (q55, .inl (cI, 41, .inl (fun _ => 0))), (q64, .inl (cI, 1400, .inl (fun _ => 0)))] H := hP
  have hD : va_D A [(h0, .inr (7, [.int 0, .int 0, .ref q7, .ref q15, .ref q23, .ref q31, .ref q39, .ref q47, .ref q55, .ref q64, .int 0, .null, .int 0, .int 0, .int 0, .int 0, .int 0, .int 0])), (q7, .inl (cI, 40, .inl (fun _ => 0))), (q15, .inl (cZ, 40, .inl (fun _ => 0))), (q23, .inl (cI, 40, .inl (fun _ => 0))), (q31, .inl (cI, 40, .inl (fun _ => 0))), (q39, .inl (cI, 40, .inl (fun _ => 0))), (q47, .inl (cZ, 40, .inl (fun _ => 0))), (q55, .inl (cI, 41, .inl (fun _ => 0))), (q64, .inl (cI, 1400, .inl (fun _ => 0)))] := hD
  exact W.vret hx hb hr (fun t ht hW => ⟨⟨(), rfl, trivial, ⟨q7, q15, q23, q31, q39, q47, q55, q64, by rw [ht]; exact hP, hD⟩⟩, hS.F ht⟩) hS.2.2 d_Ro_init_69
abbrev t_Pr_init_128 : List UInt8 := 177 :: []
abbrev t_Pr_init_125 : List UInt8 := 181 :: 0 :: 56 :: t_Pr_init_128
abbrev t_Pr_init_123 : List UInt8 := 188 :: 10 :: t_Pr_init_125
abbrev t_Pr_init_121 : List UInt8 := 16 :: 40 :: t_Pr_init_123
abbrev t_Pr_init_120 : List UInt8 := 42 :: t_Pr_init_121
abbrev t_Pr_init_117 : List UInt8 := 181 :: 0 :: 53 :: t_Pr_init_120
abbrev t_Pr_init_115 : List UInt8 := 188 :: 10 :: t_Pr_init_117
abbrev t_Pr_init_113 : List UInt8 := 16 :: 40 :: t_Pr_init_115
abbrev t_Pr_init_112 : List UInt8 := 42 :: t_Pr_init_113
abbrev t_Pr_init_109 : List UInt8 := 181 :: 0 :: 50 :: t_Pr_init_112
abbrev t_Pr_init_107 : List UInt8 := 188 :: 11 :: t_Pr_init_109
abbrev t_Pr_init_105 : List UInt8 := 16 :: 40 :: t_Pr_init_107
abbrev t_Pr_init_104 : List UInt8 := 42 :: t_Pr_init_105
abbrev t_Pr_init_101 : List UInt8 := 181 :: 0 :: 47 :: t_Pr_init_104
abbrev t_Pr_init_99 : List UInt8 := 188 :: 10 :: t_Pr_init_101
abbrev t_Pr_init_97 : List UInt8 := 16 :: 40 :: t_Pr_init_99
abbrev t_Pr_init_96 : List UInt8 := 42 :: t_Pr_init_97
abbrev t_Pr_init_93 : List UInt8 := 181 :: 0 :: 44 :: t_Pr_init_96
abbrev t_Pr_init_91 : List UInt8 := 188 :: 10 :: t_Pr_init_93
abbrev t_Pr_init_89 : List UInt8 := 16 :: 40 :: t_Pr_init_91
abbrev t_Pr_init_88 : List UInt8 := 42 :: t_Pr_init_89
abbrev t_Pr_init_85 : List UInt8 := 181 :: 0 :: 41 :: t_Pr_init_88
abbrev t_Pr_init_83 : List UInt8 := 188 :: 10 :: t_Pr_init_85
abbrev t_Pr_init_81 : List UInt8 := 16 :: 40 :: t_Pr_init_83
abbrev t_Pr_init_80 : List UInt8 := 42 :: t_Pr_init_81
abbrev t_Pr_init_77 : List UInt8 := 181 :: 0 :: 38 :: t_Pr_init_80
abbrev t_Pr_init_75 : List UInt8 := 188 :: 11 :: t_Pr_init_77
abbrev t_Pr_init_73 : List UInt8 := 16 :: 40 :: t_Pr_init_75
abbrev t_Pr_init_72 : List UInt8 := 42 :: t_Pr_init_73
abbrev t_Pr_init_69 : List UInt8 := 181 :: 0 :: 34 :: t_Pr_init_72
abbrev t_Pr_init_67 : List UInt8 := 188 :: 11 :: t_Pr_init_69
abbrev t_Pr_init_64 : List UInt8 := 17 :: 1 :: 45 :: t_Pr_init_67
abbrev t_Pr_init_63 : List UInt8 := 42 :: t_Pr_init_64
abbrev t_Pr_init_60 : List UInt8 := 181 :: 0 :: 31 :: t_Pr_init_63
abbrev t_Pr_init_58 : List UInt8 := 188 :: 10 :: t_Pr_init_60
abbrev t_Pr_init_55 : List UInt8 := 17 :: 1 :: 45 :: t_Pr_init_58
abbrev t_Pr_init_54 : List UInt8 := 42 :: t_Pr_init_55
abbrev t_Pr_init_51 : List UInt8 := 181 :: 0 :: 28 :: t_Pr_init_54
abbrev t_Pr_init_49 : List UInt8 := 188 :: 10 :: t_Pr_init_51
abbrev t_Pr_init_46 : List UInt8 := 17 :: 1 :: 45 :: t_Pr_init_49
abbrev t_Pr_init_45 : List UInt8 := 42 :: t_Pr_init_46
abbrev t_Pr_init_42 : List UInt8 := 181 :: 0 :: 25 :: t_Pr_init_45
abbrev t_Pr_init_40 : List UInt8 := 188 :: 10 :: t_Pr_init_42
abbrev t_Pr_init_37 : List UInt8 := 17 :: 1 :: 45 :: t_Pr_init_40
abbrev t_Pr_init_36 : List UInt8 := 42 :: t_Pr_init_37
abbrev t_Pr_init_33 : List UInt8 := 181 :: 0 :: 22 :: t_Pr_init_36
abbrev t_Pr_init_31 : List UInt8 := 188 :: 10 :: t_Pr_init_33
abbrev t_Pr_init_28 : List UInt8 := 17 :: 1 :: 45 :: t_Pr_init_31
abbrev t_Pr_init_27 : List UInt8 := 42 :: t_Pr_init_28
abbrev t_Pr_init_24 : List UInt8 := 181 :: 0 :: 19 :: t_Pr_init_27
abbrev t_Pr_init_22 : List UInt8 := 188 :: 10 :: t_Pr_init_24
abbrev t_Pr_init_19 : List UInt8 := 17 :: 1 :: 45 :: t_Pr_init_22
abbrev t_Pr_init_18 : List UInt8 := 42 :: t_Pr_init_19
abbrev t_Pr_init_15 : List UInt8 := 181 :: 0 :: 15 :: t_Pr_init_18
abbrev t_Pr_init_13 : List UInt8 := 188 :: 10 :: t_Pr_init_15
abbrev t_Pr_init_10 : List UInt8 := 17 :: 1 :: 45 :: t_Pr_init_13
abbrev t_Pr_init_9 : List UInt8 := 42 :: t_Pr_init_10
abbrev t_Pr_init_6 : List UInt8 := 181 :: 0 :: 9 :: t_Pr_init_9
abbrev t_Pr_init_5 : List UInt8 := 2 :: t_Pr_init_6
abbrev t_Pr_init_4 : List UInt8 := 42 :: t_Pr_init_5
abbrev t_Pr_init_1 : List UInt8 := 183 :: 0 :: 3 :: t_Pr_init_4
abbrev t_Pr_init_0 : List UInt8 := 42 :: t_Pr_init_1
theorem a_Pr_init_0 : dk_at b_Pr_init 0 t_Pr_init_0 := dk_start (by decide +kernel)
theorem a_Pr_init_1 : dk_at b_Pr_init 1 t_Pr_init_1 := dk_go 1 a_Pr_init_0 rfl
theorem a_Pr_init_4 : dk_at b_Pr_init 4 t_Pr_init_4 := dk_go 3 a_Pr_init_1 rfl
theorem a_Pr_init_5 : dk_at b_Pr_init 5 t_Pr_init_5 := dk_go 1 a_Pr_init_4 rfl
theorem a_Pr_init_6 : dk_at b_Pr_init 6 t_Pr_init_6 := dk_go 1 a_Pr_init_5 rfl
theorem a_Pr_init_9 : dk_at b_Pr_init 9 t_Pr_init_9 := dk_go 3 a_Pr_init_6 rfl
theorem a_Pr_init_10 : dk_at b_Pr_init 10 t_Pr_init_10 := dk_go 1 a_Pr_init_9 rfl
theorem a_Pr_init_13 : dk_at b_Pr_init 13 t_Pr_init_13 := dk_go 3 a_Pr_init_10 rfl
theorem a_Pr_init_15 : dk_at b_Pr_init 15 t_Pr_init_15 := dk_go 2 a_Pr_init_13 rfl
theorem a_Pr_init_18 : dk_at b_Pr_init 18 t_Pr_init_18 := dk_go 3 a_Pr_init_15 rfl
theorem a_Pr_init_19 : dk_at b_Pr_init 19 t_Pr_init_19 := dk_go 1 a_Pr_init_18 rfl
theorem a_Pr_init_22 : dk_at b_Pr_init 22 t_Pr_init_22 := dk_go 3 a_Pr_init_19 rfl
theorem a_Pr_init_24 : dk_at b_Pr_init 24 t_Pr_init_24 := dk_go 2 a_Pr_init_22 rfl
theorem a_Pr_init_27 : dk_at b_Pr_init 27 t_Pr_init_27 := dk_go 3 a_Pr_init_24 rfl
theorem a_Pr_init_28 : dk_at b_Pr_init 28 t_Pr_init_28 := dk_go 1 a_Pr_init_27 rfl
theorem a_Pr_init_31 : dk_at b_Pr_init 31 t_Pr_init_31 := dk_go 3 a_Pr_init_28 rfl
theorem a_Pr_init_33 : dk_at b_Pr_init 33 t_Pr_init_33 := dk_go 2 a_Pr_init_31 rfl
theorem a_Pr_init_36 : dk_at b_Pr_init 36 t_Pr_init_36 := dk_go 3 a_Pr_init_33 rfl
theorem a_Pr_init_37 : dk_at b_Pr_init 37 t_Pr_init_37 := dk_go 1 a_Pr_init_36 rfl
theorem a_Pr_init_40 : dk_at b_Pr_init 40 t_Pr_init_40 := dk_go 3 a_Pr_init_37 rfl
theorem a_Pr_init_42 : dk_at b_Pr_init 42 t_Pr_init_42 := dk_go 2 a_Pr_init_40 rfl
theorem a_Pr_init_45 : dk_at b_Pr_init 45 t_Pr_init_45 := dk_go 3 a_Pr_init_42 rfl
theorem a_Pr_init_46 : dk_at b_Pr_init 46 t_Pr_init_46 := dk_go 1 a_Pr_init_45 rfl
theorem a_Pr_init_49 : dk_at b_Pr_init 49 t_Pr_init_49 := dk_go 3 a_Pr_init_46 rfl
theorem a_Pr_init_51 : dk_at b_Pr_init 51 t_Pr_init_51 := dk_go 2 a_Pr_init_49 rfl
theorem a_Pr_init_54 : dk_at b_Pr_init 54 t_Pr_init_54 := dk_go 3 a_Pr_init_51 rfl
theorem a_Pr_init_55 : dk_at b_Pr_init 55 t_Pr_init_55 := dk_go 1 a_Pr_init_54 rfl
theorem a_Pr_init_58 : dk_at b_Pr_init 58 t_Pr_init_58 := dk_go 3 a_Pr_init_55 rfl
theorem a_Pr_init_60 : dk_at b_Pr_init 60 t_Pr_init_60 := dk_go 2 a_Pr_init_58 rfl
theorem a_Pr_init_63 : dk_at b_Pr_init 63 t_Pr_init_63 := dk_go 3 a_Pr_init_60 rfl
theorem a_Pr_init_64 : dk_at b_Pr_init 64 t_Pr_init_64 := dk_go 1 a_Pr_init_63 rfl
theorem a_Pr_init_67 : dk_at b_Pr_init 67 t_Pr_init_67 := dk_go 3 a_Pr_init_64 rfl
theorem a_Pr_init_69 : dk_at b_Pr_init 69 t_Pr_init_69 := dk_go 2 a_Pr_init_67 rfl
theorem a_Pr_init_72 : dk_at b_Pr_init 72 t_Pr_init_72 := dk_go 3 a_Pr_init_69 rfl
theorem a_Pr_init_73 : dk_at b_Pr_init 73 t_Pr_init_73 := dk_go 1 a_Pr_init_72 rfl
theorem a_Pr_init_75 : dk_at b_Pr_init 75 t_Pr_init_75 := dk_go 2 a_Pr_init_73 rfl
theorem a_Pr_init_77 : dk_at b_Pr_init 77 t_Pr_init_77 := dk_go 2 a_Pr_init_75 rfl
theorem a_Pr_init_80 : dk_at b_Pr_init 80 t_Pr_init_80 := dk_go 3 a_Pr_init_77 rfl
theorem a_Pr_init_81 : dk_at b_Pr_init 81 t_Pr_init_81 := dk_go 1 a_Pr_init_80 rfl
theorem a_Pr_init_83 : dk_at b_Pr_init 83 t_Pr_init_83 := dk_go 2 a_Pr_init_81 rfl
theorem a_Pr_init_85 : dk_at b_Pr_init 85 t_Pr_init_85 := dk_go 2 a_Pr_init_83 rfl
theorem a_Pr_init_88 : dk_at b_Pr_init 88 t_Pr_init_88 := dk_go 3 a_Pr_init_85 rfl
theorem a_Pr_init_89 : dk_at b_Pr_init 89 t_Pr_init_89 := dk_go 1 a_Pr_init_88 rfl
theorem a_Pr_init_91 : dk_at b_Pr_init 91 t_Pr_init_91 := dk_go 2 a_Pr_init_89 rfl
theorem a_Pr_init_93 : dk_at b_Pr_init 93 t_Pr_init_93 := dk_go 2 a_Pr_init_91 rfl
theorem a_Pr_init_96 : dk_at b_Pr_init 96 t_Pr_init_96 := dk_go 3 a_Pr_init_93 rfl
theorem a_Pr_init_97 : dk_at b_Pr_init 97 t_Pr_init_97 := dk_go 1 a_Pr_init_96 rfl
theorem a_Pr_init_99 : dk_at b_Pr_init 99 t_Pr_init_99 := dk_go 2 a_Pr_init_97 rfl
theorem a_Pr_init_101 : dk_at b_Pr_init 101 t_Pr_init_101 := dk_go 2 a_Pr_init_99 rfl
theorem a_Pr_init_104 : dk_at b_Pr_init 104 t_Pr_init_104 := dk_go 3 a_Pr_init_101 rfl
theorem a_Pr_init_105 : dk_at b_Pr_init 105 t_Pr_init_105 := dk_go 1 a_Pr_init_104 rfl
theorem a_Pr_init_107 : dk_at b_Pr_init 107 t_Pr_init_107 := dk_go 2 a_Pr_init_105 rfl
theorem a_Pr_init_109 : dk_at b_Pr_init 109 t_Pr_init_109 := dk_go 2 a_Pr_init_107 rfl
theorem a_Pr_init_112 : dk_at b_Pr_init 112 t_Pr_init_112 := dk_go 3 a_Pr_init_109 rfl
theorem a_Pr_init_113 : dk_at b_Pr_init 113 t_Pr_init_113 := dk_go 1 a_Pr_init_112 rfl
theorem a_Pr_init_115 : dk_at b_Pr_init 115 t_Pr_init_115 := dk_go 2 a_Pr_init_113 rfl
theorem a_Pr_init_117 : dk_at b_Pr_init 117 t_Pr_init_117 := dk_go 2 a_Pr_init_115 rfl
theorem a_Pr_init_120 : dk_at b_Pr_init 120 t_Pr_init_120 := dk_go 3 a_Pr_init_117 rfl
theorem a_Pr_init_121 : dk_at b_Pr_init 121 t_Pr_init_121 := dk_go 1 a_Pr_init_120 rfl
theorem a_Pr_init_123 : dk_at b_Pr_init 123 t_Pr_init_123 := dk_go 2 a_Pr_init_121 rfl
theorem a_Pr_init_125 : dk_at b_Pr_init 125 t_Pr_init_125 := dk_go 2 a_Pr_init_123 rfl
theorem a_Pr_init_128 : dk_at b_Pr_init 128 t_Pr_init_128 := dk_go 3 a_Pr_init_125 rfl
theorem d_Pr_init_0 : decode b_Pr_init 0 = .ok (.aload_n 0, 1) := dk_0 a_Pr_init_0 (dko_42 _)
theorem d_Pr_init_1 : decode b_Pr_init 1 = .ok (.invokespecial 3, 3) := dk_U2 a_Pr_init_1 (dko_183 _) rfl
theorem d_Pr_init_4 : decode b_Pr_init 4 = .ok (.aload_n 0, 1) := dk_0 a_Pr_init_4 (dko_42 _)
theorem d_Pr_init_5 : decode b_Pr_init 5 = .ok (.iconst (-1), 1) := dk_0 a_Pr_init_5 (dko_2 _)
theorem d_Pr_init_6 : decode b_Pr_init 6 = .ok (.putfield 9, 3) := dk_U2 a_Pr_init_6 (dko_181 _) rfl
theorem d_Pr_init_9 : decode b_Pr_init 9 = .ok (.aload_n 0, 1) := dk_0 a_Pr_init_9 (dko_42 _)
theorem d_Pr_init_10 : decode b_Pr_init 10 = .ok (.sipush 301, 3) := dk_S2 a_Pr_init_10 (dko_17 _) (by decide +kernel)
theorem d_Pr_init_13 : decode b_Pr_init 13 = .ok (.newarray .int, 2) := dk_N a_Pr_init_13 (dko_188 _) rfl
theorem d_Pr_init_15 : decode b_Pr_init 15 = .ok (.putfield 15, 3) := dk_U2 a_Pr_init_15 (dko_181 _) rfl
theorem d_Pr_init_18 : decode b_Pr_init 18 = .ok (.aload_n 0, 1) := dk_0 a_Pr_init_18 (dko_42 _)
theorem d_Pr_init_19 : decode b_Pr_init 19 = .ok (.sipush 301, 3) := dk_S2 a_Pr_init_19 (dko_17 _) (by decide +kernel)
theorem d_Pr_init_22 : decode b_Pr_init 22 = .ok (.newarray .int, 2) := dk_N a_Pr_init_22 (dko_188 _) rfl
theorem d_Pr_init_24 : decode b_Pr_init 24 = .ok (.putfield 19, 3) := dk_U2 a_Pr_init_24 (dko_181 _) rfl
theorem d_Pr_init_27 : decode b_Pr_init 27 = .ok (.aload_n 0, 1) := dk_0 a_Pr_init_27 (dko_42 _)
theorem d_Pr_init_28 : decode b_Pr_init 28 = .ok (.sipush 301, 3) := dk_S2 a_Pr_init_28 (dko_17 _) (by decide +kernel)
theorem d_Pr_init_31 : decode b_Pr_init 31 = .ok (.newarray .int, 2) := dk_N a_Pr_init_31 (dko_188 _) rfl
theorem d_Pr_init_33 : decode b_Pr_init 33 = .ok (.putfield 22, 3) := dk_U2 a_Pr_init_33 (dko_181 _) rfl
theorem d_Pr_init_36 : decode b_Pr_init 36 = .ok (.aload_n 0, 1) := dk_0 a_Pr_init_36 (dko_42 _)
theorem d_Pr_init_37 : decode b_Pr_init 37 = .ok (.sipush 301, 3) := dk_S2 a_Pr_init_37 (dko_17 _) (by decide +kernel)
theorem d_Pr_init_40 : decode b_Pr_init 40 = .ok (.newarray .int, 2) := dk_N a_Pr_init_40 (dko_188 _) rfl
theorem d_Pr_init_42 : decode b_Pr_init 42 = .ok (.putfield 25, 3) := dk_U2 a_Pr_init_42 (dko_181 _) rfl
theorem d_Pr_init_45 : decode b_Pr_init 45 = .ok (.aload_n 0, 1) := dk_0 a_Pr_init_45 (dko_42 _)
theorem d_Pr_init_46 : decode b_Pr_init 46 = .ok (.sipush 301, 3) := dk_S2 a_Pr_init_46 (dko_17 _) (by decide +kernel)
theorem d_Pr_init_49 : decode b_Pr_init 49 = .ok (.newarray .int, 2) := dk_N a_Pr_init_49 (dko_188 _) rfl
theorem d_Pr_init_51 : decode b_Pr_init 51 = .ok (.putfield 28, 3) := dk_U2 a_Pr_init_51 (dko_181 _) rfl
theorem d_Pr_init_54 : decode b_Pr_init 54 = .ok (.aload_n 0, 1) := dk_0 a_Pr_init_54 (dko_42 _)
theorem d_Pr_init_55 : decode b_Pr_init 55 = .ok (.sipush 301, 3) := dk_S2 a_Pr_init_55 (dko_17 _) (by decide +kernel)
theorem d_Pr_init_58 : decode b_Pr_init 58 = .ok (.newarray .int, 2) := dk_N a_Pr_init_58 (dko_188 _) rfl
theorem d_Pr_init_60 : decode b_Pr_init 60 = .ok (.putfield 31, 3) := dk_U2 a_Pr_init_60 (dko_181 _) rfl
theorem d_Pr_init_63 : decode b_Pr_init 63 = .ok (.aload_n 0, 1) := dk_0 a_Pr_init_63 (dko_42 _)
theorem d_Pr_init_64 : decode b_Pr_init 64 = .ok (.sipush 301, 3) := dk_S2 a_Pr_init_64 (dko_17 _) (by decide +kernel)
theorem d_Pr_init_67 : decode b_Pr_init 67 = .ok (.newarray .long, 2) := dk_N a_Pr_init_67 (dko_188 _) rfl
theorem d_Pr_init_69 : decode b_Pr_init 69 = .ok (.putfield 34, 3) := dk_U2 a_Pr_init_69 (dko_181 _) rfl
theorem d_Pr_init_72 : decode b_Pr_init 72 = .ok (.aload_n 0, 1) := dk_0 a_Pr_init_72 (dko_42 _)
theorem d_Pr_init_73 : decode b_Pr_init 73 = .ok (.bipush 40, 2) := dk_S1 a_Pr_init_73 (dko_16 _) (by decide +kernel)
theorem d_Pr_init_75 : decode b_Pr_init 75 = .ok (.newarray .long, 2) := dk_N a_Pr_init_75 (dko_188 _) rfl
theorem d_Pr_init_77 : decode b_Pr_init 77 = .ok (.putfield 38, 3) := dk_U2 a_Pr_init_77 (dko_181 _) rfl
theorem d_Pr_init_80 : decode b_Pr_init 80 = .ok (.aload_n 0, 1) := dk_0 a_Pr_init_80 (dko_42 _)
theorem d_Pr_init_81 : decode b_Pr_init 81 = .ok (.bipush 40, 2) := dk_S1 a_Pr_init_81 (dko_16 _) (by decide +kernel)
theorem d_Pr_init_83 : decode b_Pr_init 83 = .ok (.newarray .int, 2) := dk_N a_Pr_init_83 (dko_188 _) rfl
theorem d_Pr_init_85 : decode b_Pr_init 85 = .ok (.putfield 41, 3) := dk_U2 a_Pr_init_85 (dko_181 _) rfl
theorem d_Pr_init_88 : decode b_Pr_init 88 = .ok (.aload_n 0, 1) := dk_0 a_Pr_init_88 (dko_42 _)
theorem d_Pr_init_89 : decode b_Pr_init 89 = .ok (.bipush 40, 2) := dk_S1 a_Pr_init_89 (dko_16 _) (by decide +kernel)
theorem d_Pr_init_91 : decode b_Pr_init 91 = .ok (.newarray .int, 2) := dk_N a_Pr_init_91 (dko_188 _) rfl
theorem d_Pr_init_93 : decode b_Pr_init 93 = .ok (.putfield 44, 3) := dk_U2 a_Pr_init_93 (dko_181 _) rfl
theorem d_Pr_init_96 : decode b_Pr_init 96 = .ok (.aload_n 0, 1) := dk_0 a_Pr_init_96 (dko_42 _)
theorem d_Pr_init_97 : decode b_Pr_init 97 = .ok (.bipush 40, 2) := dk_S1 a_Pr_init_97 (dko_16 _) (by decide +kernel)
theorem d_Pr_init_99 : decode b_Pr_init 99 = .ok (.newarray .int, 2) := dk_N a_Pr_init_99 (dko_188 _) rfl
theorem d_Pr_init_101 : decode b_Pr_init 101 = .ok (.putfield 47, 3) := dk_U2 a_Pr_init_101 (dko_181 _) rfl
theorem d_Pr_init_104 : decode b_Pr_init 104 = .ok (.aload_n 0, 1) := dk_0 a_Pr_init_104 (dko_42 _)
theorem d_Pr_init_105 : decode b_Pr_init 105 = .ok (.bipush 40, 2) := dk_S1 a_Pr_init_105 (dko_16 _) (by decide +kernel)
theorem d_Pr_init_107 : decode b_Pr_init 107 = .ok (.newarray .long, 2) := dk_N a_Pr_init_107 (dko_188 _) rfl
theorem d_Pr_init_109 : decode b_Pr_init 109 = .ok (.putfield 50, 3) := dk_U2 a_Pr_init_109 (dko_181 _) rfl
theorem d_Pr_init_112 : decode b_Pr_init 112 = .ok (.aload_n 0, 1) := dk_0 a_Pr_init_112 (dko_42 _)
theorem d_Pr_init_113 : decode b_Pr_init 113 = .ok (.bipush 40, 2) := dk_S1 a_Pr_init_113 (dko_16 _) (by decide +kernel)
theorem d_Pr_init_115 : decode b_Pr_init 115 = .ok (.newarray .int, 2) := dk_N a_Pr_init_115 (dko_188 _) rfl
theorem d_Pr_init_117 : decode b_Pr_init 117 = .ok (.putfield 53, 3) := dk_U2 a_Pr_init_117 (dko_181 _) rfl
theorem d_Pr_init_120 : decode b_Pr_init 120 = .ok (.aload_n 0, 1) := dk_0 a_Pr_init_120 (dko_42 _)
theorem d_Pr_init_121 : decode b_Pr_init 121 = .ok (.bipush 40, 2) := dk_S1 a_Pr_init_121 (dko_16 _) (by decide +kernel)
theorem d_Pr_init_123 : decode b_Pr_init 123 = .ok (.newarray .int, 2) := dk_N a_Pr_init_123 (dko_188 _) rfl
theorem d_Pr_init_125 : decode b_Pr_init 125 = .ok (.putfield 56, 3) := dk_U2 a_Pr_init_125 (dko_181 _) rfl
theorem d_Pr_init_128 : decode b_Pr_init 128 = .ok (.return_, 1) := dk_0 a_Pr_init_128 (dko_177 _)
set_option maxHeartbeats 4000000 in
set_option maxRecDepth 100000 in
theorem c_Pr_init (l : Launch) (dC : Nat → ClassId) (dI : Nat → Nat → Nat) (cI cB cZ cJ : ClassId) (h0 : Nat) (sz : Nat) : Met l y_Pr_init w_Pr_init ({ frames := 1, cells := 14, slots := 2387, locals := 20 }) (va_Pc [.ref h0] (PW dC dI cI cB cZ cJ [(h0, .inr (8, [.int 0, .int 0, .int 0, .null, .null, .null, .null, .null, .null, .null, .int 0, .null, .null, .null, .null, .null, .null, .null]))] sz)) (va_Qv (fun _ : Unit => True) (fun (_ : Unit) (t : State) => ∃ q13 q22 q31 q40 q49 q58 q67 q75 q83 q91 q99 q107 q115 q123 : Nat, va_P (dC, dI) classes [(h0, .inr (8, [.int 0, .int 0, .int (-1), .ref q13, .ref q22, .ref q31, .ref q40, .ref q49, .ref q58, .ref q67, .int 0, .ref q75, .ref q83, .ref q91, .ref q99, .ref q107, .ref q115, .ref q123])), (q13, .inl (cI, 301, .inl (fun _ => 0))), (q22, .inl (cI, 301, .inl (fun _ => 0))), (q31, .inl (cI, 301, .inl (fun _ => 0))), (q40, .inl (cI, 301, .inl (fun _ => 0))), (q49, .inl (cI, 301, .inl (fun _ => 0))), (q58, .inl (cI, 301, .inl (fun _ => 0))), (q67, .inl (cJ, 301, .inr (.inl (fun _ => 0)))), (q75, .inl (cJ, 40, .inr (.inl (fun _ => 0)))), (q83, .inl (cI, 40, .inl (fun _ => 0))), (q91, .inl (cI, 40, .inl (fun _ => 0))), (q99, .inl (cI, 40, .inl (fun _ => 0))), (q107, .inl (cJ, 40, .inr (.inl (fun _ => 0)))), (q115, .inl (cI, 40, .inl (fun _ => 0))), (q123, .inl (cI, 40, .inl (fun _ => 0)))] t.heap ∧ va_D (va_A [(h0, .inr (8, [.int 0, .int 0, .int 0, .null, .null, .null, .null, .null, .null, .null, .int 0, .null, .null, .null, .null, .null, .null, .null]))] sz) [(h0, .inr (8, [.int 0, .int 0, .int (-1), .ref q13, .ref q22, .ref q31, .ref q40, .ref q49, .ref q58, .ref q67, .int 0, .ref q75, .ref q83, .ref q91, .ref q99, .ref q107, .ref q115, .ref q123])), (q13, .inl (cI, 301, .inl (fun _ => 0))), (q22, .inl (cI, 301, .inl (fun _ => 0))), (q31, .inl (cI, 301, .inl (fun _ => 0))), (q40, .inl (cI, 301, .inl (fun _ => 0))), (q49, .inl (cI, 301, .inl (fun _ => 0))), (q58, .inl (cI, 301, .inl (fun _ => 0))), (q67, .inl (cJ, 301, .inr (.inl (fun _ => 0)))), (q75, .inl (cJ, 40, .inr (.inl (fun _ => 0)))), (q83, .inl (cI, 40, .inl (fun _ => 0))), (q91, .inl (cI, 40, .inl (fun _ => 0))), (q99, .inl (cI, 40, .inl (fun _ => 0))), (q107, .inl (cJ, 40, .inr (.inl (fun _ => 0)))), (q115, .inl (cI, 40, .inl (fun _ => 0))), (q123, .inl (cI, 40, .inl (fun _ => 0)))]) (va_A [(h0, .inr (8, [.int 0, .int 0, .int 0, .null, .null, .null, .null, .null, .null, .null, .int 0, .null, .null, .null, .null, .null, .null, .null]))] sz)) 14 2387 (va_A [(h0, .inr (8, [.int 0, .int 0, .int 0, .null, .null, .null, .null, .null, .null, .null, .int 0, .null, .null, .null, .null, .null, .null, .null]))] sz) := by
  refine Met.ofW (cc := b_Pr_init) (maxL := 1) (ret := none) (by decide) rfl ?_
  intro p e s m args below meth c s₁ B hml hv
  obtain ⟨rfl, hsz, hP, hK, hD⟩ := hv
  have hx := B.exec
  have hb := B.bytes
  have hr := B.returns
  have hts := atoms_spec (ws := w_Pr_init) B.pre
  have hown : s.vm.findClass R_Pr = some m.cls := findClass_of_methodNamed B.named
  have hlocks := B.notSynchronized
  have hin : meth.name = "<init>" := (name_of_methodNamed B.named B.method).1
  subst hsz
  have hD := hD.self (sz := s.heap.size)
  generalize hAe : va_A [(h0, .inr (8, [.int 0, .int 0, .int 0, .null, .null, .null, .null, .null, .null, .null, .int 0, .null, .null, .null, .null, .null, .null, .null]))] s.heap.size = A at hD ⊢
  have hA : ∀ q : Nat, s.heap.size ≤ q → A q := fun q h => by rw [← hAe]; exact Or.inr h
  have hS : va_S A s.heap s.heap [] := va_S.rf
  have hP : va_P (dC, dI) classes [(h0, .inr (8, [.int 0, .int 0, .int 0, .null, .null, .null, .null, .null, .null, .null, .int 0, .null, .null, .null, .null, .null, .null, .null]))] s.heap := hP
  have hl := lv_entry ([.ref h0]) (n := 1) (Nat.le_of_ble_eq_true rfl)
  rw [lg_entry_eq]
  generalize (lg_sl ([.ref h0]) ++ List.replicate (1 - (lg_sl ([.ref h0])).length) Slot.unset).toArray = ls at hl ⊢
  have hl : lv_has ls 1 [(0, .ref h0)] := hl
  refine lv_aload_n hx hb d_Pr_init_0 rfl (lv_at hl 0 rfl) ?_
  refine W.objInit hx hb hown (hts _ (List.mem_cons_of_mem _ mw_427)) (hts _ (List.mem_cons_of_mem _ mw_30)) (hts _ (List.mem_cons_of_mem _ mw_31)) rfl (by rw [hml]; exact hl.1) rfl d_Pr_init_1 (Nat.le_of_ble_eq_true rfl) (Nat.le_of_ble_eq_true rfl) ?_
  refine W.eq (g2 := F0 m 4 ls []) rfl ?_
  refine lv_aload_n hx hb d_Pr_init_4 rfl (lv_at hl 0 rfl) ?_
  refine lv_iconst (v := (-1)) hx hb d_Pr_init_5 (by decide) ?_
  refine va_put (D := (dC, dI)) (ci := 8) (v := .int (-1)) (ty := .int) (C := R_Pr) (T := F_Pr) (N := 18) hx hb hts (fun w h => List.mem_cons_of_mem _ (in_Pr w h)) t_Pr t_Pr_ok n_Pr hown hK.1 hP hD hS 0 rfl rfl 2 (by decide) (hts _ (List.mem_cons_of_mem _ mw_433)) (fun _ h9 => h9) rfl (by decide +kernel) rfl rfl (Nat.le_of_ble_eq_true rfl) d_Pr_init_6 (fun H locs hP hD hS => ?_)
  have hP : va_P (dC, dI) classes [(h0, .inr (8, [.int 0, .int 0, .int (-1), .null, .null, .null, .null, .null, .null, .null, .int 0, .null, .null, .null, .null, .null, .null, .null]))] H := hP
  have hD : va_D A [(h0, .inr (8, [.int 0, .int 0, .int (-1), .null, .null, .null, .null, .null, .null, .null, .int 0, .null, .null, .null, .null, .null, .null, .null]))] := hD
  refine lv_aload_n hx hb d_Pr_init_9 rfl (lv_at hl 0 rfl) ?_
  refine lv_sipush (v := 301) hx hb d_Pr_init_10 (by decide) ?_
  refine ka_newa (atype := .int) (ty := .int) (N' := 301) (a0 := (301, .inl (fun _ => 0))) hx hb (hts _ (List.mem_cons_of_mem _ mw_53)) rfl hK.1 hP hD hS hA 0 rfl (fun _ => rfl) (by decide) (by decide) (by decide) (Nat.le_of_ble_eq_true rfl) (Nat.le_of_ble_eq_true rfl) d_Pr_init_13 (fun q13 H hP hD hS => ?_)
  refine W.widen (k := 1) (n := 301) (Nat.le_refl _) (Nat.le_refl _) ?_
  refine va_putF (D := (dC, dI)) (ci := 8) (v := .ref q13) (ty := (.array .int)) (C := R_Pr) (T := F_Pr) (N := 18) hx hb hts (fun w h => List.mem_cons_of_mem _ (in_Pr w h)) t_Pr t_Pr_ok n_Pr hown hK.1 hP hD hS 0 rfl rfl 3 (by decide) (hts _ (List.mem_cons_of_mem _ mw_437)) (fun _ h9 => h9) rfl hin rfl (by decide +kernel) rfl rfl (Nat.le_of_ble_eq_true rfl) d_Pr_init_15 (fun H locs hP hD hS => ?_)
  have hP : va_P (dC, dI) classes [(h0, .inr (8, [.int 0, .int 0, .int (-1), .ref q13, .null, .null, .null, .null, .null, .null, .int 0, .null, .null, .null, .null, .null, .null, .null])), (q13, .inl (cI, 301, .inl (fun _ => 0)))] H := hP
  have hD : va_D A [(h0, .inr (8, [.int 0, .int 0, .int (-1), .ref q13, .null, .null, .null, .null, .null, .null, .int 0, .null, .null, .null, .null, .null, .null, .null])), (q13, .inl (cI, 301, .inl (fun _ => 0)))] := hD
  refine lv_aload_n hx hb d_Pr_init_18 rfl (lv_at hl 0 rfl) ?_
  refine lv_sipush (v := 301) hx hb d_Pr_init_19 (by decide) ?_
  refine ka_newa (atype := .int) (ty := .int) (N' := 301) (a0 := (301, .inl (fun _ => 0))) hx hb (hts _ (List.mem_cons_of_mem _ mw_53)) rfl hK.1 hP hD hS hA 0 rfl (fun _ => rfl) (by decide) (by decide) (by decide) (Nat.le_of_ble_eq_true rfl) (Nat.le_of_ble_eq_true rfl) d_Pr_init_22 (fun q22 H hP hD hS => ?_)
  refine W.widen (k := 2) (n := 602) (Nat.le_refl _) (Nat.le_refl _) ?_
  refine va_putF (D := (dC, dI)) (ci := 8) (v := .ref q22) (ty := (.array .int)) (C := R_Pr) (T := F_Pr) (N := 18) hx hb hts (fun w h => List.mem_cons_of_mem _ (in_Pr w h)) t_Pr t_Pr_ok n_Pr hown hK.1 hP hD hS 0 rfl rfl 4 (by decide) (hts _ (List.mem_cons_of_mem _ mw_440)) (fun _ h9 => h9) rfl hin rfl (by decide +kernel) rfl rfl (Nat.le_of_ble_eq_true rfl) d_Pr_init_24 (fun H locs hP hD hS => ?_)
  have hP : va_P (dC, dI) classes [(h0, .inr (8, [.int 0, .int 0, .int (-1), .ref q13, .ref q22, .null, .null, .null, .null, .null, .int 0, .null, .null, .null, .null, .null, .null, .null])), (q13, .inl (cI, 301, .inl (fun _ => 0))), (q22, .inl (cI, 301, .inl (fun _ => 0)))] H := hP
  have hD : va_D A [(h0, .inr (8, [.int 0, .int 0, .int (-1), .ref q13, .ref q22, .null, .null, .null, .null, .null, .int 0, .null, .null, .null, .null, .null, .null, .null])), (q13, .inl (cI, 301, .inl (fun _ => 0))), (q22, .inl (cI, 301, .inl (fun _ => 0)))] := hD
  refine lv_aload_n hx hb d_Pr_init_27 rfl (lv_at hl 0 rfl) ?_
  refine lv_sipush (v := 301) hx hb d_Pr_init_28 (by decide) ?_
  refine ka_newa (atype := .int) (ty := .int) (N' := 301) (a0 := (301, .inl (fun _ => 0))) hx hb (hts _ (List.mem_cons_of_mem _ mw_53)) rfl hK.1 hP hD hS hA 0 rfl (fun _ => rfl) (by decide) (by decide) (by decide) (Nat.le_of_ble_eq_true rfl) (Nat.le_of_ble_eq_true rfl) d_Pr_init_31 (fun q31 H hP hD hS => ?_)
  refine W.widen (k := 3) (n := 903) (Nat.le_refl _) (Nat.le_refl _) ?_
  refine va_putF (D := (dC, dI)) (ci := 8) (v := .ref q31) (ty := (.array .int)) (C := R_Pr) (T := F_Pr) (N := 18) hx hb hts (fun w h => List.mem_cons_of_mem _ (in_Pr w h)) t_Pr t_Pr_ok n_Pr hown hK.1 hP hD hS 0 rfl rfl 5 (by decide) (hts _ (List.mem_cons_of_mem _ mw_443)) (fun _ h9 => h9) rfl hin rfl (by decide +kernel) rfl rfl (Nat.le_of_ble_eq_true rfl) d_Pr_init_33 (fun H locs hP hD hS => ?_)
  have hP : va_P (dC, dI) classes [(h0, .inr (8, [.int 0, .int 0, .int (-1), .ref q13, .ref q22, .ref q31, .null, .null, .null, .null, .int 0, .null, .null, .null, .null, .null, .null, .null])), (q13, .inl (cI, 301, .inl (fun _ => 0))), (q22, .inl (cI, 301, .inl (fun _ => 0))), (q31, .inl (cI, 301, .inl (fun _ => 0)))] H := hP
  have hD : va_D A [(h0, .inr (8, [.int 0, .int 0, .int (-1), .ref q13, .ref q22, .ref q31, .null, .null, .null, .null, .int 0, .null, .null, .null, .null, .null, .null, .null])), (q13, .inl (cI, 301, .inl (fun _ => 0))), (q22, .inl (cI, 301, .inl (fun _ => 0))), (q31, .inl (cI, 301, .inl (fun _ => 0)))] := hD
  refine lv_aload_n hx hb d_Pr_init_36 rfl (lv_at hl 0 rfl) ?_
  refine lv_sipush (v := 301) hx hb d_Pr_init_37 (by decide) ?_
  refine ka_newa (atype := .int) (ty := .int) (N' := 301) (a0 := (301, .inl (fun _ => 0))) hx hb (hts _ (List.mem_cons_of_mem _ mw_53)) rfl hK.1 hP hD hS hA 0 rfl (fun _ => rfl) (by decide) (by decide) (by decide) (Nat.le_of_ble_eq_true rfl) (Nat.le_of_ble_eq_true rfl) d_Pr_init_40 (fun q40 H hP hD hS => ?_)
  refine W.widen (k := 4) (n := 1204) (Nat.le_refl _) (Nat.le_refl _) ?_
  refine va_putF (D := (dC, dI)) (ci := 8) (v := .ref q40) (ty := (.array .int)) (C := R_Pr) (T := F_Pr) (N := 18) hx hb hts (fun w h => List.mem_cons_of_mem _ (in_Pr w h)) t_Pr t_Pr_ok n_Pr hown hK.1 hP hD hS 0 rfl rfl 6 (by decide) (hts _ (List.mem_cons_of_mem _ mw_446)) (fun _ h9 => h9) rfl hin rfl (by decide +kernel) rfl rfl (Nat.le_of_ble_eq_true rfl) d_Pr_init_42 (fun H locs hP hD hS => ?_)
  have hP : va_P (dC, dI) classes [(h0, .inr (8, [.int 0, .int 0, .int (-1), .ref q13, .ref q22, .ref q31, .ref q40, .null, .null, .null, .int 0, .null, .null, .null, .null, .null, .null, .null])), (q13, .inl (cI, 301, .inl (fun _ => 0))), (q22, .inl (cI, 301, .inl (fun _ => 0))), (q31, .inl (cI, 301, .inl (fun _ => 0))), (q40, .inl (cI, 301, .inl (fun _ => 0)))] H := hP
  have hD : va_D A [(h0, .inr (8, [.int 0, .int 0, .int (-1), .ref q13, .ref q22, .ref q31, .ref q40, .null, .null, .null, .int 0, .null, .null, .null, .null, .null, .null, .null])), (q13, .inl (cI, 301, .inl (fun _ => 0))), (q22, .inl (cI, 301, .inl (fun _ => 0))), (q31, .inl (cI, 301, .inl (fun _ => 0))), (q40, .inl (cI, 301, .inl (fun _ => 0)))] := hD
  refine lv_aload_n hx hb d_Pr_init_45 rfl (lv_at hl 0 rfl) ?_
  refine lv_sipush (v := 301) hx hb d_Pr_init_46 (by decide) ?_
  refine ka_newa (atype := .int) (ty := .int) (N' := 301) (a0 := (301, .inl (fun _ => 0))) hx hb (hts _ (List.mem_cons_of_mem _ mw_53)) rfl hK.1 hP hD hS hA 0 rfl (fun _ => rfl) (by decide) (by decide) (by decide) (Nat.le_of_ble_eq_true rfl) (Nat.le_of_ble_eq_true rfl) d_Pr_init_49 (fun q49 H hP hD hS => ?_)
  refine W.widen (k := 5) (n := 1505) (Nat.le_refl _) (Nat.le_refl _) ?_
  refine va_putF (D := (dC, dI)) (ci := 8) (v := .ref q49) (ty := (.array .int)) (C := R_Pr) (T := F_Pr) (N := 18) hx hb hts (fun w h => List.mem_cons_of_mem _ (in_Pr w h)) t_Pr t_Pr_ok n_Pr hown hK.1 hP hD hS 0 rfl rfl 7 (by decide) (hts _ (List.mem_cons_of_mem _ mw_449)) (fun _ h9 => h9) rfl hin rfl (by decide +kernel) rfl rfl (Nat.le_of_ble_eq_true rfl) d_Pr_init_51 (fun H locs hP hD hS => ?_)
  have hP : va_P (dC, dI) classes [(h0, .inr (8, [.int 0, .int 0, .int (-1), .ref q13, .ref q22, .ref q31, .ref q40, .ref q49, .null, .null, .int 0, .null, .null, .null, .null, .null, .null, .null])), (q13, .inl (cI, 301, .inl (fun _ => 0))), (q22, .inl (cI, 301, .inl (fun _ => 0))), (q31, .inl (cI, 301, .inl (fun _ => 0))), (q40, .inl (cI, 301, .inl (fun _ => 0))), (q49, .inl (cI, 301, .inl (fun _ => 0)))] H := hP
  have hD : va_D A [(h0, .inr (8, [.int 0, .int 0, .int (-1), .ref q13, .ref q22, .ref q31, .ref q40, .ref q49, .null, .null, .int 0, .null, .null, .null, .null, .null, .null, .null])), (q13, .inl (cI, 301, .inl (fun _ => 0))), (q22, .inl (cI, 301, .inl (fun _ => 0))), (q31, .inl (cI, 301, .inl (fun _ => 0))), (q40, .inl (cI, 301, .inl (fun _ => 0))), (q49, .inl (cI, 301, .inl (fun _ => 0)))] := hD
  refine lv_aload_n hx hb d_Pr_init_54 rfl (lv_at hl 0 rfl) ?_
  refine lv_sipush (v := 301) hx hb d_Pr_init_55 (by decide) ?_
  refine ka_newa (atype := .int) (ty := .int) (N' := 301) (a0 := (301, .inl (fun _ => 0))) hx hb (hts _ (List.mem_cons_of_mem _ mw_53)) rfl hK.1 hP hD hS hA 0 rfl (fun _ => rfl) (by decide) (by decide) (by decide) (Nat.le_of_ble_eq_true rfl) (Nat.le_of_ble_eq_true rfl) d_Pr_init_58 (fun q58 H hP hD hS => ?_)
  refine W.widen (k := 6) (n := 1806) (Nat.le_refl _) (Nat.le_refl _) ?_
  refine va_putF (D := (dC, dI)) (ci := 8) (v := .ref q58) (ty := (.array .int)) (C := R_Pr) (T := F_Pr) (N := 18) hx hb hts (fun w h => List.mem_cons_of_mem _ (in_Pr w h)) t_Pr t_Pr_ok n_Pr hown hK.1 hP hD hS 0 rfl rfl 8 (by decide) (hts _ (List.mem_cons_of_mem _ mw_451)) (fun _ h9 => h9) rfl hin rfl (by decide +kernel) rfl rfl (Nat.le_of_ble_eq_true rfl) d_Pr_init_60 (fun H locs hP hD hS => ?_)
  have hP : va_P (dC, dI) classes [(h0, .inr (8, [.int 0, .int 0, .int (-1), .ref q13, .ref q22, .ref q31, .ref q40, .ref q49, .ref q58, .null, .int 0, .null, .null, .null, .null, .null, .null, .null])), (q13, .inl (cI, 301, .inl (fun _ => 0))), (q22, .inl (cI, 301, .inl (fun _ => 0))), (q31, .inl (cI, 301, .inl (fun _ => 0))), (q40, .inl (cI, 301, .inl (fun _ => 0))), (q49, .inl (cI, 301, .inl (fun _ => 0))), (q58, .inl (cI, 301, .inl (fun _ => 0)))] H := hP
  have hD : va_D A [(h0, .inr (8, [.int 0, .int 0, .int (-1), .ref q13, .ref q22, .ref q31, .ref q40, .ref q49, .ref q58, .null, .int 0, .null, .null, .null, .null, .null, .null, .null])), (q13, .inl (cI, 301, .inl (fun _ => 0))), (q22, .inl (cI, 301, .inl (fun _ => 0))), (q31, .inl (cI, 301, .inl (fun _ => 0))), (q40, .inl (cI, 301, .inl (fun _ => 0))), (q49, .inl (cI, 301, .inl (fun _ => 0))), (q58, .inl (cI, 301, .inl (fun _ => 0)))] := hD
  refine lv_aload_n hx hb d_Pr_init_63 rfl (lv_at hl 0 rfl) ?_
  refine lv_sipush (v := 301) hx hb d_Pr_init_64 (by decide) ?_
  refine ka_newa (atype := .long) (ty := .long) (N' := 301) (a0 := (301, .inr (.inl (fun _ => 0)))) hx hb (hts _ (List.mem_cons_of_mem _ mw_208)) rfl hK.1 hP hD hS hA 3 rfl (fun _ => rfl) (by decide) (by decide) (by decide) (Nat.le_of_ble_eq_true rfl) (Nat.le_of_ble_eq_true rfl) d_Pr_init_67 (fun q67 H hP hD hS => ?_)
  refine W.widen (k := 7) (n := 2107) (Nat.le_refl _) (Nat.le_refl _) ?_
  refine va_putF (D := (dC, dI)) (ci := 8) (v := .ref q67) (ty := (.array .long)) (C := R_Pr) (T := F_Pr) (N := 18) hx hb hts (fun w h => List.mem_cons_of_mem _ (in_Pr w h)) t_Pr t_Pr_ok n_Pr hown hK.1 hP hD hS 0 rfl rfl 9 (by decide) (hts _ (List.mem_cons_of_mem _ mw_454)) (fun _ h9 => h9) rfl hin rfl (by decide +kernel) rfl rfl (Nat.le_of_ble_eq_true rfl) d_Pr_init_69 (fun H locs hP hD hS => ?_)
  have hP : va_P (dC, dI) classes [(h0, .inr (8, [.int 0, .int 0, .int (-1), .ref q13, .ref q22, .ref q31, .ref q40, .ref q49, .ref q58, .ref q67, .int 0, .null, .null, .null, .null, .null, .null, .null])), (q13, .inl (cI, 301, .inl (fun _ => 0))), (q22, .inl (cI, 301, .inl (fun _ => 0))), (q31, .inl (cI, 301, .inl (fun _ => 0))), (q40, .inl (cI, 301, .inl (fun _ => 0))), (q49, .inl (cI, 301, .inl (fun _ => 0))), (q58, .inl (cI, 301, .inl (fun _ => 0))), (q67, .inl (cJ, 301, .inr (.inl (fun _ => 0))))] H := hP
  have hD : va_D A [(h0, .inr (8, [.int 0, .int 0, .int (-1), .ref q13, .ref q22, .ref q31, .ref q40, .ref q49, .ref q58, .ref q67, .int 0, .null, .null, .null, .null, .null, .null, .null])), (q13, .inl (cI, 301, .inl (fun _ => 0))), (q22, .inl (cI, 301, .inl (fun _ => 0))), (q31, .inl (cI, 301, .inl (fun _ => 0))), (q40, .inl (cI, 301, .inl (fun _ => 0))), (q49, .inl (cI, 301, .inl (fun _ => 0))), (q58, .inl (cI, 301, .inl (fun _ => 0))), (q67, .inl (cJ, 301, .inr (.inl (fun _ => 0))))] := hD
  refine lv_aload_n hx hb d_Pr_init_72 rfl (lv_at hl 0 rfl) ?_
  refine lv_bipush (v := 40) hx hb d_Pr_init_73 (by decide) ?_
  refine ka_newa (atype := .long) (ty := .long) (N' := 40) (a0 := (40, .inr (.inl (fun _ => 0)))) hx hb (hts _ (List.mem_cons_of_mem _ mw_208)) rfl hK.1 hP hD hS hA 3 rfl (fun _ => rfl) (by decide) (by decide) (by decide) (Nat.le_of_ble_eq_true rfl) (Nat.le_of_ble_eq_true rfl) d_Pr_init_75 (fun q75 H hP hD hS => ?_)
  refine W.widen (k := 8) (n := 2147) (Nat.le_refl _) (Nat.le_refl _) ?_
  refine va_putF (D := (dC, dI)) (ci := 8) (v := .ref q75) (ty := (.array .long)) (C := R_Pr) (T := F_Pr) (N := 18) hx hb hts (fun w h => List.mem_cons_of_mem _ (in_Pr w h)) t_Pr t_Pr_ok n_Pr hown hK.1 hP hD hS 0 rfl rfl 11 (by decide) (hts _ (List.mem_cons_of_mem _ mw_460)) (fun _ h9 => h9) rfl hin rfl (by decide +kernel) rfl rfl (Nat.le_of_ble_eq_true rfl) d_Pr_init_77 (fun H locs hP hD hS => ?_)
  have hP : va_P (dC, dI) classes [(h0, .inr (8, [.int 0, .int 0, .int (-1), .ref q13, .ref q22, .ref q31, .ref q40, .ref q49, .ref q58, .ref q67, .int 0, .ref q75, .null, .null, .null, .null, .null, .null])), (q13, .inl (cI, 301, .inl (fun _ => 0))), (q22, .inl (cI, 301, .inl (fun _ => 0))), (q31, .inl (cI, 301, .inl (fun _ => 0))), (q40, .inl (cI, 301, .inl (fun _ => 0))), (q49, .inl (cI, 301, .inl (fun _ => 0))), (q58, .inl (cI, 301, .inl (fun _ => 0))), (q67, .inl (cJ, 301, .inr (.inl (fun _ => 0)))), (q75, .inl (cJ, 40, .inr (.inl (fun _ => 0))))] H := hP
  have hD : va_D A [(h0, .inr (8, [.int 0, .int 0, .int (-1), .ref q13, .ref q22, .ref q31, .ref q40, .ref q49, .ref q58, .ref q67, .int 0, .ref q75, .null, .null, .null, .null, .null, .null])), (q13, .inl (cI, 301, .inl (fun _ => 0))), (q22, .inl (cI, 301, .inl (fun _ => 0))), (q31, .inl (cI, 301, .inl (fun _ => 0))), (q40, .inl (cI, 301, .inl (fun _ => 0))), (q49, .inl (cI, 301, .inl (fun _ => 0))), (q58, .inl (cI, 301, .inl (fun _ => 0))), (q67, .inl (cJ, 301, .inr (.inl (fun _ => 0)))), (q75, .inl (cJ, 40, .inr (.inl (fun _ => 0))))] := hD
  refine lv_aload_n hx hb d_Pr_init_80 rfl (lv_at hl 0 rfl) ?_
  refine lv_bipush (v := 40) hx hb d_Pr_init_81 (by decide) ?_
  refine ka_newa (atype := .int) (ty := .int) (N' := 40) (a0 := (40, .inl (fun _ => 0))) hx hb (hts _ (List.mem_cons_of_mem _ mw_53)) rfl hK.1 hP hD hS hA 0 rfl (fun _ => rfl) (by decide) (by decide) (by decide) (Nat.le_of_ble_eq_true rfl) (Nat.le_of_ble_eq_true rfl) d_Pr_init_83 (fun q83 H hP hD hS => ?_)
  refine W.widen (k := 9) (n := 2187) (Nat.le_refl _) (Nat.le_refl _) ?_
  refine va_putF (D := (dC, dI)) (ci := 8) (v := .ref q83) (ty := (.array .int)) (C := R_Pr) (T := F_Pr) (N := 18) hx hb hts (fun w h => List.mem_cons_of_mem _ (in_Pr w h)) t_Pr t_Pr_ok n_Pr hown hK.1 hP hD hS 0 rfl rfl 12 (by decide) (hts _ (List.mem_cons_of_mem _ mw_461)) (fun _ h9 => h9) rfl hin rfl (by decide +kernel) rfl rfl (Nat.le_of_ble_eq_true rfl) d_Pr_init_85 (fun H locs hP hD hS => ?_)
  have hP : va_P (dC, dI) classes [(h0, .inr (8, [.int 0, .int 0, .int (-1), .ref q13, .ref q22, .ref q31, .ref q40, .ref q49, .ref q58, .ref q67, .int 0, .ref q75, .ref q83, .null, .null, .null, .null, .null])), (q13, .inl (cI, 301, .inl (fun _ => 0))), (q22, .inl (cI, 301, .inl (fun _ => 0))), (q31, .inl (cI, 301, .inl (fun _ => 0))), (q40, .inl (cI, 301, .inl (fun _ => 0))), (q49, .inl (cI, 301, .inl (fun _ => 0))), (q58, .inl (cI, 301, .inl (fun _ => 0))), (q67, .inl (cJ, 301, .inr (.inl (fun _ => 0)))), (q75, .inl (cJ, 40, .inr (.inl (fun _ => 0)))), (q83, .inl (cI, 40, .inl (fun _ => 0)))] H := hP
  have hD : va_D A [(h0, .inr (8, [.int 0, .int 0, .int (-1), .ref q13, .ref q22, .ref q31, .ref q40, .ref q49, .ref q58, .ref q67, .int 0, .ref q75, .ref q83, .null, .null, .null, .null, .null])), (q13, .inl (cI, 301, .inl (fun _ => 0))), (q22, .inl (cI, 301, .inl (fun _ => 0))), (q31, .inl (cI, 301, .inl (fun _ => 0))), (q40, .inl (cI, 301, .inl (fun _ => 0))), (q49, .inl (cI, 301, .inl (fun _ => 0))), (q58, .inl (cI, 301, .inl (fun _ => 0))), (q67, .inl (cJ, 301, .inr (.inl (fun _ => 0)))), (q75, .inl (cJ, 40, .inr (.inl (fun _ => 0)))), (q83, .inl (cI, 40, .inl (fun _ => 0)))] := hD
  refine lv_aload_n hx hb d_Pr_init_88 rfl (lv_at hl 0 rfl) ?_
  refine lv_bipush (v := 40) hx hb d_Pr_init_89 (by decide) ?_
  refine ka_newa (atype := .int) (ty := .int) (N' := 40) (a0 := (40, .inl (fun _ => 0))) hx hb (hts _ (List.mem_cons_of_mem _ mw_53)) rfl hK.1 hP hD hS hA 0 rfl (fun _ => rfl) (by decide) (by decide) (by decide) (Nat.le_of_ble_eq_true rfl) (Nat.le_of_ble_eq_true rfl) d_Pr_init_91 (fun q91 H hP hD hS => ?_)
  refine W.widen (k := 10) (n := 2227) (Nat.le_refl _) (Nat.le_refl _) ?_
  refine va_putF (D := (dC, dI)) (ci := 8) (v := .ref q91) (ty := (.array .int)) (C := R_Pr) (T := F_Pr) (N := 18) hx hb hts (fun w h => List.mem_cons_of_mem _ (in_Pr w h)) t_Pr t_Pr_ok n_Pr hown hK.1 hP hD hS 0 rfl rfl 13 (by decide) (hts _ (List.mem_cons_of_mem _ mw_463)) (fun _ h9 => h9) rfl hin rfl (by decide +kernel) rfl rfl (Nat.le_of_ble_eq_true rfl) d_Pr_init_93 (fun H locs hP hD hS => ?_)
  have hP : va_P (dC, dI) classes [(h0, .inr (8, [.int 0, .int 0, .int (-1), .ref q13, .ref q22, .ref q31, .ref q40, .ref q49, .ref q58, .ref q67, .int 0, .ref q75, .ref q83, .ref q91, .null, .null, .null, .null])), (q13, .inl (cI, 301, .inl (fun _ => 0))), (q22, .inl (cI, 301, .inl (fun _ => 0))), (q31, .inl (cI, 301, .inl (fun _ => 0))), (q40, .inl (cI, 301, .inl (fun _ => 0))), (q49, .inl (cI, 301, .inl (fun _ => 0))), (q58, .inl (cI, 301, .inl (fun _ => 0))), (q67, .inl (cJ, 301, .inr (.inl (fun _ => 0)))), (q75, .inl (cJ, 40, .inr (.inl (fun _ => 0)))), (q83, .inl (cI, 40, .inl (fun _ => 0))), (q91, .inl (cI, 40, .inl (fun _ => 0)))] H := hP
  have hD : va_D A [(h0, .inr (8, [.int 0, .int 0, .int (-1), .ref q13, .ref q22, .ref q31, .ref q40, .ref q49, .ref q58, .ref q67, .int 0, .ref q75, .ref q83, .ref q91, .null, .null, .null, .null])), (q13, .inl (cI, 301, .inl (fun _ => 0))), (q22, .inl (cI, 301, .inl (fun _ => 0))), (q31, .inl (cI, 301, .inl (fun _ => 0))), (q40, .inl (cI, 301, .inl (fun _ => 0))), (q49, .inl (cI, 301, .inl (fun _ => 0))), (q58, .inl (cI, 301, .inl (fun _ => 0))), (q67, .inl (cJ, 301, .inr (.inl (fun _ => 0)))), (q75, .inl (cJ, 40, .inr (.inl (fun _ => 0)))), (q83, .inl (cI, 40, .inl (fun _ => 0))), (q91, .inl (cI, 40, .inl (fun _ => 0)))] := hD
  refine lv_aload_n hx hb d_Pr_init_96 rfl (lv_at hl 0 rfl) ?_
  refine lv_bipush (v := 40) hx hb d_Pr_init_97 (by decide) ?_
  refine ka_newa (atype := .int) (ty := .int) (N' := 40) (a0 := (40, .inl (fun _ => 0))) hx hb (hts _ (List.mem_cons_of_mem _ mw_53)) rfl hK.1 hP hD hS hA 0 rfl (fun _ => rfl) (by decide) (by decide) (by decide) (Nat.le_of_ble_eq_true rfl) (Nat.le_of_ble_eq_true rfl) d_Pr_init_99 (fun q99 H hP hD hS => ?_)
  refine W.widen (k := 11) (n := 2267) (Nat.le_refl _) (Nat.le_refl _) ?_
  refine va_putF (D := (dC, dI)) (ci := 8) (v := .ref q99) (ty := (.array .int)) (C := R_Pr) (T := F_Pr) (N := 18) hx hb hts (fun w h => List.mem_cons_of_mem _ (in_Pr w h)) t_Pr t_Pr_ok n_Pr hown hK.1 hP hD hS 0 rfl rfl 14 (by decide) (hts _ (List.mem_cons_of_mem _ mw_465)) (fun _ h9 => h9) rfl hin rfl (by decide +kernel) rfl rfl (Nat.le_of_ble_eq_true rfl) d_Pr_init_101 (fun H locs hP hD hS => ?_)
  have hP : va_P (dC, dI) classes [(h0, .inr (8, [.int 0, .int 0, .int (-1), .ref q13, .ref q22, .ref q31, .ref q40, .ref q49, .ref q58, .ref q67, .int 0, .ref q75, .ref q83, .ref q91, .ref q99, .null, .null, .null])), (q13, .inl (cI, 301, .inl (fun _ => 0))), (q22, .inl (cI, 301, .inl (fun _ => 0))), (q31, .inl (cI, 301, .inl (fun _ => 0))), (q40, .inl (cI, 301, .inl (fun _ => 0))), (q49, .inl (cI, 301, .inl (fun _ => 0))), (q58, .inl (cI, 301, .inl (fun _ => 0))), (q67, .inl (cJ, 301, .inr (.inl (fun _ => 0)))), (q75, .inl (cJ, 40, .inr (.inl (fun _ => 0)))), (q83, .inl (cI, 40, .inl (fun _ => 0))), (q91, .inl (cI, 40, .inl (fun _ => 0))), (q99, .inl (cI, 40, .inl (fun _ => 0)))] H := hP
  have hD : va_D A [(h0, .inr (8, [.int 0, .int 0, .int (-1), .ref q13, .ref q22, .ref q31, .ref q40, .ref q49, .ref q58, .ref q67, .int 0, .ref q75, .ref q83, .ref q91, .ref q99, .null, .null, .null])), (q13, .inl (cI, 301, .inl (fun _ => 0))), (q22, .inl (cI, 301, .inl (fun _ => 0))), (q31, .inl (cI, 301, .inl (fun _ => 0))), (q40, .inl (cI, 301, .inl (fun _ => 0))), (q49, .inl (cI, 301, .inl (fun _ => 0))), (q58, .inl (cI, 301, .inl (fun _ => 0))), (q67, .inl (cJ, 301, .inr (.inl (fun _ => 0)))), (q75, .inl (cJ, 40, .inr (.inl (fun _ => 0)))), (q83, .inl (cI, 40, .inl (fun _ => 0))), (q91, .inl (cI, 40, .inl (fun _ => 0))), (q99, .inl (cI, 40, .inl (fun _ => 0)))] := hD
  refine lv_aload_n hx hb d_Pr_init_104 rfl (lv_at hl 0 rfl) ?_
  refine lv_bipush (v := 40) hx hb d_Pr_init_105 (by decide) ?_
  refine ka_newa (atype := .long) (ty := .long) (N' := 40) (a0 := (40, .inr (.inl (fun _ => 0)))) hx hb (hts _ (List.mem_cons_of_mem _ mw_208)) rfl hK.1 hP hD hS hA 3 rfl (fun _ => rfl) (by decide) (by decide) (by decide) (Nat.le_of_ble_eq_true rfl) (Nat.le_of_ble_eq_true rfl) d_Pr_init_107 (fun q107 H hP hD hS => ?_)
  refine W.widen (k := 12) (n := 2307) (Nat.le_refl _) (Nat.le_refl _) ?_
  refine va_putF (D := (dC, dI)) (ci := 8) (v := .ref q107) (ty := (.array .long)) (C := R_Pr) (T := F_Pr) (N := 18) hx hb hts (fun w h => List.mem_cons_of_mem _ (in_Pr w h)) t_Pr t_Pr_ok n_Pr hown hK.1 hP hD hS 0 rfl rfl 15 (by decide) (hts _ (List.mem_cons_of_mem _ mw_467)) (fun _ h9 => h9) rfl hin rfl (by decide +kernel) rfl rfl (Nat.le_of_ble_eq_true rfl) d_Pr_init_109 (fun H locs hP hD hS => ?_)
  have hP : va_P (dC, dI) classes [(h0, .inr (8, [.int 0, .int 0, .int (-1), .ref q13, .ref q22, .ref q31, .ref q40, .ref q49, .ref q58, .ref q67, .int 0, .ref q75, .ref q83, .ref q91, .ref q99, .ref q107, .null, .null])), (q13, .inl (cI, 301, .inl (fun _ => 0))), (q22, .inl (cI, 301, .inl (fun _ => 0))), (q31, .inl (cI, 301, .inl (fun _ => 0))), (q40, .inl (cI, 301, .inl (fun _ => 0))), (q49, .inl (cI, 301, .inl (fun _ => 0))), (q58, .inl (cI, 301, .inl (fun _ => 0))), (q67, .inl (cJ, 301, .inr (.inl (fun _ => 0)))), (q75, .inl (cJ, 40, .inr (.inl (fun _ => 0)))), (q83, .inl (cI, 40, .inl (fun _ => 0))), (q91, .inl (cI, 40, .inl (fun _ => 0))), (q99, .inl (cI, 40, .inl (fun _ => 0))), (q107, .inl (cJ, 40, .inr (.inl (fun _ => 0))))] H := hP
  have hD : va_D A [(h0, .inr (8, [.int 0, .int 0, .int (-1), .ref q13, .ref q22, .ref q31, .ref q40, .ref q49, .ref q58, .ref q67, .int 0, .ref q75, .ref q83, .ref q91, .ref q99, .ref q107, .null, .null])), (q13, .inl (cI, 301, .inl (fun _ => 0))), (q22, .inl (cI, 301, .inl (fun _ => 0))), (q31, .inl (cI, 301, .inl (fun _ => 0))), (q40, .inl (cI, 301, .inl (fun _ => 0))), (q49, .inl (cI, 301, .inl (fun _ => 0))), (q58, .inl (cI, 301, .inl (fun _ => 0))), (q67, .inl (cJ, 301, .inr (.inl (fun _ => 0)))), (q75, .inl (cJ, 40, .inr (.inl (fun _ => 0)))), (q83, .inl (cI, 40, .inl (fun _ => 0))), (q91, .inl (cI, 40, .inl (fun _ => 0))), (q99, .inl (cI, 40, .inl (fun _ => 0))), (q107, .inl (cJ, 40, .inr (.inl (fun _ => 0))))] := hD
  refine lv_aload_n hx hb d_Pr_init_112 rfl (lv_at hl 0 rfl) ?_
  refine lv_bipush (v := 40) hx hb d_Pr_init_113 (by decide) ?_
  refine ka_newa (atype := .int) (ty := .int) (N' := 40) (a0 := (40, .inl (fun _ => 0))) hx hb (hts _ (List.mem_cons_of_mem _ mw_53)) rfl hK.1 hP hD hS hA 0 rfl (fun _ => rfl) (by decide) (by decide) (by decide) (Nat.le_of_ble_eq_true rfl) (Nat.le_of_ble_eq_true rfl) d_Pr_init_115 (fun q115 H hP hD hS => ?_)
  refine W.widen (k := 13) (n := 2347) (Nat.le_refl _) (Nat.le_refl _) ?_
  refine va_putF (D := (dC, dI)) (ci := 8) (v := .ref q115) (ty := (.array .int)) (C := R_Pr) (T := F_Pr) (N := 18) hx hb hts (fun w h => List.mem_cons_of_mem _ (in_Pr w h)) t_Pr t_Pr_ok n_Pr hown hK.1 hP hD hS 0 rfl rfl 16 (by decide) (hts _ (List.mem_cons_of_mem _ mw_470)) (fun _ h9 => h9) rfl hin rfl (by decide +kernel) rfl rfl (Nat.le_of_ble_eq_true rfl) d_Pr_init_117 (fun H locs hP hD hS => ?_)
  have hP : va_P (dC, dI) classes [(h0, .inr (8, [.int 0, .int 0, .int (-1), .ref q13, .ref q22, .ref q31, .ref q40, .ref q49, .ref q58, .ref q67, .int 0, .ref q75, .ref q83, .ref q91, .ref q99, .ref q107, .ref q115, .null])), (q13, .inl (cI, 301, .inl (fun _ => 0))), (q22, .inl (cI, 301, .inl (fun _ => 0))), (q31, .inl (cI, 301, .inl (fun _ => 0))), (q40, .inl (cI, 301, .inl (fun _ => 0))), (q49, .inl (cI, 301, .inl (fun _ => 0))), (q58, .inl (cI, 301, .inl (fun _ => 0))), (q67, .inl (cJ, 301, .inr (.inl (fun _ => 0)))), (q75, .inl (cJ, 40, .inr (.inl (fun _ => 0)))), (q83, .inl (cI, 40, .inl (fun _ => 0))), (q91, .inl (cI, 40, .inl (fun _ => 0))), (q99, .inl (cI, 40, .inl (fun _ => 0))), (q107, .inl (cJ, 40, .inr (.inl (fun _ => 0)))), (q115, .inl (cI, 40, .inl (fun _ => 0)))] H := hP
  have hD : va_D A [(h0, .inr (8, [.int 0, .int 0, .int (-1), .ref q13, .ref q22, .ref q31, .ref q40, .ref q49, .ref q58, .ref q67, .int 0, .ref q75, .ref q83, .ref q91, .ref q99, .ref q107, .ref q115, .null])), (q13, .inl (cI, 301, .inl (fun _ => 0))), (q22, .inl (cI, 301, .inl (fun _ => 0))), (q31, .inl (cI, 301, .inl (fun _ => 0))), (q40, .inl (cI, 301, .inl (fun _ => 0))), (q49, .inl (cI, 301, .inl (fun _ => 0))), (q58, .inl (cI, 301, .inl (fun _ => 0))), (q67, .inl (cJ, 301, .inr (.inl (fun _ => 0)))), (q75, .inl (cJ, 40, .inr (.inl (fun _ => 0)))), (q83, .inl (cI, 40, .inl (fun _ => 0))), (q91, .inl (cI, 40, .inl (fun _ => 0))), (q99, .inl (cI, 40, .inl (fun _ => 0))), (q107, .inl (cJ, 40, .inr (.inl (fun _ => 0)))), (q115, .inl (cI, 40, .inl (fun _ => 0)))] := hD
  refine lv_aload_n hx hb d_Pr_init_120 rfl (lv_at hl 0 rfl) ?_
  refine lv_bipush (v := 40) hx hb d_Pr_init_121 (by decide) ?_
  refine ka_newa (atype := .int) (ty := .int) (N' := 40) (a0 := (40, .inl (fun _ => 0))) hx hb (hts _ (List.mem_cons_of_mem _ mw_53)) rfl hK.1 hP hD hS hA 0 rfl (fun _ => rfl) (by decide) (by decide) (by decide) (Nat.le_of_ble_eq_true rfl) (Nat.le_of_ble_eq_true rfl) d_Pr_init_123 (fun q123 H hP hD hS => ?_)
  refine W.widen (k := 14) (n := 2387) (Nat.le_refl _) (Nat.le_refl _) ?_
  refine va_putF (D := (dC, dI)) (ci := 8) (v := .ref q123) (ty := (.array .int)) (C := R_Pr) (T := F_Pr) (N := 18) hx hb hts (fun w h => List.mem_cons_of_mem _ (in_Pr w h)) t_Pr t_Pr_ok n_Pr hown hK.1 hP hD hS 0 rfl rfl 17 (by decide) (hts _ (List.mem_cons_of_mem _ mw_472)) (fun _ h9 => h9) rfl hin rfl (by decide +kernel) rfl rfl (Nat.le_of_ble_eq_true rfl) d_Pr_init_125 (fun H locs hP hD hS => ?_)
  have hP : va_P (dC, dI) classes [(h0, .inr (8, [.int 0, .int 0, .int (-1), .ref q13, .ref q22, .ref q31, .ref q40, .ref q49, .ref q58, .ref q67, .int 0, .ref q75, .ref q83, .ref q91, .ref q99, .ref q107, .ref q115, .ref q123])), (q13, .inl (cI, 301, .inl (fun _ => 0))), (q22, .inl (cI, 301, .inl (fun _ => 0))), (q31, .inl (cI, 301, .inl (fun _ => 0))), (q40, .inl (cI, 301, .inl (fun _ => 0))), (q49, .inl (cI, 301, .inl (fun _ => 0))), (q58, .inl (cI, 301, .inl (fun _ => 0))), (q67, .inl (cJ, 301, .inr (.inl (fun _ => 0)))), (q75, .inl (cJ, 40, .inr (.inl (fun _ => 0)))), (q83, .inl (cI, 40, .inl (fun _ => 0))), (q91, .inl (cI, 40, .inl (fun _ => 0))), (q99, .inl (cI, 40, .inl (fun _ => 0))), (q107, .inl (cJ, 40, .inr (.inl (fun _ => 0)))), (q115, .inl (cI, 40, .inl (fun _ => 0))), (q123, .inl (cI, 40, .inl (fun _ => 0)))] H := hP
  have hD : va_D A [(h0, .inr (8, [.int 0, .int 0, .int (-1), .ref q13, .ref q22, .ref q31, .ref q40, .ref q49, .ref q58, .ref q67, .int 0, .ref q75, .ref q83, .ref q91, .ref q99, .ref q107, .ref q115, .ref q123])), (q13, .inl (cI, 301, .inl (fun _ => 0))), (q22, .inl (cI, 301, .inl (fun _ => 0))), (q31, .inl (cI, 301, .inl (fun _ => 0))), (q40, .inl (cI, 301, .inl (fun _ => 0))), (q49, .inl (cI, 301, .inl (fun _ => 0))), (q58, .inl (cI, 301, .inl (fun _ => 0))), (q67, .inl (cJ, 301, .inr (.inl (fun _ => 0)))), (q75, .inl (cJ, 40, .inr (.inl (fun _ => 0)))), (q83, .inl (cI, 40, .inl (fun _ => 0))), (q91, .inl (cI, 40, .inl (fun _ => 0))), (q99, .inl (cI, 40, .inl (fun _ => 0))), (q107, .inl (cJ, 40, .inr (.inl (fun _ => 0)))), (q115, .inl (cI, 40, .inl (fun _ => 0))), (q123, .inl (cI, 40, .inl (fun _ => 0)))] := hD
  exact W.vret hx hb hr (fun t ht hW => ⟨⟨(), rfl, trivial, ⟨q13, q22, q31, q40, q49, q58, q67, q75, q83, q91, q99, q107, q115, q123, by rw [ht]; exact hP, hD⟩⟩, hS.F ht⟩) hS.2.2 d_Pr_init_128
