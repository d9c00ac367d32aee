def R_Sg : String := "java/lang/String"
def R_Sl : String := "java/lang/StringLatin1"
def R_Pc : String := "jdk/internal/util/Preconditions"
theorem sh_id (x : Int32) : x >>> ((0 : Int32) &&& 31) = x := by
  have e : ((0 : Int32) &&& 31) = 0 := by decide
  rw [e, Int32.shiftRight_zero]
/-- one constant text, where the heap has it -/
def GT (ln : Nat) (bs : List Int32) (adK adV : Nat → Nat) (A : Nat → Prop) (U : State) (H : Heap) : Prop := va_Z "java/lang/String" "COMPACT_STRINGS" "Z" (.int 1) A U H ∧ vk_S 1 [ln] [bs] adK adV A U H ∧ va_Zq "jdk/internal/util/Preconditions" "SIOOBE_FORMATTER" "Ljava/util/function/BiFunction;" A U H
theorem GT.same {ln : Nat} {bs : List Int32} {adK adV : Nat → Nat} {A : Nat → Prop} {U V : State} {H : Heap} (hv : U.vm = V.vm) (h : GT ln bs adK adV A U H) : GT ln bs adK adV A V H :=
  ⟨va_Z.moved (hv ▸ Vm.Alike.refl U.vm) h.1, vk_S.moved (hv ▸ Vm.Alike.refl U.vm) h.2.1, va_Zq.moved (hv ▸ Vm.Alike.refl U.vm) h.2.2⟩
theorem GT.go {ln : Nat} {bs : List Int32} {adK adV : Nat → Nat} {A B : Nat → Prop} {s U : State} {H : Heap} {locs : List Loc} (h : GT ln bs adK adV A s s.heap) (hS : va_S A s.heap H locs) (hF : ∀ q, B q → A q) (hW : s.WarmedH U.vm) : GT ln bs adK adV B U H :=
  ⟨va_Z.moved hW.alike ((h.1.kept hS.2.1).narrow hF), vk_S.moved hW.alike ((h.2.1.kept hS.2.1).narrow hF), va_Zq.moved hW.alike ((h.2.2.kept hS.2.1).narrow hF)⟩
def PWT (dC : Nat → ClassId) (dI : Nat → Nat → Nat) (cI cB cZ cJ : ClassId) (ln : Nat) (bs : List Int32) (adK adV : Nat → Nat) (sz : Nat) : State → Prop := fun U => PW dC dI cI cB cZ cJ [] sz U ∧ GT ln bs adK adV (va_A [] sz) U U.heap
theorem pwt_blind {dC : Nat → ClassId} {dI : Nat → Nat → Nat} {cI cB cZ cJ : ClassId} {ln : Nat} {bs : List Int32} {adK adV : Nat → Nat} {sz : Nat} {av : List Value} : FrameBlind (va_Pc av (PWT dC dI cI cB cZ cJ ln bs adK adV sz)) := fun a U g mk q => by
  obtain ⟨q0, ⟨q1, qP, qK, qD⟩, qG⟩ := q
  exact ⟨q0, ⟨q1, qP, KK.same (u := U) (U := U.calling g mk a) rfl qK, qD⟩, GT.same (U := U) (V := U.calling g mk a) rfl qG⟩
theorem pwt_pre {dC : Nat → ClassId} {dI : Nat → Nat → Nat} {cI cB cZ cJ : ClassId} {ln : Nat} {bs : List Int32} {adK adV : Nat → Nat} {av : List Value} {s : State} {H : Heap} {A A1 : Nat → Prop} {locs : List Loc} (hP : va_P (dC, dI) classes [] H) (hK : KK dC dI cI cB cZ cJ s) (hD : va_D A1 []) (hG : GT ln bs adK adV A s s.heap) (hS : va_S A s.heap H locs) (hF : ∀ q, va_A [] H.size q → A q) : ∀ U : State, U.heap = H → s.WarmedH U.vm → va_Pc av (PWT dC dI cI cB cZ cJ ln bs adK adV H.size) av.toArray U := fun U hU hW => ⟨rfl, ⟨by rw [hU], by rw [hU]; exact hP, hK.warm hW, hD.weaken (fun _ _ _ _ => trivial)⟩, by rw [hU]; exact hG.go hS hF hW⟩
abbrev b_Sg_coder : ByteArray := prog_20_method_152_code
def y_Sg_coder : MethodName := ⟨R_Sg, "coder", "()B"⟩
abbrev w_Sg_coder : List Cond := .code y_Sg_coder b_Sg_coder 1 (some .byte) :: lw_gd
abbrev b_Sg_isLatin1 : ByteArray := prog_20_method_154_code
def y_Sg_isLatin1 : MethodName := ⟨R_Sg, "isLatin1", "()Z"⟩
abbrev w_Sg_isLatin1 : List Cond := .code y_Sg_isLatin1 b_Sg_isLatin1 1 (some .boolean) :: lw_gd
abbrev b_Sg_length : ByteArray := prog_20_method_54_code
def y_Sg_length : MethodName := ⟨R_Sg, "length", "()I"⟩
abbrev w_Sg_length : List Cond := .code y_Sg_length b_Sg_length 1 (some .int) :: lw_gd
abbrev b_Pc_checkIndex : ByteArray := prog_24_method_11_code
def y_Pc_checkIndex : MethodName := ⟨R_Pc, "checkIndex", "(IILjava/util/function/BiFunction;)I"⟩
abbrev w_Pc_checkIndex : List Cond := .code y_Pc_checkIndex b_Pc_checkIndex 3 (some .int) :: lw_gd
abbrev b_Sg_checkIndex : ByteArray := prog_20_method_155_code
def y_Sg_checkIndex : MethodName := ⟨R_Sg, "checkIndex", "(II)V"⟩
abbrev w_Sg_checkIndex : List Cond := .code y_Sg_checkIndex b_Sg_checkIndex 2 none :: lw_gd
abbrev b_Sl_charAt : ByteArray := prog_21_method_2_code
def y_Sl_charAt : MethodName := ⟨R_Sl, "charAt", "([BI)C"⟩
abbrev w_Sl_charAt : List Cond := .code y_Sl_charAt b_Sl_charAt 2 (some .char) :: lw_gd
abbrev b_Sg_charAt : ByteArray := prog_20_method_56_code
def y_Sg_charAt : MethodName := ⟨R_Sg, "charAt", "(I)C"⟩
abbrev w_Sg_charAt : List Cond := .code y_Sg_charAt b_Sg_charAt 2 (some .char) :: lw_gd
theorem mw_14 : (.initialized "java/lang/String" : Cond) ∈ lw_gd := tb_mem (i := 14) (by decide +kernel) (by decide +kernel)
theorem mw_15 : (.initialized "java/lang/StringLatin1" : Cond) ∈ lw_gd := tb_mem (i := 15) (by decide +kernel) (by decide +kernel)
theorem mw_16 : (.initialized "jdk/internal/util/Preconditions" : Cond) ∈ lw_gd := tb_mem (i := 16) (by decide +kernel) (by decide +kernel)
theorem mw_588 : (.methodLink "java/lang/String" 335 y_Sg_coder : Cond) ∈ lw_gd := tb_mem (i := 588) (by decide +kernel) (by decide +kernel)
theorem mw_589 : (.instanceMethod y_Sg_coder : Cond) ∈ lw_gd := tb_mem (i := 589) (by decide +kernel) (by decide +kernel)
theorem mw_590 : (.selects "java/lang/String" y_Sg_coder y_Sg_coder : Cond) ∈ lw_gd := tb_mem (i := 590) (by decide +kernel) (by decide +kernel)
theorem mw_591 : (.code y_Sg_coder b_Sg_coder 1 (some .byte) : Cond) ∈ lw_gd := tb_mem (i := 591) (by decide +kernel) (by decide +kernel)
theorem mw_592 : (.fieldLink "java/lang/String" 38 "java/lang/String" "COMPACT_STRINGS" "Z" : Cond) ∈ lw_gd := tb_mem (i := 592) (by decide +kernel) (by decide +kernel)
theorem mw_598 : (.methodLink "java/lang/String" 492 y_Sg_isLatin1 : Cond) ∈ lw_gd := tb_mem (i := 598) (by decide +kernel) (by decide +kernel)
theorem mw_599 : (.instanceMethod y_Sg_isLatin1 : Cond) ∈ lw_gd := tb_mem (i := 599) (by decide +kernel) (by decide +kernel)
theorem mw_600 : (.selects "java/lang/String" y_Sg_isLatin1 y_Sg_isLatin1 : Cond) ∈ lw_gd := tb_mem (i := 600) (by decide +kernel) (by decide +kernel)
theorem mw_601 : (.code y_Sg_isLatin1 b_Sg_isLatin1 1 (some .boolean) : Cond) ∈ lw_gd := tb_mem (i := 601) (by decide +kernel) (by decide +kernel)
theorem mw_602 : (.methodLink "java/lang/String" 495 y_Sl_charAt : Cond) ∈ lw_gd := tb_mem (i := 602) (by decide +kernel) (by decide +kernel)
theorem mw_603 : (.static y_Sl_charAt : Cond) ∈ lw_gd := tb_mem (i := 603) (by decide +kernel) (by decide +kernel)
theorem mw_604 : (.code y_Sl_charAt b_Sl_charAt 2 (some .char) : Cond) ∈ lw_gd := tb_mem (i := 604) (by decide +kernel) (by decide +kernel)
theorem mw_605 : (.methodLink "java/lang/StringLatin1" 9 y_Sg_checkIndex : Cond) ∈ lw_gd := tb_mem (i := 605) (by decide +kernel) (by decide +kernel)
theorem mw_606 : (.static y_Sg_checkIndex : Cond) ∈ lw_gd := tb_mem (i := 606) (by decide +kernel) (by decide +kernel)
theorem mw_607 : (.code y_Sg_checkIndex b_Sg_checkIndex 2 none : Cond) ∈ lw_gd := tb_mem (i := 607) (by decide +kernel) (by decide +kernel)
theorem mw_608 : (.fieldLink "java/lang/String" 1053 "jdk/internal/util/Preconditions" "SIOOBE_FORMATTER" "Ljava/util/function/BiFunction;" : Cond) ∈ lw_gd := tb_mem (i := 608) (by decide +kernel) (by decide +kernel)
theorem mw_610 : (.methodLink "java/lang/String" 1059 y_Pc_checkIndex : Cond) ∈ lw_gd := tb_mem (i := 610) (by decide +kernel) (by decide +kernel)
theorem mw_611 : (.static y_Pc_checkIndex : Cond) ∈ lw_gd := tb_mem (i := 611) (by decide +kernel) (by decide +kernel)
theorem mw_612 : (.code y_Pc_checkIndex b_Pc_checkIndex 3 (some .int) : Cond) ∈ lw_gd := tb_mem (i := 612) (by decide +kernel) (by decide +kernel)
theorem mw_2700 : (.fieldLink "java/lang/String" 9 "java/lang/String" "value" "[B" : Cond) ∈ lw_gd := tb_mem (i := 2700) (by decide +kernel) (by decide +kernel)
theorem mw_2701 : (.fieldLink "java/lang/String" 15 "java/lang/String" "coder" "B" : Cond) ∈ lw_gd := tb_mem (i := 2701) (by decide +kernel) (by decide +kernel)
abbrev t_Sg_coder_14 : List UInt8 := 172 :: []
abbrev t_Sg_coder_13 : List UInt8 := 4 :: t_Sg_coder_14
abbrev t_Sg_coder_10 : List UInt8 := 167 :: 0 :: 4 :: t_Sg_coder_13
abbrev t_Sg_coder_7 : List UInt8 := 180 :: 0 :: 15 :: t_Sg_coder_10
abbrev t_Sg_coder_6 : List UInt8 := 42 :: t_Sg_coder_7
abbrev t_Sg_coder_3 : List UInt8 := 153 :: 0 :: 10 :: t_Sg_coder_6
abbrev t_Sg_coder_0 : List UInt8 := 178 :: 0 :: 38 :: t_Sg_coder_3
theorem a_Sg_coder_0 : dk_at b_Sg_coder 0 t_Sg_coder_0 := dk_start (by decide +kernel)
theorem a_Sg_coder_3 : dk_at b_Sg_coder 3 t_Sg_coder_3 := dk_go 3 a_Sg_coder_0 rfl
theorem a_Sg_coder_6 : dk_at b_Sg_coder 6 t_Sg_coder_6 := dk_go 3 a_Sg_coder_3 rfl
theorem a_Sg_coder_7 : dk_at b_Sg_coder 7 t_Sg_coder_7 := dk_go 1 a_Sg_coder_6 rfl
theorem a_Sg_coder_10 : dk_at b_Sg_coder 10 t_Sg_coder_10 := dk_go 3 a_Sg_coder_7 rfl
theorem a_Sg_coder_13 : dk_at b_Sg_coder 13 t_Sg_coder_13 := dk_go 3 a_Sg_coder_10 rfl
theorem a_Sg_coder_14 : dk_at b_Sg_coder 14 t_Sg_coder_14 := dk_go 1 a_Sg_coder_13 rfl
theorem d_Sg_coder_0 : decode b_Sg_coder 0 = .ok (.getstatic 38, 3) := dk_U2 a_Sg_coder_0 (dko_178 _) rfl
theorem d_Sg_coder_3 : decode b_Sg_coder 3 = .ok (.ifCond .eq 10, 3) := dk_S2 a_Sg_coder_3 (dko_153 _) (by decide +kernel)
theorem d_Sg_coder_6 : decode b_Sg_coder 6 = .ok (.aload_n 0, 1) := dk_0 a_Sg_coder_6 (dko_42 _)
theorem d_Sg_coder_7 : decode b_Sg_coder 7 = .ok (.getfield 15, 3) := dk_U2 a_Sg_coder_7 (dko_180 _) rfl
theorem d_Sg_coder_10 : decode b_Sg_coder 10 = .ok (.goto 4, 3) := dk_S2 a_Sg_coder_10 (dko_167 _) (by decide +kernel)
theorem d_Sg_coder_14 : decode b_Sg_coder 14 = .ok (.ireturn, 1) := dk_0 a_Sg_coder_14 (dko_172 _)
set_option maxHeartbeats 4000000 in
set_option maxRecDepth 100000 in
theorem c_Sg_coder (l : Launch) (dC : Nat → ClassId) (dI : Nat → Nat → Nat) (cI cB cZ cJ : ClassId) (ln : Nat) (bs : List Int32) (hln : ln < 200) (adK adV : Nat → Nat)  (sz : Nat) : Met l y_Sg_coder w_Sg_coder ({ frames := 0, cells := 0, slots := 0, locals := 0 }) (va_Pc [.ref (adK 0)] (PWT dC dI cI cB cZ cJ ln bs adK adV sz)) (va_Qi (fun (r : Int32) (_ : Unit) => r = 0) (fun _ _ => True) (va_A [] sz)) 0 0 (va_A [] sz) := by
  refine Met.ofW (cc := b_Sg_coder) (maxL := 1) (ret := (some .byte)) (by decide) rfl ?_
  intro p e s m args below meth c s₁ B hml hv
  obtain ⟨rfl, ⟨hsz, hP, hK, hD⟩, hG⟩ := hv
  have hx := B.exec
  have hb := B.bytes
  have hr := B.returns
  have hts := atoms_spec (ws := w_Sg_coder) B.pre
  have hown : s.vm.findClass R_Sg = some m.cls := findClass_of_methodNamed B.named
  have hlocks := B.notSynchronized
  subst hsz
  generalize hAe : va_A [] s.heap.size = A at hG ⊢
  have hA : ∀ q : Nat, s.heap.size ≤ q → A q := fun q h => by rw [← hAe]; exact Or.inr h
  have hS : va_S A s.heap s.heap [] := va_S.rf
  have hP : va_P (dC, dI) classes [] s.heap := hP
  have hl := lv_entry ([.ref (adK 0)]) (n := 1) (Nat.le_of_ble_eq_true rfl)
  rw [lg_entry_eq]
  generalize (lg_sl ([.ref (adK 0)]) ++ List.replicate (1 - (lg_sl ([.ref (adK 0)])).length) Slot.unset).toArray = ls at hl ⊢
  have hl : lv_has ls 1 [(0, .ref (adK 0))] := hl
  refine va_gets hx hb hG.1 hS hown (hts _ (List.mem_cons_of_mem _ mw_592)) (fun _ h9 => h9) d_Sg_coder_0 ?_
  refine lv_if_eq (tgt := 13) hx hb d_Sg_coder_3 (by decide) (fun h => absurd h (by decide)) (fun _ => ?_)
  refine lv_aload_n hx hb d_Sg_coder_6 rfl (lv_at hl 0 rfl) ?_
  refine vk_getf hx hb (hG.2.1.1 0 (by decide)).2.1 hS hown (hts _ (List.mem_cons_of_mem _ mw_2701)) (fun _ h9 => h9) d_Sg_coder_7 ?_
  refine lv_goto (tgt := 14) hx hb d_Sg_coder_10 (by decide) ?_
  exact W.zret (v := 0) (ty := .byte) hx hb hr (by decide) (fun t ht hW => ⟨⟨_, (), rfl, (rfl), trivial⟩, hS.F ht⟩) hS.2.2 d_Sg_coder_14
abbrev t_Sg_isLatin1_18 : List UInt8 := 172 :: []
abbrev t_Sg_isLatin1_17 : List UInt8 := 3 :: t_Sg_isLatin1_18
abbrev t_Sg_isLatin1_14 : List UInt8 := 167 :: 0 :: 4 :: t_Sg_isLatin1_17
abbrev t_Sg_isLatin1_13 : List UInt8 := 4 :: t_Sg_isLatin1_14
abbrev t_Sg_isLatin1_10 : List UInt8 := 154 :: 0 :: 7 :: t_Sg_isLatin1_13
abbrev t_Sg_isLatin1_7 : List UInt8 := 180 :: 0 :: 15 :: t_Sg_isLatin1_10
abbrev t_Sg_isLatin1_6 : List UInt8 := 42 :: t_Sg_isLatin1_7
abbrev t_Sg_isLatin1_3 : List UInt8 := 153 :: 0 :: 14 :: t_Sg_isLatin1_6
abbrev t_Sg_isLatin1_0 : List UInt8 := 178 :: 0 :: 38 :: t_Sg_isLatin1_3
theorem a_Sg_isLatin1_0 : dk_at b_Sg_isLatin1 0 t_Sg_isLatin1_0 := dk_start (by decide +kernel)
theorem a_Sg_isLatin1_3 : dk_at b_Sg_isLatin1 3 t_Sg_isLatin1_3 := dk_go 3 a_Sg_isLatin1_0 rfl
theorem a_Sg_isLatin1_6 : dk_at b_Sg_isLatin1 6 t_Sg_isLatin1_6 := dk_go 3 a_Sg_isLatin1_3 rfl
theorem a_Sg_isLatin1_7 : dk_at b_Sg_isLatin1 7 t_Sg_isLatin1_7 := dk_go 1 a_Sg_isLatin1_6 rfl
theorem a_Sg_isLatin1_10 : dk_at b_Sg_isLatin1 10 t_Sg_isLatin1_10 := dk_go 3 a_Sg_isLatin1_7 rfl
theorem a_Sg_isLatin1_13 : dk_at b_Sg_isLatin1 13 t_Sg_isLatin1_13 := dk_go 3 a_Sg_isLatin1_10 rfl
theorem a_Sg_isLatin1_14 : dk_at b_Sg_isLatin1 14 t_Sg_isLatin1_14 := dk_go 1 a_Sg_isLatin1_13 rfl
theorem a_Sg_isLatin1_17 : dk_at b_Sg_isLatin1 17 t_Sg_isLatin1_17 := dk_go 3 a_Sg_isLatin1_14 rfl
theorem a_Sg_isLatin1_18 : dk_at b_Sg_isLatin1 18 t_Sg_isLatin1_18 := dk_go 1 a_Sg_isLatin1_17 rfl
theorem d_Sg_isLatin1_0 : decode b_Sg_isLatin1 0 = .ok (.getstatic 38, 3) := dk_U2 a_Sg_isLatin1_0 (dko_178 _) rfl
theorem d_Sg_isLatin1_3 : decode b_Sg_isLatin1 3 = .ok (.ifCond .eq 14, 3) := dk_S2 a_Sg_isLatin1_3 (dko_153 _) (by decide +kernel)
theorem d_Sg_isLatin1_6 : decode b_Sg_isLatin1 6 = .ok (.aload_n 0, 1) := dk_0 a_Sg_isLatin1_6 (dko_42 _)
theorem d_Sg_isLatin1_7 : decode b_Sg_isLatin1 7 = .ok (.getfield 15, 3) := dk_U2 a_Sg_isLatin1_7 (dko_180 _) rfl
theorem d_Sg_isLatin1_10 : decode b_Sg_isLatin1 10 = .ok (.ifCond .ne 7, 3) := dk_S2 a_Sg_isLatin1_10 (dko_154 _) (by decide +kernel)
theorem d_Sg_isLatin1_13 : decode b_Sg_isLatin1 13 = .ok (.iconst 1, 1) := dk_0 a_Sg_isLatin1_13 (dko_4 _)
theorem d_Sg_isLatin1_14 : decode b_Sg_isLatin1 14 = .ok (.goto 4, 3) := dk_S2 a_Sg_isLatin1_14 (dko_167 _) (by decide +kernel)
theorem d_Sg_isLatin1_18 : decode b_Sg_isLatin1 18 = .ok (.ireturn, 1) := dk_0 a_Sg_isLatin1_18 (dko_172 _)
set_option maxHeartbeats 4000000 in
set_option maxRecDepth 100000 in
theorem c_Sg_isLatin1 (l : Launch) (dC : Nat → ClassId) (dI : Nat → Nat → Nat) (cI cB cZ cJ : ClassId) (ln : Nat) (bs : List Int32) (hln : ln < 200) (adK adV : Nat → Nat)  (sz : Nat) : Met l y_Sg_isLatin1 w_Sg_isLatin1 ({ frames := 0, cells := 0, slots := 0, locals := 0 }) (va_Pc [.ref (adK 0)] (PWT dC dI cI cB cZ cJ ln bs adK adV sz)) (va_Qi (fun (r : Int32) (_ : Unit) => r = 1) (fun _ _ => True) (va_A [] sz)) 0 0 (va_A [] sz) := by
  refine Met.ofW (cc := b_Sg_isLatin1) (maxL := 1) (ret := (some .boolean)) (by decide) rfl ?_
  intro p e s m args below meth c s₁ B hml hv
  obtain ⟨rfl, ⟨hsz, hP, hK, hD⟩, hG⟩ := hv
  have hx := B.exec
  have hb := B.bytes
  have hr := B.returns
  have hts := atoms_spec (ws := w_Sg_isLatin1) B.pre
  have hown : s.vm.findClass R_Sg = some m.cls := findClass_of_methodNamed B.named
  have hlocks := B.notSynchronized
  subst hsz
  generalize hAe : va_A [] s.heap.size = A at hG ⊢
  have hA : ∀ q : Nat, s.heap.size ≤ q → A q := fun q h => by rw [← hAe]; exact Or.inr h
  have hS : va_S A s.heap s.heap [] := va_S.rf
  have hP : va_P (dC, dI) classes [] s.heap := hP
  have hl := lv_entry ([.ref (adK 0)]) (n := 1) (Nat.le_of_ble_eq_true rfl)
  rw [lg_entry_eq]
  generalize (lg_sl ([.ref (adK 0)]) ++ List.replicate (1 - (lg_sl ([.ref (adK 0)])).length) Slot.unset).toArray = ls at hl ⊢
  have hl : lv_has ls 1 [(0, .ref (adK 0))] := hl
  refine va_gets hx hb hG.1 hS hown (hts _ (List.mem_cons_of_mem _ mw_592)) (fun _ h9 => h9) d_Sg_isLatin1_0 ?_
  refine lv_if_eq (tgt := 17) hx hb d_Sg_isLatin1_3 (by decide) (fun h => absurd h (by decide)) (fun _ => ?_)
  refine lv_aload_n hx hb d_Sg_isLatin1_6 rfl (lv_at hl 0 rfl) ?_
  refine vk_getf hx hb (hG.2.1.1 0 (by decide)).2.1 hS hown (hts _ (List.mem_cons_of_mem _ mw_2701)) (fun _ h9 => h9) d_Sg_isLatin1_7 ?_
  refine lv_if_ne (tgt := 17) hx hb d_Sg_isLatin1_10 (by decide) (fun h => absurd rfl h) (fun _ => ?_)
  refine lv_iconst (v := 1) hx hb d_Sg_isLatin1_13 (by decide) ?_
  refine lv_goto (tgt := 18) hx hb d_Sg_isLatin1_14 (by decide) ?_
  exact W.zret (v := 1) (ty := .boolean) hx hb hr (by decide) (fun t ht hW => ⟨⟨_, (), rfl, (rfl), trivial⟩, hS.F ht⟩) hS.2.2 d_Sg_isLatin1_18
abbrev t_Sg_length_10 : List UInt8 := 172 :: []
abbrev t_Sg_length_9 : List UInt8 := 122 :: t_Sg_length_10
abbrev t_Sg_length_6 : List UInt8 := 182 :: 1 :: 79 :: t_Sg_length_9
abbrev t_Sg_length_5 : List UInt8 := 42 :: t_Sg_length_6
abbrev t_Sg_length_4 : List UInt8 := 190 :: t_Sg_length_5
abbrev t_Sg_length_1 : List UInt8 := 180 :: 0 :: 9 :: t_Sg_length_4
abbrev t_Sg_length_0 : List UInt8 := 42 :: t_Sg_length_1
theorem a_Sg_length_0 : dk_at b_Sg_length 0 t_Sg_length_0 := dk_start (by decide +kernel)
theorem a_Sg_length_1 : dk_at b_Sg_length 1 t_Sg_length_1 := dk_go 1 a_Sg_length_0 rfl
theorem a_Sg_length_4 : dk_at b_Sg_length 4 t_Sg_length_4 := dk_go 3 a_Sg_length_1 rfl
theorem a_Sg_length_5 : dk_at b_Sg_length 5 t_Sg_length_5 := dk_go 1 a_Sg_length_4 rfl
theorem a_Sg_length_6 : dk_at b_Sg_length 6 t_Sg_length_6 := dk_go 1 a_Sg_length_5 rfl
theorem a_Sg_length_9 : dk_at b_Sg_length 9 t_Sg_length_9 := dk_go 3 a_Sg_length_6 rfl
theorem a_Sg_length_10 : dk_at b_Sg_length 10 t_Sg_length_10 := dk_go 1 a_Sg_length_9 rfl
theorem d_Sg_length_0 : decode b_Sg_length 0 = .ok (.aload_n 0, 1) := dk_0 a_Sg_length_0 (dko_42 _)
theorem d_Sg_length_1 : decode b_Sg_length 1 = .ok (.getfield 9, 3) := dk_U2 a_Sg_length_1 (dko_180 _) rfl
theorem d_Sg_length_4 : decode b_Sg_length 4 = .ok (.arraylength, 1) := dk_0 a_Sg_length_4 (dko_190 _)
theorem d_Sg_length_5 : decode b_Sg_length 5 = .ok (.aload_n 0, 1) := dk_0 a_Sg_length_5 (dko_42 _)
theorem d_Sg_length_6 : decode b_Sg_length 6 = .ok (.invokevirtual 335, 3) := dk_U2 a_Sg_length_6 (dko_182 _) rfl
theorem d_Sg_length_9 : decode b_Sg_length 9 = .ok (.ishr, 1) := dk_0 a_Sg_length_9 (dko_122 _)
theorem d_Sg_length_10 : decode b_Sg_length 10 = .ok (.ireturn, 1) := dk_0 a_Sg_length_10 (dko_172 _)
set_option maxHeartbeats 4000000 in
set_option maxRecDepth 100000 in
theorem c_Sg_length (l : Launch) (dC : Nat → ClassId) (dI : Nat → Nat → Nat) (cI cB cZ cJ : ClassId) (ln : Nat) (bs : List Int32) (hln : ln < 200) (adK adV : Nat → Nat)  (sz : Nat) : Met l y_Sg_length w_Sg_length ({ frames := 1, cells := 0, slots := 0, locals := 20 }) (va_Pc [.ref (adK 0)] (PWT dC dI cI cB cZ cJ ln bs adK adV sz)) (va_Qi (fun (r : Int32) (_ : Unit) => r = (nI ln)) (fun _ _ => True) (va_A [] sz)) 0 0 (va_A [] sz) := by
  refine Met.ofW (cc := b_Sg_length) (maxL := 1) (ret := (some .int)) (by decide) rfl ?_
  intro p e s m args below meth c s₁ B hml hv
  obtain ⟨rfl, ⟨hsz, hP, hK, hD⟩, hG⟩ := hv
  have hx := B.exec
  have hb := B.bytes
  have hr := B.returns
  have hts := atoms_spec (ws := w_Sg_length) B.pre
  have hown : s.vm.findClass R_Sg = some m.cls := findClass_of_methodNamed B.named
  have hlocks := B.notSynchronized
  subst hsz
  generalize hAe : va_A [] s.heap.size = A at hG ⊢
  have hA : ∀ q : Nat, s.heap.size ≤ q → A q := fun q h => by rw [← hAe]; exact Or.inr h
  have hS : va_S A s.heap s.heap [] := va_S.rf
  have hP : va_P (dC, dI) classes [] s.heap := hP
  have hl := lv_entry ([.ref (adK 0)]) (n := 1) (Nat.le_of_ble_eq_true rfl)
  rw [lg_entry_eq]
  generalize (lg_sl ([.ref (adK 0)]) ++ List.replicate (1 - (lg_sl ([.ref (adK 0)])).length) Slot.unset).toArray = ls at hl ⊢
  have hl : lv_has ls 1 [(0, .ref (adK 0))] := hl
  refine lv_aload_n hx hb d_Sg_length_0 rfl (lv_at hl 0 rfl) ?_
  refine vk_getf hx hb (hG.2.1.1 0 (by decide)).2.2.1 hS hown (hts _ (List.mem_cons_of_mem _ mw_2700)) (fun _ h9 => h9) d_Sg_length_1 ?_
  refine va_tlen hx hb (hG.2.1.1 0 (by decide)).2.2.2 hS (v := (nI ln)) rfl d_Sg_length_4 ?_
  refine lv_aload_n hx hb d_Sg_length_5 rfl (lv_at hl 0 rfl) ?_
  have hPc := hP.sub (ws' := []) [] rfl
  have hDc := hD.sub (ws' := []) [] (by decide) rfl
  have hFc := pu_free hS hA
  refine va_calli (va_runV (C := R_Sg) (As := []) (rest := [.int (nI ln)]) ⟨hx, hb, hml, hown, hts⟩ (c_Sg_coder l dC dI cI cB cZ cJ ln bs hln adK adV  s.heap.size) (cwV 0 hts (tb_V mw_588 mw_589 mw_590 mw_14 mw_591) rfl rfl rfl ⟨rfl, by decide +kernel, by decide +kernel, by decide +kernel⟩ ⟨(Nat.le_of_ble_eq_true rfl), (Nat.le_of_ble_eq_true rfl)⟩) ⟨pwt_blind, vk_recv hG.2.1 (i := 0) (by decide) hS, pwt_pre hPc hK hDc hG hS hFc⟩ rfl rfl hl.1 rfl (lv_room (Nat.le_of_ble_eq_true rfl)) d_Sg_length_6 ⟨(Nat.le_of_ble_eq_true rfl), (Nat.le_of_ble_eq_true rfl)⟩) hS (fun q _ h => hFc q h) hFc (fun r u t H locs ht hvm hw hB hz1 hk1 hS => ?_)
  have hP := pu_kept hP hk1
  obtain rfl : r = 0 := hw
  refine lv_ishr hx hb d_Sg_length_9 ?_
  refine lv_topi (fun x0 e0 => ?_)
  obtain rfl : x0 = (nI ln) := e0.trans (sh_id _)
  exact W.iret (v := (nI ln)) hx hb hr (fun t ht hW => ⟨⟨_, (), rfl, (rfl), trivial⟩, hS.F ht⟩) hS.2.2 d_Sg_length_10
abbrev t_Pc_checkIndex_17 : List UInt8 := 172 :: []
abbrev t_Pc_checkIndex_16 : List UInt8 := 26 :: t_Pc_checkIndex_17
abbrev t_Pc_checkIndex_15 : List UInt8 := 191 :: t_Pc_checkIndex_16
abbrev t_Pc_checkIndex_12 : List UInt8 := 184 :: 0 :: 95 :: t_Pc_checkIndex_15
abbrev t_Pc_checkIndex_11 : List UInt8 := 27 :: t_Pc_checkIndex_12
abbrev t_Pc_checkIndex_10 : List UInt8 := 26 :: t_Pc_checkIndex_11
abbrev t_Pc_checkIndex_9 : List UInt8 := 44 :: t_Pc_checkIndex_10
abbrev t_Pc_checkIndex_6 : List UInt8 := 161 :: 0 :: 10 :: t_Pc_checkIndex_9
abbrev t_Pc_checkIndex_5 : List UInt8 := 27 :: t_Pc_checkIndex_6
abbrev t_Pc_checkIndex_4 : List UInt8 := 26 :: t_Pc_checkIndex_5
abbrev t_Pc_checkIndex_1 : List UInt8 := 155 :: 0 :: 8 :: t_Pc_checkIndex_4
abbrev t_Pc_checkIndex_0 : List UInt8 := 26 :: t_Pc_checkIndex_1
theorem a_Pc_checkIndex_0 : dk_at b_Pc_checkIndex 0 t_Pc_checkIndex_0 := dk_start (by decide +kernel)
theorem a_Pc_checkIndex_1 : dk_at b_Pc_checkIndex 1 t_Pc_checkIndex_1 := dk_go 1 a_Pc_checkIndex_0 rfl
theorem a_Pc_checkIndex_4 : dk_at b_Pc_checkIndex 4 t_Pc_checkIndex_4 := dk_go 3 a_Pc_checkIndex_1 rfl
theorem a_Pc_checkIndex_5 : dk_at b_Pc_checkIndex 5 t_Pc_checkIndex_5 := dk_go 1 a_Pc_checkIndex_4 rfl
theorem a_Pc_checkIndex_6 : dk_at b_Pc_checkIndex 6 t_Pc_checkIndex_6 := dk_go 1 a_Pc_checkIndex_5 rfl
theorem a_Pc_checkIndex_9 : dk_at b_Pc_checkIndex 9 t_Pc_checkIndex_9 := dk_go 3 a_Pc_checkIndex_6 rfl
theorem a_Pc_checkIndex_10 : dk_at b_Pc_checkIndex 10 t_Pc_checkIndex_10 := dk_go 1 a_Pc_checkIndex_9 rfl
theorem a_Pc_checkIndex_11 : dk_at b_Pc_checkIndex 11 t_Pc_checkIndex_11 := dk_go 1 a_Pc_checkIndex_10 rfl
theorem a_Pc_checkIndex_12 : dk_at b_Pc_checkIndex 12 t_Pc_checkIndex_12 := dk_go 1 a_Pc_checkIndex_11 rfl
theorem a_Pc_checkIndex_15 : dk_at b_Pc_checkIndex 15 t_Pc_checkIndex_15 := dk_go 3 a_Pc_checkIndex_12 rfl
theorem a_Pc_checkIndex_16 : dk_at b_Pc_checkIndex 16 t_Pc_checkIndex_16 := dk_go 1 a_Pc_checkIndex_15 rfl
theorem a_Pc_checkIndex_17 : dk_at b_Pc_checkIndex 17 t_Pc_checkIndex_17 := dk_go 1 a_Pc_checkIndex_16 rfl
theorem d_Pc_checkIndex_0 : decode b_Pc_checkIndex 0 = .ok (.iload_n 0, 1) := dk_0 a_Pc_checkIndex_0 (dko_26 _)
theorem d_Pc_checkIndex_1 : decode b_Pc_checkIndex 1 = .ok (.ifCond .lt 8, 3) := dk_S2 a_Pc_checkIndex_1 (dko_155 _) (by decide +kernel)
theorem d_Pc_checkIndex_4 : decode b_Pc_checkIndex 4 = .ok (.iload_n 0, 1) := dk_0 a_Pc_checkIndex_4 (dko_26 _)
theorem d_Pc_checkIndex_5 : decode b_Pc_checkIndex 5 = .ok (.iload_n 1, 1) := dk_0 a_Pc_checkIndex_5 (dko_27 _)
theorem d_Pc_checkIndex_6 : decode b_Pc_checkIndex 6 = .ok (.if_icmp .lt 10, 3) := dk_S2 a_Pc_checkIndex_6 (dko_161 _) (by decide +kernel)
theorem d_Pc_checkIndex_16 : decode b_Pc_checkIndex 16 = .ok (.iload_n 0, 1) := dk_0 a_Pc_checkIndex_16 (dko_26 _)
theorem d_Pc_checkIndex_17 : decode b_Pc_checkIndex 17 = .ok (.ireturn, 1) := dk_0 a_Pc_checkIndex_17 (dko_172 _)
set_option maxHeartbeats 4000000 in
set_option maxRecDepth 100000 in
theorem c_Pc_checkIndex0 (l : Launch) (dC : Nat → ClassId) (dI : Nat → Nat → Nat) (cI cB cZ cJ : ClassId) (ln : Nat) (bs : List Int32) (hln : ln < 200) (adK adV : Nat → Nat) (kk : Int32) (nn : Int32) (hp0 : ¬ kk < 0) (hp1 : ¬ nn ≤ kk) (sz : Nat) : Met l y_Pc_checkIndex w_Pc_checkIndex ({ frames := 0, cells := 0, slots := 0, locals := 0 }) (va_Pc [.int kk, .int nn, .null] (PWT dC dI cI cB cZ cJ ln bs adK adV sz)) (va_Qi (fun (r : Int32) (_ : Unit) => r = kk) (fun _ _ => True) (va_A [] sz)) 0 0 (va_A [] sz) := by
  refine Met.ofW (cc := b_Pc_checkIndex) (maxL := 3) (ret := (some .int)) (by decide) rfl ?_
  intro p e s m args below meth c s₁ B hml hv
  obtain ⟨rfl, ⟨hsz, hP, hK, hD⟩, hG⟩ := hv
  have hx := B.exec
  have hb := B.bytes
  have hr := B.returns
  have hts := atoms_spec (ws := w_Pc_checkIndex) B.pre
  have hown : s.vm.findClass R_Pc = some m.cls := findClass_of_methodNamed B.named
  have hlocks := B.notSynchronized
  subst hsz
  generalize hAe : va_A [] s.heap.size = A at hG ⊢
  have hA : ∀ q : Nat, s.heap.size ≤ q → A q := fun q h => by rw [← hAe]; exact Or.inr h
  have hS : va_S A s.heap s.heap [] := va_S.rf
  have hP : va_P (dC, dI) classes [] s.heap := hP
  have hl := lv_entry ([.int kk, .int nn, .null]) (n := 3) (Nat.le_of_ble_eq_true rfl)
  rw [lg_entry_eq]
  generalize (lg_sl ([.int kk, .int nn, .null]) ++ List.replicate (3 - (lg_sl ([.int kk, .int nn, .null])).length) Slot.unset).toArray = ls at hl ⊢
  have hl : lv_has ls 3 [(0, .int kk), (1, .int nn), (2, .null)] := hl
  refine lv_iload_n hx hb d_Pc_checkIndex_0 rfl (lv_at hl 0 rfl) ?_
  refine lv_if_lt (tgt := 9) hx hb d_Pc_checkIndex_1 (by decide) (fun h => absurd h (nv_lt hp0 (by decide))) (fun _ => ?_)
  refine lv_iload_n hx hb d_Pc_checkIndex_4 rfl (lv_at hl 0 rfl) ?_
  refine lv_iload_n hx hb d_Pc_checkIndex_5 rfl (lv_at hl 1 rfl) ?_
  refine lv_icmp_lt (tgt := 16) hx hb d_Pc_checkIndex_6 (by decide) (fun _ => ?_) (fun h => absurd (Int32.not_le.mp hp1) h)
  refine lv_iload_n hx hb d_Pc_checkIndex_16 rfl (lv_at hl 0 rfl) ?_
  exact W.iret (v := kk) hx hb hr (fun t ht hW => ⟨⟨_, (), rfl, (rfl), trivial⟩, hS.F ht⟩) hS.2.2 d_Pc_checkIndex_17
set_option maxHeartbeats 4000000 in
set_option maxRecDepth 100000 in
theorem c_Pc_checkIndex1 (l : Launch) (dC : Nat → ClassId) (dI : Nat → Nat → Nat) (cI cB cZ cJ : ClassId) (ln : Nat) (bs : List Int32) (hln : ln < 200) (adK adV : Nat → Nat) (kk : Int32) (nn : Int32) (hp0 : ¬ kk < 0) (hp1 : ¬ nn ≤ kk) (tz : Nat) (sz : Nat) : Met l y_Pc_checkIndex w_Pc_checkIndex ({ frames := 0, cells := 0, slots := 0, locals := 0 }) (va_Pc [.int kk, .int nn, .ref tz] (PWT dC dI cI cB cZ cJ ln bs adK adV sz)) (va_Qi (fun (r : Int32) (_ : Unit) => r = kk) (fun _ _ => True) (va_A [] sz)) 0 0 (va_A [] sz) := by
  refine Met.ofW (cc := b_Pc_checkIndex) (maxL := 3) (ret := (some .int)) (by decide) rfl ?_
  intro p e s m args below meth c s₁ B hml hv
  obtain ⟨rfl, ⟨hsz, hP, hK, hD⟩, hG⟩ := hv
  have hx := B.exec
  have hb := B.bytes
  have hr := B.returns
  have hts := atoms_spec (ws := w_Pc_checkIndex) B.pre
  have hown : s.vm.findClass R_Pc = some m.cls := findClass_of_methodNamed B.named
  have hlocks := B.notSynchronized
  subst hsz
  generalize hAe : va_A [] s.heap.size = A at hG ⊢
  have hA : ∀ q : Nat, s.heap.size ≤ q → A q := fun q h => by rw [← hAe]; exact Or.inr h
  have hS : va_S A s.heap s.heap [] := va_S.rf
  have hP : va_P (dC, dI) classes [] s.heap := hP
  have hl := lv_entry ([.int kk, .int nn, .ref tz]) (n := 3) (Nat.le_of_ble_eq_true rfl)
  rw [lg_entry_eq]
  generalize (lg_sl ([.int kk, .int nn, .ref tz]) ++ List.replicate (3 - (lg_sl ([.int kk, .int nn, .ref tz])).length) Slot.unset).toArray = ls at hl ⊢
  have hl : lv_has ls 3 [(0, .int kk), (1, .int nn), (2, .ref tz)] := hl
  refine lv_iload_n hx hb d_Pc_checkIndex_0 rfl (lv_at hl 0 rfl) ?_
  refine lv_if_lt (tgt := 9) hx hb d_Pc_checkIndex_1 (by decide) (fun h => absurd h (nv_lt hp0 (by decide))) (fun _ => ?_)
  refine lv_iload_n hx hb d_Pc_checkIndex_4 rfl (lv_at hl 0 rfl) ?_
  refine lv_iload_n hx hb d_Pc_checkIndex_5 rfl (lv_at hl 1 rfl) ?_
  refine lv_icmp_lt (tgt := 16) hx hb d_Pc_checkIndex_6 (by decide) (fun _ => ?_) (fun h => absurd (Int32.not_le.mp hp1) h)
  refine lv_iload_n hx hb d_Pc_checkIndex_16 rfl (lv_at hl 0 rfl) ?_
  exact W.iret (v := kk) hx hb hr (fun t ht hW => ⟨⟨_, (), rfl, (rfl), trivial⟩, hS.F ht⟩) hS.2.2 d_Pc_checkIndex_17
abbrev t_Sg_checkIndex_9 : List UInt8 := 177 :: []
abbrev t_Sg_checkIndex_8 : List UInt8 := 87 :: t_Sg_checkIndex_9
abbrev t_Sg_checkIndex_5 : List UInt8 := 184 :: 4 :: 35 :: t_Sg_checkIndex_8
abbrev t_Sg_checkIndex_2 : List UInt8 := 178 :: 4 :: 29 :: t_Sg_checkIndex_5
abbrev t_Sg_checkIndex_1 : List UInt8 := 27 :: t_Sg_checkIndex_2
abbrev t_Sg_checkIndex_0 : List UInt8 := 26 :: t_Sg_checkIndex_1
theorem a_Sg_checkIndex_0 : dk_at b_Sg_checkIndex 0 t_Sg_checkIndex_0 := dk_start (by decide +kernel)
theorem a_Sg_checkIndex_1 : dk_at b_Sg_checkIndex 1 t_Sg_checkIndex_1 := dk_go 1 a_Sg_checkIndex_0 rfl
theorem a_Sg_checkIndex_2 : dk_at b_Sg_checkIndex 2 t_Sg_checkIndex_2 := dk_go 1 a_Sg_checkIndex_1 rfl
theorem a_Sg_checkIndex_5 : dk_at b_Sg_checkIndex 5 t_Sg_checkIndex_5 := dk_go 3 a_Sg_checkIndex_2 rfl
theorem a_Sg_checkIndex_8 : dk_at b_Sg_checkIndex 8 t_Sg_checkIndex_8 := dk_go 3 a_Sg_checkIndex_5 rfl
theorem a_Sg_checkIndex_9 : dk_at b_Sg_checkIndex 9 t_Sg_checkIndex_9 := dk_go 1 a_Sg_checkIndex_8 rfl
theorem d_Sg_checkIndex_0 : decode b_Sg_checkIndex 0 = .ok (.iload_n 0, 1) := dk_0 a_Sg_checkIndex_0 (dko_26 _)
theorem d_Sg_checkIndex_1 : decode b_Sg_checkIndex 1 = .ok (.iload_n 1, 1) := dk_0 a_Sg_checkIndex_1 (dko_27 _)
theorem d_Sg_checkIndex_2 : decode b_Sg_checkIndex 2 = .ok (.getstatic 1053, 3) := dk_U2 a_Sg_checkIndex_2 (dko_178 _) rfl
theorem d_Sg_checkIndex_5 : decode b_Sg_checkIndex 5 = .ok (.invokestatic 1059, 3) := dk_U2 a_Sg_checkIndex_5 (dko_184 _) rfl
theorem d_Sg_checkIndex_8 : decode b_Sg_checkIndex 8 = .ok (.pop, 1) := dk_0 a_Sg_checkIndex_8 (dko_87 _)
theorem d_Sg_checkIndex_9 : decode b_Sg_checkIndex 9 = .ok (.return_, 1) := dk_0 a_Sg_checkIndex_9 (dko_177 _)
set_option maxHeartbeats 4000000 in
set_option maxRecDepth 100000 in
theorem c_Sg_checkIndex (l : Launch) (dC : Nat → ClassId) (dI : Nat → Nat → Nat) (cI cB cZ cJ : ClassId) (ln : Nat) (bs : List Int32) (hln : ln < 200) (adK adV : Nat → Nat) (kk : Int32) (nn : Int32) (hp0 : ¬ kk < 0) (hp1 : ¬ nn ≤ kk) (sz : Nat) : Met l y_Sg_checkIndex w_Sg_checkIndex ({ frames := 1, cells := 0, slots := 0, locals := 22 }) (va_Pc [.int kk, .int nn] (PWT dC dI cI cB cZ cJ ln bs adK adV sz)) (va_Qv (fun _ : Unit => True) (fun _ _ => True) (va_A [] sz)) 0 0 (va_A [] sz) := by
  refine Met.ofW (cc := b_Sg_checkIndex) (maxL := 2) (ret := none) (by decide) rfl ?_
  intro p e s m args below meth c s₁ B hml hv
  obtain ⟨rfl, ⟨hsz, hP, hK, hD⟩, hG⟩ := hv
  have hx := B.exec
  have hb := B.bytes
  have hr := B.returns
  have hts := atoms_spec (ws := w_Sg_checkIndex) B.pre
  have hown : s.vm.findClass R_Sg = some m.cls := findClass_of_methodNamed B.named
  have hlocks := B.notSynchronized
  subst hsz
  generalize hAe : va_A [] s.heap.size = A at hG ⊢
  have hA : ∀ q : Nat, s.heap.size ≤ q → A q := fun q h => by rw [← hAe]; exact Or.inr h
  have hS : va_S A s.heap s.heap [] := va_S.rf
  have hP : va_P (dC, dI) classes [] s.heap := hP
  have hl := lv_entry ([.int kk, .int nn]) (n := 2) (Nat.le_of_ble_eq_true rfl)
  rw [lg_entry_eq]
  generalize (lg_sl ([.int kk, .int nn]) ++ List.replicate (2 - (lg_sl ([.int kk, .int nn])).length) Slot.unset).toArray = ls at hl ⊢
  have hl : lv_has ls 2 [(0, .int kk), (1, .int nn)] := hl
  refine lv_iload_n hx hb d_Sg_checkIndex_0 rfl (lv_at hl 0 rfl) ?_
  refine lv_iload_n hx hb d_Sg_checkIndex_1 rfl (lv_at hl 1 rfl) ?_
  rcases hG.2.2 with hz | ⟨tz, hz⟩
  · refine va_gets hx hb hz hS hown (hts _ (List.mem_cons_of_mem _ mw_608)) (fun _ h9 => h9) d_Sg_checkIndex_2 ?_
    have hPc := hP.sub (ws' := []) [] rfl
    have hDc := hD.sub (ws' := []) [] (by decide) rfl
    have hFc := pu_free hS hA
    refine va_calli (va_runS (As := [.int kk, .int nn, .null]) (rest := []) ⟨hx, hb, hml, hown, hts⟩ (c_Pc_checkIndex0 l dC dI cI cB cZ cJ ln bs hln adK adV kk nn hp0 hp1 s.heap.size) (va_cwS 3 hts (tb_S2 mw_610 mw_611 mw_16 mw_612) rfl rfl rfl ⟨by decide +kernel, by decide +kernel, by decide +kernel⟩ ⟨(Nat.le_of_ble_eq_true rfl), (Nat.le_of_ble_eq_true rfl)⟩) ⟨pwt_blind, pwt_pre hPc hK hDc hG hS hFc⟩ rfl rfl hl.1 rfl (lv_room (Nat.le_of_ble_eq_true rfl)) d_Sg_checkIndex_5 ⟨(Nat.le_of_ble_eq_true rfl), (Nat.le_of_ble_eq_true rfl)⟩) hS (fun q _ h => hFc q h) hFc (fun r u t H locs ht hvm hw hB hz1 hk1 hS => ?_)
    have hP := pu_kept hP hk1
    obtain rfl : r = kk := hw
    refine lv_pop hx hb d_Sg_checkIndex_8 rfl ?_
    exact W.vret hx hb hr (fun t ht hW => ⟨⟨(), rfl, trivial, trivial⟩, hS.F ht⟩) hS.2.2 d_Sg_checkIndex_9
  · refine va_gets hx hb hz hS hown (hts _ (List.mem_cons_of_mem _ mw_608)) (fun _ h9 => h9) d_Sg_checkIndex_2 ?_
    have hPc := hP.sub (ws' := []) [] rfl
    have hDc := hD.sub (ws' := []) [] (by decide) rfl
    have hFc := pu_free hS hA
    refine va_calli (va_runS (As := [.int kk, .int nn, .ref tz]) (rest := []) ⟨hx, hb, hml, hown, hts⟩ (c_Pc_checkIndex1 l dC dI cI cB cZ cJ ln bs hln adK adV kk nn hp0 hp1 tz s.heap.size) (va_cwS 3 hts (tb_S2 mw_610 mw_611 mw_16 mw_612) rfl rfl rfl ⟨by decide +kernel, by decide +kernel, by decide +kernel⟩ ⟨(Nat.le_of_ble_eq_true rfl), (Nat.le_of_ble_eq_true rfl)⟩) ⟨pwt_blind, pwt_pre hPc hK hDc hG hS hFc⟩ rfl rfl hl.1 rfl (lv_room (Nat.le_of_ble_eq_true rfl)) d_Sg_checkIndex_5 ⟨(Nat.le_of_ble_eq_true rfl), (Nat.le_of_ble_eq_true rfl)⟩) hS (fun q _ h => hFc q h) hFc (fun r u t H locs ht hvm hw hB hz1 hk1 hS => ?_)
    have hP := pu_kept hP hk1
    obtain rfl : r = kk := hw
    refine lv_pop hx hb d_Sg_checkIndex_8 rfl ?_
    exact W.vret hx hb hr (fun t ht hW => ⟨⟨(), rfl, trivial, trivial⟩, hS.F ht⟩) hS.2.2 d_Sg_checkIndex_9
abbrev t_Sl_charAt_14 : List UInt8 := 172 :: []
abbrev t_Sl_charAt_13 : List UInt8 := 146 :: t_Sl_charAt_14
abbrev t_Sl_charAt_12 : List UInt8 := 126 :: t_Sl_charAt_13
abbrev t_Sl_charAt_9 : List UInt8 := 17 :: 0 :: 255 :: t_Sl_charAt_12
abbrev t_Sl_charAt_8 : List UInt8 := 51 :: t_Sl_charAt_9
abbrev t_Sl_charAt_7 : List UInt8 := 27 :: t_Sl_charAt_8
abbrev t_Sl_charAt_6 : List UInt8 := 42 :: t_Sl_charAt_7
abbrev t_Sl_charAt_3 : List UInt8 := 184 :: 0 :: 9 :: t_Sl_charAt_6
abbrev t_Sl_charAt_2 : List UInt8 := 190 :: t_Sl_charAt_3
abbrev t_Sl_charAt_1 : List UInt8 := 42 :: t_Sl_charAt_2
abbrev t_Sl_charAt_0 : List UInt8 := 27 :: t_Sl_charAt_1
theorem a_Sl_charAt_0 : dk_at b_Sl_charAt 0 t_Sl_charAt_0 := dk_start (by decide +kernel)
theorem a_Sl_charAt_1 : dk_at b_Sl_charAt 1 t_Sl_charAt_1 := dk_go 1 a_Sl_charAt_0 rfl
theorem a_Sl_charAt_2 : dk_at b_Sl_charAt 2 t_Sl_charAt_2 := dk_go 1 a_Sl_charAt_1 rfl
theorem a_Sl_charAt_3 : dk_at b_Sl_charAt 3 t_Sl_charAt_3 := dk_go 1 a_Sl_charAt_2 rfl
theorem a_Sl_charAt_6 : dk_at b_Sl_charAt 6 t_Sl_charAt_6 := dk_go 3 a_Sl_charAt_3 rfl
theorem a_Sl_charAt_7 : dk_at b_Sl_charAt 7 t_Sl_charAt_7 := dk_go 1 a_Sl_charAt_6 rfl
theorem a_Sl_charAt_8 : dk_at b_Sl_charAt 8 t_Sl_charAt_8 := dk_go 1 a_Sl_charAt_7 rfl
theorem a_Sl_charAt_9 : dk_at b_Sl_charAt 9 t_Sl_charAt_9 := dk_go 1 a_Sl_charAt_8 rfl
theorem a_Sl_charAt_12 : dk_at b_Sl_charAt 12 t_Sl_charAt_12 := dk_go 3 a_Sl_charAt_9 rfl
theorem a_Sl_charAt_13 : dk_at b_Sl_charAt 13 t_Sl_charAt_13 := dk_go 1 a_Sl_charAt_12 rfl
theorem a_Sl_charAt_14 : dk_at b_Sl_charAt 14 t_Sl_charAt_14 := dk_go 1 a_Sl_charAt_13 rfl
theorem d_Sl_charAt_0 : decode b_Sl_charAt 0 = .ok (.iload_n 1, 1) := dk_0 a_Sl_charAt_0 (dko_27 _)
theorem d_Sl_charAt_1 : decode b_Sl_charAt 1 = .ok (.aload_n 0, 1) := dk_0 a_Sl_charAt_1 (dko_42 _)
theorem d_Sl_charAt_2 : decode b_Sl_charAt 2 = .ok (.arraylength, 1) := dk_0 a_Sl_charAt_2 (dko_190 _)
theorem d_Sl_charAt_3 : decode b_Sl_charAt 3 = .ok (.invokestatic 9, 3) := dk_U2 a_Sl_charAt_3 (dko_184 _) rfl
theorem d_Sl_charAt_6 : decode b_Sl_charAt 6 = .ok (.aload_n 0, 1) := dk_0 a_Sl_charAt_6 (dko_42 _)
theorem d_Sl_charAt_7 : decode b_Sl_charAt 7 = .ok (.iload_n 1, 1) := dk_0 a_Sl_charAt_7 (dko_27 _)
theorem d_Sl_charAt_8 : decode b_Sl_charAt 8 = .ok (.baload, 1) := dk_0 a_Sl_charAt_8 (dko_51 _)
theorem d_Sl_charAt_9 : decode b_Sl_charAt 9 = .ok (.sipush 255, 3) := dk_S2 a_Sl_charAt_9 (dko_17 _) (by decide +kernel)
theorem d_Sl_charAt_12 : decode b_Sl_charAt 12 = .ok (.iand, 1) := dk_0 a_Sl_charAt_12 (dko_126 _)
theorem d_Sl_charAt_13 : decode b_Sl_charAt 13 = .ok (.i2c, 1) := dk_0 a_Sl_charAt_13 (dko_146 _)
theorem d_Sl_charAt_14 : decode b_Sl_charAt 14 = .ok (.ireturn, 1) := dk_0 a_Sl_charAt_14 (dko_172 _)
set_option maxHeartbeats 4000000 in
set_option maxRecDepth 100000 in
theorem c_Sl_charAt (l : Launch) (dC : Nat → ClassId) (dI : Nat → Nat → Nat) (cI cB cZ cJ : ClassId) (ln : Nat) (bs : List Int32) (hln : ln < 200) (adK adV : Nat → Nat) (kk : Int32) (hp0 : ¬ kk < 0) (hp1 : ¬ (nI ln) ≤ kk) (sz : Nat) : Met l y_Sl_charAt w_Sl_charAt ({ frames := 2, cells := 0, slots := 0, locals := 43 }) (va_Pc [.ref (adV 0), .int kk] (PWT dC dI cI cB cZ cJ ln bs adK adV sz)) (va_Qi (fun (r : Int32) (_ : Unit) => r = ((bs.getD kk.toNatClampNeg 0) &&& 255)) (fun _ _ => True) (va_A [] sz)) 0 0 (va_A [] sz) := by
  refine Met.ofW (cc := b_Sl_charAt) (maxL := 2) (ret := (some .char)) (by decide) rfl ?_
  intro p e s m args below meth c s₁ B hml hv
  obtain ⟨rfl, ⟨hsz, hP, hK, hD⟩, hG⟩ := hv
  have hx := B.exec
  have hb := B.bytes
  have hr := B.returns
  have hts := atoms_spec (ws := w_Sl_charAt) B.pre
  have hown : s.vm.findClass R_Sl = some m.cls := findClass_of_methodNamed B.named
  have hlocks := B.notSynchronized
  subst hsz
  generalize hAe : va_A [] s.heap.size = A at hG ⊢
  have hA : ∀ q : Nat, s.heap.size ≤ q → A q := fun q h => by rw [← hAe]; exact Or.inr h
  have hS : va_S A s.heap s.heap [] := va_S.rf
  have hP : va_P (dC, dI) classes [] s.heap := hP
  have hl := lv_entry ([.ref (adV 0), .int kk]) (n := 2) (Nat.le_of_ble_eq_true rfl)
  rw [lg_entry_eq]
  generalize (lg_sl ([.ref (adV 0), .int kk]) ++ List.replicate (2 - (lg_sl ([.ref (adV 0), .int kk])).length) Slot.unset).toArray = ls at hl ⊢
  have hl : lv_has ls 2 [(0, .ref (adV 0)), (1, .int kk)] := hl
  refine lv_iload_n hx hb d_Sl_charAt_0 rfl (lv_at hl 1 rfl) ?_
  refine lv_aload_n hx hb d_Sl_charAt_1 rfl (lv_at hl 0 rfl) ?_
  refine va_tlen hx hb (hG.2.1.1 0 (by decide)).2.2.2 hS (v := (nI ln)) rfl d_Sl_charAt_2 ?_
  have hPc := hP.sub (ws' := []) [] rfl
  have hDc := hD.sub (ws' := []) [] (by decide) rfl
  have hFc := pu_free hS hA
  refine va_callv (va_runS (As := [.int kk, .int (nI ln)]) (rest := []) ⟨hx, hb, hml, hown, hts⟩ (c_Sg_checkIndex l dC dI cI cB cZ cJ ln bs hln adK adV kk (nI ln) hp0 hp1 s.heap.size) (va_cwS 2 hts (tb_S2 mw_605 mw_606 mw_14 mw_607) rfl rfl rfl ⟨by decide +kernel, by decide +kernel, by decide +kernel⟩ ⟨(Nat.le_of_ble_eq_true rfl), (Nat.le_of_ble_eq_true rfl)⟩) ⟨pwt_blind, pwt_pre hPc hK hDc hG hS hFc⟩ rfl rfl hl.1 rfl (lv_room (Nat.le_of_ble_eq_true rfl)) d_Sl_charAt_3 ⟨(Nat.le_of_ble_eq_true rfl), (Nat.le_of_ble_eq_true rfl)⟩) hS (fun q _ h => hFc q h) hFc (fun u t H locs ht hvm hw hB hz1 hk1 hS => ?_)
  have hP := pu_kept hP hk1
  refine lv_aload_n hx hb d_Sl_charAt_6 rfl (lv_at hl 0 rfl) ?_
  refine lv_iload_n hx hb d_Sl_charAt_7 rfl (lv_at hl 1 rfl) ?_
  refine va_tb hx hb (hG.2.1.1 0 (by decide)).2.2.2 hS (ir_in2 hp0 hp1 (by decide) (by rw [nI_toInt (by omega)]; exact Int.le_refl _)) (v := .int (bs.getD kk.toNatClampNeg 0)) rfl d_Sl_charAt_8 ?_
  refine lv_sipush (v := 255) hx hb d_Sl_charAt_9 (by decide) ?_
  refine lv_iand hx hb d_Sl_charAt_12 ?_
  refine lv_i2c (v := ((bs.getD kk.toNatClampNeg 0) &&& 255)) hx hb d_Sl_charAt_13 (sc_c2 _) ?_
  exact W.zret (v := ((bs.getD kk.toNatClampNeg 0) &&& 255)) (ty := .char) hx hb hr (sc_nar _) (fun t ht hW => ⟨⟨_, (), rfl, (rfl), trivial⟩, hS.F ht⟩) hS.2.2 d_Sl_charAt_14
abbrev t_Sg_charAt_24 : List UInt8 := 172 :: []
abbrev t_Sg_charAt_21 : List UInt8 := 184 :: 1 :: 242 :: t_Sg_charAt_24
abbrev t_Sg_charAt_20 : List UInt8 := 27 :: t_Sg_charAt_21
abbrev t_Sg_charAt_17 : List UInt8 := 180 :: 0 :: 9 :: t_Sg_charAt_20
abbrev t_Sg_charAt_16 : List UInt8 := 42 :: t_Sg_charAt_17
abbrev t_Sg_charAt_15 : List UInt8 := 172 :: t_Sg_charAt_16
abbrev t_Sg_charAt_12 : List UInt8 := 184 :: 1 :: 239 :: t_Sg_charAt_15
abbrev t_Sg_charAt_11 : List UInt8 := 27 :: t_Sg_charAt_12
abbrev t_Sg_charAt_8 : List UInt8 := 180 :: 0 :: 9 :: t_Sg_charAt_11
abbrev t_Sg_charAt_7 : List UInt8 := 42 :: t_Sg_charAt_8
abbrev t_Sg_charAt_4 : List UInt8 := 153 :: 0 :: 12 :: t_Sg_charAt_7
abbrev t_Sg_charAt_1 : List UInt8 := 182 :: 1 :: 236 :: t_Sg_charAt_4
abbrev t_Sg_charAt_0 : List UInt8 := 42 :: t_Sg_charAt_1
theorem a_Sg_charAt_0 : dk_at b_Sg_charAt 0 t_Sg_charAt_0 := dk_start (by decide +kernel)
theorem a_Sg_charAt_1 : dk_at b_Sg_charAt 1 t_Sg_charAt_1 := dk_go 1 a_Sg_charAt_0 rfl
theorem a_Sg_charAt_4 : dk_at b_Sg_charAt 4 t_Sg_charAt_4 := dk_go 3 a_Sg_charAt_1 rfl
theorem a_Sg_charAt_7 : dk_at b_Sg_charAt 7 t_Sg_charAt_7 := dk_go 3 a_Sg_charAt_4 rfl
theorem a_Sg_charAt_8 : dk_at b_Sg_charAt 8 t_Sg_charAt_8 := dk_go 1 a_Sg_charAt_7 rfl
theorem a_Sg_charAt_11 : dk_at b_Sg_charAt 11 t_Sg_charAt_11 := dk_go 3 a_Sg_charAt_8 rfl
theorem a_Sg_charAt_12 : dk_at b_Sg_charAt 12 t_Sg_charAt_12 := dk_go 1 a_Sg_charAt_11 rfl
theorem a_Sg_charAt_15 : dk_at b_Sg_charAt 15 t_Sg_charAt_15 := dk_go 3 a_Sg_charAt_12 rfl
theorem a_Sg_charAt_16 : dk_at b_Sg_charAt 16 t_Sg_charAt_16 := dk_go 1 a_Sg_charAt_15 rfl
theorem a_Sg_charAt_17 : dk_at b_Sg_charAt 17 t_Sg_charAt_17 := dk_go 1 a_Sg_charAt_16 rfl
theorem a_Sg_charAt_20 : dk_at b_Sg_charAt 20 t_Sg_charAt_20 := dk_go 3 a_Sg_charAt_17 rfl
theorem a_Sg_charAt_21 : dk_at b_Sg_charAt 21 t_Sg_charAt_21 := dk_go 1 a_Sg_charAt_20 rfl
theorem a_Sg_charAt_24 : dk_at b_Sg_charAt 24 t_Sg_charAt_24 := dk_go 3 a_Sg_charAt_21 rfl
theorem d_Sg_charAt_0 : decode b_Sg_charAt 0 = .ok (.aload_n 0, 1) := dk_0 a_Sg_charAt_0 (dko_42 _)
theorem d_Sg_charAt_1 : decode b_Sg_charAt 1 = .ok (.invokevirtual 492, 3) := dk_U2 a_Sg_charAt_1 (dko_182 _) rfl
theorem d_Sg_charAt_4 : decode b_Sg_charAt 4 = .ok (.ifCond .eq 12, 3) := dk_S2 a_Sg_charAt_4 (dko_153 _) (by decide +kernel)
theorem d_Sg_charAt_7 : decode b_Sg_charAt 7 = .ok (.aload_n 0, 1) := dk_0 a_Sg_charAt_7 (dko_42 _)
theorem d_Sg_charAt_8 : decode b_Sg_charAt 8 = .ok (.getfield 9, 3) := dk_U2 a_Sg_charAt_8 (dko_180 _) rfl
theorem d_Sg_charAt_11 : decode b_Sg_charAt 11 = .ok (.iload_n 1, 1) := dk_0 a_Sg_charAt_11 (dko_27 _)
theorem d_Sg_charAt_12 : decode b_Sg_charAt 12 = .ok (.invokestatic 495, 3) := dk_U2 a_Sg_charAt_12 (dko_184 _) rfl
theorem d_Sg_charAt_15 : decode b_Sg_charAt 15 = .ok (.ireturn, 1) := dk_0 a_Sg_charAt_15 (dko_172 _)
set_option maxHeartbeats 4000000 in
set_option maxRecDepth 100000 in
theorem c_Sg_charAt (l : Launch) (dC : Nat → ClassId) (dI : Nat → Nat → Nat) (cI cB cZ cJ : ClassId) (ln : Nat) (bs : List Int32) (hln : ln < 200) (adK adV : Nat → Nat) (kk : Int32) (hp0 : ¬ kk < 0) (hp1 : ¬ (nI ln) ≤ kk) (sz : Nat) : Met l y_Sg_charAt w_Sg_charAt ({ frames := 3, cells := 0, slots := 0, locals := 64 }) (va_Pc [.ref (adK 0), .int kk] (PWT dC dI cI cB cZ cJ ln bs adK adV sz)) (va_Qi (fun (r : Int32) (_ : Unit) => r = ((bs.getD kk.toNatClampNeg 0) &&& 255)) (fun _ _ => True) (va_A [] sz)) 0 0 (va_A [] sz) := by
  refine Met.ofW (cc := b_Sg_charAt) (maxL := 2) (ret := (some .char)) (by decide) rfl ?_
  intro p e s m args below meth c s₁ B hml hv
  obtain ⟨rfl, ⟨hsz, hP, hK, hD⟩, hG⟩ := hv
  have hx := B.exec
  have hb := B.bytes
  have hr := B.returns
  have hts := atoms_spec (ws := w_Sg_charAt) B.pre
  have hown : s.vm.findClass R_Sg = some m.cls := findClass_of_methodNamed B.named
  have hlocks := B.notSynchronized
  subst hsz
  generalize hAe : va_A [] s.heap.size = A at hG ⊢
  have hA : ∀ q : Nat, s.heap.size ≤ q → A q := fun q h => by rw [← hAe]; exact Or.inr h
  have hS : va_S A s.heap s.heap [] := va_S.rf
  have hP : va_P (dC, dI) classes [] s.heap := hP
  have hl := lv_entry ([.ref (adK 0), .int kk]) (n := 2) (Nat.le_of_ble_eq_true rfl)
  rw [lg_entry_eq]
  generalize (lg_sl ([.ref (adK 0), .int kk]) ++ List.replicate (2 - (lg_sl ([.ref (adK 0), .int kk])).length) Slot.unset).toArray = ls at hl ⊢
  have hl : lv_has ls 2 [(0, .ref (adK 0)), (1, .int kk)] := hl
  refine lv_aload_n hx hb d_Sg_charAt_0 rfl (lv_at hl 0 rfl) ?_
  have hPc := hP.sub (ws' := []) [] rfl
  have hDc := hD.sub (ws' := []) [] (by decide) rfl
  have hFc := pu_free hS hA
  refine va_calli (va_runV (C := R_Sg) (As := []) (rest := []) ⟨hx, hb, hml, hown, hts⟩ (c_Sg_isLatin1 l dC dI cI cB cZ cJ ln bs hln adK adV  s.heap.size) (cwV 0 hts (tb_V mw_598 mw_599 mw_600 mw_14 mw_601) rfl rfl rfl ⟨rfl, by decide +kernel, by decide +kernel, by decide +kernel⟩ ⟨(Nat.le_of_ble_eq_true rfl), (Nat.le_of_ble_eq_true rfl)⟩) ⟨pwt_blind, vk_recv hG.2.1 (i := 0) (by decide) hS, pwt_pre hPc hK hDc hG hS hFc⟩ rfl rfl hl.1 rfl (lv_room (Nat.le_of_ble_eq_true rfl)) d_Sg_charAt_1 ⟨(Nat.le_of_ble_eq_true rfl), (Nat.le_of_ble_eq_true rfl)⟩) hS (fun q _ h => hFc q h) hFc (fun r u t H locs ht hvm hw hB hz1 hk1 hS => ?_)
  have hP := pu_kept hP hk1
  obtain rfl : r = 1 := hw
  refine lv_if_eq (tgt := 16) hx hb d_Sg_charAt_4 (by decide) (fun h => absurd h (by decide)) (fun _ => ?_)
  refine lv_aload_n hx hb d_Sg_charAt_7 rfl (lv_at hl 0 rfl) ?_
  refine vk_getf hx hb (hG.2.1.1 0 (by decide)).2.2.1 hS hown (hts _ (List.mem_cons_of_mem _ mw_2700)) (fun _ h9 => h9) d_Sg_charAt_8 ?_
  refine lv_iload_n hx hb d_Sg_charAt_11 rfl (lv_at hl 1 rfl) ?_
  have hPc := hP.sub (ws' := []) [] rfl
  have hDc := hD.sub (ws' := []) [] (by decide) rfl
  have hFc := pu_free hS hA
  refine va_calli (va_runS (As := [.ref (adV 0), .int kk]) (rest := []) ⟨hx, hb, hml, hown, hts⟩ (c_Sl_charAt l dC dI cI cB cZ cJ ln bs hln adK adV kk hp0 hp1 H.size) (va_cwS 2 hts (tb_S2 mw_602 mw_603 mw_15 mw_604) rfl rfl rfl ⟨by decide +kernel, by decide +kernel, by decide +kernel⟩ ⟨(Nat.le_of_ble_eq_true rfl), (Nat.le_of_ble_eq_true rfl)⟩) ⟨pwt_blind, pwt_pre hPc hK hDc hG hS hFc⟩ rfl rfl hl.1 rfl (lv_room (Nat.le_of_ble_eq_true rfl)) d_Sg_charAt_12 ⟨(Nat.le_of_ble_eq_true rfl), (Nat.le_of_ble_eq_true rfl)⟩) hS (fun q _ h => hFc q h) hFc (fun r u t H locs ht hvm hw hB hz1 hk1 hS => ?_)
  have hP := pu_kept hP hk1
  obtain rfl : r = ((bs.getD kk.toNatClampNeg 0) &&& 255) := hw
  exact W.zret (v := (((bs.getD kk.toNatClampNeg 0) &&& 255))) (ty := .char) hx hb hr (sc_nar _) (fun t ht hW => ⟨⟨_, (), rfl, (by first | rfl | decide), trivial⟩, hS.F ht⟩) hS.2.2 d_Sg_charAt_15
