abbrev b_Wa_addSources : ByteArray := prog_12_method_18_code
def y_Wa_addSources : MethodName := ⟨R_Wa, "addSources", "([J)V"⟩
abbrev w_Wa_addSources : List Cond := .code y_Wa_addSources b_Wa_addSources 8 none :: lw_gd
abbrev b_Sf_findRivals : ByteArray := prog_9_method_4_code
def y_Sf_findRivals : MethodName := ⟨R_Sf, "findRivals", "()Z"⟩
abbrev w_Sf_findRivals : List Cond := .code y_Sf_findRivals b_Sf_findRivals 5 (some .boolean) :: lw_gd
abbrev b_Sf_isSafe : ByteArray := prog_9_method_2_code
def y_Sf_isSafe : MethodName := ⟨R_Sf, "isSafe", "()Z"⟩
abbrev w_Sf_isSafe : List Cond := .code y_Sf_isSafe b_Sf_isSafe 4 (some .boolean) :: lw_gd
abbrev b_Bh_danger : ByteArray := prog_1_method_35_code
def y_Bh_danger : MethodName := ⟨R_Bh, "danger", "(I)I"⟩
abbrev w_Bh_danger : List Cond := .code y_Bh_danger b_Bh_danger 3 (some .int) :: lw_gd
theorem mw_6 : (.initialized "java/util/Arrays" : Cond) ∈ lw_gd := tb_mem (i := 6) (by decide +kernel) (by decide +kernel)
theorem mw_8 : (.initialized "BreweryHouse$Safety" : Cond) ∈ lw_gd := tb_mem (i := 8) (by decide +kernel) (by decide +kernel)
theorem mw_87 : (.fieldLink "BreweryHouse$Safety" 66 "BreweryHouse$Plant" "things" "I" : Cond) ∈ lw_gd := tb_mem (i := 87) (by decide +kernel) (by decide +kernel)
theorem mw_90 : (.fieldLink "BreweryHouse$Ways" 85 "BreweryHouse$Plant" "things" "I" : Cond) ∈ lw_gd := tb_mem (i := 90) (by decide +kernel) (by decide +kernel)
theorem mw_93 : (.fieldLink "BreweryHouse$Safety" 95 "BreweryHouse$Plant" "pipes" "I" : Cond) ∈ lw_gd := tb_mem (i := 93) (by decide +kernel) (by decide +kernel)
theorem mw_150 : (.fieldLink "BreweryHouse$Safety" 60 "BreweryHouse$Stock" "plant" "LBreweryHouse$Plant;" : Cond) ∈ lw_gd := tb_mem (i := 150) (by decide +kernel) (by decide +kernel)
theorem mw_152 : (.fieldLink "BreweryHouse$Ways" 81 "BreweryHouse$Stock" "plant" "LBreweryHouse$Plant;" : Cond) ∈ lw_gd := tb_mem (i := 152) (by decide +kernel) (by decide +kernel)
theorem mw_177 : (.fieldLink "BreweryHouse$Safety" 101 "BreweryHouse$Stock" "meeting" "[I" : Cond) ∈ lw_gd := tb_mem (i := 177) (by decide +kernel) (by decide +kernel)
theorem mw_217 : (.fieldLink "BreweryHouse$Ways" 58 "BreweryHouse$Ways" "stock" "LBreweryHouse$Stock;" : Cond) ∈ lw_gd := tb_mem (i := 217) (by decide +kernel) (by decide +kernel)
theorem mw_282 : (.fieldLink "BreweryHouse$Safety" 25 "BreweryHouse$Safety" "stock" "LBreweryHouse$Stock;" : Cond) ∈ lw_gd := tb_mem (i := 282) (by decide +kernel) (by decide +kernel)
theorem mw_283 : (.fieldLink "BreweryHouse$Safety" 29 "BreweryHouse$Safety" "ways" "LBreweryHouse$Ways;" : Cond) ∈ lw_gd := tb_mem (i := 283) (by decide +kernel) (by decide +kernel)
theorem mw_284 : (.fieldLink "BreweryHouse$Safety" 9 "BreweryHouse$Safety" "sources" "[J" : Cond) ∈ lw_gd := tb_mem (i := 284) (by decide +kernel) (by decide +kernel)
theorem mw_285 : (.fieldLink "BreweryHouse$Safety" 15 "BreweryHouse$Safety" "rivals" "[I" : Cond) ∈ lw_gd := tb_mem (i := 285) (by decide +kernel) (by decide +kernel)
theorem mw_288 : (.fieldLink "BreweryHouse$Safety" 33 "BreweryHouse$Safety" "failure" "I" : Cond) ∈ lw_gd := tb_mem (i := 288) (by decide +kernel) (by decide +kernel)
theorem mw_289 : (.fieldLink "BreweryHouse" 359 "BreweryHouse$Safety" "failure" "I" : Cond) ∈ lw_gd := tb_mem (i := 289) (by decide +kernel) (by decide +kernel)
theorem mw_688 : (.fieldLink "BreweryHouse" 44 "BreweryHouse" "safety" "LBreweryHouse$Safety;" : Cond) ∈ lw_gd := tb_mem (i := 688) (by decide +kernel) (by decide +kernel)
theorem mw_1021 : (.static y_Ar_fillJ : Cond) ∈ lw_gd := tb_mem (i := 1021) (by decide +kernel) (by decide +kernel)
theorem mw_1022 : (.code y_Ar_fillJ b_Ar_fillJ 5 none : Cond) ∈ lw_gd := tb_mem (i := 1022) (by decide +kernel) (by decide +kernel)
theorem mw_1092 : (.methodLink "BreweryHouse" 218 y_Sf_isSafe : Cond) ∈ lw_gd := tb_mem (i := 1092) (by decide +kernel) (by decide +kernel)
theorem mw_1093 : (.instanceMethod y_Sf_isSafe : Cond) ∈ lw_gd := tb_mem (i := 1093) (by decide +kernel) (by decide +kernel)
theorem mw_1094 : (.selects "BreweryHouse$Safety" y_Sf_isSafe y_Sf_isSafe : Cond) ∈ lw_gd := tb_mem (i := 1094) (by decide +kernel) (by decide +kernel)
theorem mw_1095 : (.code y_Sf_isSafe b_Sf_isSafe 4 (some .boolean) : Cond) ∈ lw_gd := tb_mem (i := 1095) (by decide +kernel) (by decide +kernel)
theorem mw_1096 : (.methodLink "BreweryHouse$Safety" 37 y_Ar_fillJ : Cond) ∈ lw_gd := tb_mem (i := 1096) (by decide +kernel) (by decide +kernel)
theorem mw_1097 : (.methodLink "BreweryHouse$Safety" 43 y_Wa_addSources : Cond) ∈ lw_gd := tb_mem (i := 1097) (by decide +kernel) (by decide +kernel)
theorem mw_1098 : (.instanceMethod y_Wa_addSources : Cond) ∈ lw_gd := tb_mem (i := 1098) (by decide +kernel) (by decide +kernel)
theorem mw_1099 : (.selects "BreweryHouse$Ways" y_Wa_addSources y_Wa_addSources : Cond) ∈ lw_gd := tb_mem (i := 1099) (by decide +kernel) (by decide +kernel)
theorem mw_1100 : (.code y_Wa_addSources b_Wa_addSources 8 none : Cond) ∈ lw_gd := tb_mem (i := 1100) (by decide +kernel) (by decide +kernel)
theorem mw_1101 : (.methodLink "BreweryHouse$Safety" 49 y_Sf_findRivals : Cond) ∈ lw_gd := tb_mem (i := 1101) (by decide +kernel) (by decide +kernel)
theorem mw_1103 : (.instanceMethod y_Sf_findRivals : Cond) ∈ lw_gd := tb_mem (i := 1103) (by decide +kernel) (by decide +kernel)
theorem mw_1104 : (.code y_Sf_findRivals b_Sf_findRivals 5 (some .boolean) : Cond) ∈ lw_gd := tb_mem (i := 1104) (by decide +kernel) (by decide +kernel)
theorem sl_48 : (.selects "BreweryHouse$Safety" y_Sf_findRivals y_Sf_findRivals : Cond) ∈ lw_gd := List.mem_filter.mpr ⟨List.mem_append_left _ (List.mem_of_getElem? (i := 48) (by decide +kernel)), by decide +kernel⟩
theorem d_Wa_addSources_0 : decode b_Wa_addSources 0 = .ok (.aload_n 0, 1) := by decide +kernel
theorem d_Wa_addSources_1 : decode b_Wa_addSources 1 = .ok (.getfield 58, 3) := by decide +kernel
theorem d_Wa_addSources_4 : decode b_Wa_addSources 4 = .ok (.getfield 81, 3) := by decide +kernel
theorem d_Wa_addSources_7 : decode b_Wa_addSources 7 = .ok (.getfield 85, 3) := by decide +kernel
theorem d_Wa_addSources_10 : decode b_Wa_addSources 10 = .ok (.istore_n 2, 1) := by decide +kernel
theorem d_Wa_addSources_11 : decode b_Wa_addSources 11 = .ok (.iconst 0, 1) := by decide +kernel
theorem d_Wa_addSources_12 : decode b_Wa_addSources 12 = .ok (.istore_n 3, 1) := by decide +kernel
theorem d_Wa_addSources_13 : decode b_Wa_addSources 13 = .ok (.iload_n 3, 1) := by decide +kernel
theorem d_Wa_addSources_14 : decode b_Wa_addSources 14 = .ok (.aload_n 0, 1) := by decide +kernel
theorem d_Wa_addSources_15 : decode b_Wa_addSources 15 = .ok (.getfield 65, 3) := by decide +kernel
theorem d_Wa_addSources_18 : decode b_Wa_addSources 18 = .ok (.if_icmp .ge 85, 3) := by decide +kernel
theorem d_Wa_addSources_103 : decode b_Wa_addSources 103 = .ok (.return_, 1) := by decide +kernel
set_option maxHeartbeats 4000000 in
set_option maxRecDepth 100000 in
theorem c_Wa_addSources (l : Launch) (dC : Nat → ClassId) (dI : Nat → Nat → Nat) (cI cB cZ cJ : ClassId) (oWa : Nat) (oSt : Nat) (oP1 : Nat) (xf_sources : Nat) (xw : List Value) (hwa_stock : xw[0]? = some (.ref oSt)) (hwa_count : xw[1]? = some (.int 0)) (xs_ : List Value) (hst_plant : xs_[0]? = some (.ref oP1)) (xp : List Value) (hxp_things : xp[0]? = some (.int 0)) (sz : Nat) : Met l y_Wa_addSources w_Wa_addSources ({ frames := 0, cells := 0, slots := 0, locals := 0 }) (va_Pc [.ref oWa, .ref xf_sources] (PW dC dI cI cB cZ cJ [(oWa, .inr (5, xw)), (oSt, .inr (4, xs_)), (oP1, .inr (3, xp))] sz)) (va_Qv (fun _ : Unit => True) (fun _ _ => True) (va_A [] sz)) 0 0 (va_A [] sz) := by
  refine Met.ofW (cc := b_Wa_addSources) (maxL := 8) (ret := none) (by decide) rfl ?_
  intro p e s m args below meth c s₁ B hml hv
  obtain ⟨rfl, hsz, hP, hK, hD⟩ := hv
  have hx := B.exec
  have hb := B.bytes
  have hr := B.returns
  have hts := atoms_spec (ws := w_Wa_addSources) B.pre
  have hown : s.vm.findClass R_Wa = some m.cls := findClass_of_methodNamed B.named
  have hlocks := B.notSynchronized
  subst hsz
  generalize hAe : va_A [] s.heap.size = A at ⊢
  have hA : ∀ q : Nat, s.heap.size ≤ q → A q := fun q h => by rw [← hAe]; exact Or.inr h
  have hS : va_S A s.heap s.heap [] := va_S.rf
  have hP : va_P (dC, dI) classes [(oWa, .inr (5, xw)), (oSt, .inr (4, xs_)), (oP1, .inr (3, xp))] s.heap := hP
  have hl := lv_entry ([.ref oWa, .ref xf_sources]) (n := 8) (Nat.le_of_ble_eq_true rfl)
  rw [lg_entry_eq]
  generalize (lg_sl ([.ref oWa, .ref xf_sources]) ++ List.replicate (8 - (lg_sl ([.ref oWa, .ref xf_sources])).length) Slot.unset).toArray = ls at hl ⊢
  have hl : lv_has ls 8 [(0, .ref oWa), (1, .ref xf_sources)] := hl
  refine lv_aload_n hx hb d_Wa_addSources_0 rfl (lv_at hl 0 rfl) ?_
  refine va_get (D := (dC, dI)) (ci := 5) (v := .ref oSt) (C := R_Wa) (T := F_Wa) (N := 18) hx hb hts (fun w h => List.mem_cons_of_mem _ (in_Wa w h)) hown hK.1 hP 0 rfl rfl 0 (by decide) (hts _ (List.mem_cons_of_mem _ mw_217)) (fun _ h9 => h9) hwa_stock d_Wa_addSources_1 ?_
  refine va_get (D := (dC, dI)) (ci := 4) (v := .ref oP1) (C := R_St) (T := F_St) (N := 12) hx hb hts (fun w h => List.mem_cons_of_mem _ (in_St w h)) hown hK.1 hP 1 rfl rfl 0 (by decide) (hts _ (List.mem_cons_of_mem _ mw_152)) (fun _ h9 => h9) hst_plant d_Wa_addSources_4 ?_
  refine va_get (D := (dC, dI)) (ci := 3) (v := .int 0) (C := R_Pl) (T := F_Pl) (N := 12) hx hb hts (fun w h => List.mem_cons_of_mem _ (in_Pl w h)) hown hK.1 hP 2 rfl rfl 0 (by decide) (hts _ (List.mem_cons_of_mem _ mw_90)) (fun _ h9 => h9) hxp_things d_Wa_addSources_7 ?_
  refine lv_istore_n hx hb d_Wa_addSources_10 rfl hl (by decide) rfl (fun ls hl => ?_)
  have hl : lv_has ls 8 [(2, .int 0), (0, .ref oWa), (1, .ref xf_sources)] := hl
  refine lv_iconst (v := 0) hx hb d_Wa_addSources_11 (by decide) ?_
  refine lv_istore_n hx hb d_Wa_addSources_12 rfl hl (by decide) rfl (fun ls hl => ?_)
  have hl : lv_has ls 8 [(3, .int 0), (2, .int 0), (0, .ref oWa), (1, .ref xf_sources)] := hl
  refine lv_iload_n hx hb d_Wa_addSources_13 rfl (lv_at hl 0 rfl) ?_
  refine lv_aload_n hx hb d_Wa_addSources_14 rfl (lv_at hl 2 rfl) ?_
  refine va_get (D := (dC, dI)) (ci := 5) (v := .int 0) (C := R_Wa) (T := F_Wa) (N := 18) hx hb hts (fun w h => List.mem_cons_of_mem _ (in_Wa w h)) hown hK.1 hP 0 rfl rfl 1 (by decide) (hts _ (List.mem_cons_of_mem _ mw_218)) (fun _ h9 => h9) hwa_count d_Wa_addSources_15 ?_
  refine lv_icmp_ge (tgt := 103) hx hb d_Wa_addSources_18 (by decide) (fun _ => ?_) (fun h => absurd (by decide) h)
  exact W.vret hx hb hr (fun t ht hW => ⟨⟨(), rfl, trivial, trivial⟩, hS.F ht⟩) hS.2.2 d_Wa_addSources_103
theorem d_Sf_findRivals_0 : decode b_Sf_findRivals 0 = .ok (.iconst 0, 1) := by decide +kernel
theorem d_Sf_findRivals_1 : decode b_Sf_findRivals 1 = .ok (.istore_n 1, 1) := by decide +kernel
theorem d_Sf_findRivals_2 : decode b_Sf_findRivals 2 = .ok (.iload_n 1, 1) := by decide +kernel
theorem d_Sf_findRivals_3 : decode b_Sf_findRivals 3 = .ok (.aload_n 0, 1) := by decide +kernel
theorem d_Sf_findRivals_4 : decode b_Sf_findRivals 4 = .ok (.getfield 25, 3) := by decide +kernel
theorem d_Sf_findRivals_7 : decode b_Sf_findRivals 7 = .ok (.getfield 60, 3) := by decide +kernel
theorem d_Sf_findRivals_10 : decode b_Sf_findRivals 10 = .ok (.getfield 66, 3) := by decide +kernel
theorem d_Sf_findRivals_13 : decode b_Sf_findRivals 13 = .ok (.aload_n 0, 1) := by decide +kernel
theorem d_Sf_findRivals_14 : decode b_Sf_findRivals 14 = .ok (.getfield 25, 3) := by decide +kernel
theorem d_Sf_findRivals_17 : decode b_Sf_findRivals 17 = .ok (.getfield 60, 3) := by decide +kernel
theorem d_Sf_findRivals_20 : decode b_Sf_findRivals 20 = .ok (.getfield 95, 3) := by decide +kernel
theorem d_Sf_findRivals_23 : decode b_Sf_findRivals 23 = .ok (.iadd, 1) := by decide +kernel
theorem d_Sf_findRivals_24 : decode b_Sf_findRivals 24 = .ok (.if_icmp .ge 29, 3) := by decide +kernel
theorem d_Sf_findRivals_53 : decode b_Sf_findRivals 53 = .ok (.iconst 0, 1) := by decide +kernel
theorem d_Sf_findRivals_54 : decode b_Sf_findRivals 54 = .ok (.istore_n 1, 1) := by decide +kernel
theorem d_Sf_findRivals_55 : decode b_Sf_findRivals 55 = .ok (.iconst 1, 1) := by decide +kernel
theorem d_Sf_findRivals_56 : decode b_Sf_findRivals 56 = .ok (.istore_n 2, 1) := by decide +kernel
theorem d_Sf_findRivals_57 : decode b_Sf_findRivals 57 = .ok (.iload_n 2, 1) := by decide +kernel
theorem d_Sf_findRivals_58 : decode b_Sf_findRivals 58 = .ok (.bipush 14, 2) := by decide +kernel
theorem d_Sf_findRivals_60 : decode b_Sf_findRivals 60 = .ok (.if_icmp .gt 30, 3) := by decide +kernel
theorem d_Sf_findRivals_63 : decode b_Sf_findRivals 63 = .ok (.iload_n 1, 1) := by decide +kernel
theorem d_Sf_findRivals_64 : decode b_Sf_findRivals 64 = .ok (.aload_n 0, 1) := by decide +kernel
theorem d_Sf_findRivals_65 : decode b_Sf_findRivals 65 = .ok (.getfield 9, 3) := by decide +kernel
theorem d_Sf_findRivals_68 : decode b_Sf_findRivals 68 = .ok (.iload_n 2, 1) := by decide +kernel
theorem d_Sf_findRivals_69 : decode b_Sf_findRivals 69 = .ok (.laload, 1) := by decide +kernel
theorem d_Sf_findRivals_70 : decode b_Sf_findRivals 70 = .ok (.lconst 0, 1) := by decide +kernel
theorem d_Sf_findRivals_71 : decode b_Sf_findRivals 71 = .ok (.lcmp, 1) := by decide +kernel
theorem d_Sf_findRivals_72 : decode b_Sf_findRivals 72 = .ok (.ifCond .eq 9, 3) := by decide +kernel
theorem d_Sf_findRivals_81 : decode b_Sf_findRivals 81 = .ok (.iconst 0, 1) := by decide +kernel
theorem d_Sf_findRivals_82 : decode b_Sf_findRivals 82 = .ok (.ior, 1) := by decide +kernel
theorem d_Sf_findRivals_83 : decode b_Sf_findRivals 83 = .ok (.istore_n 1, 1) := by decide +kernel
theorem d_Sf_findRivals_84 : decode b_Sf_findRivals 84 = .ok (.iinc 2 1, 3) := by decide +kernel
theorem d_Sf_findRivals_87 : decode b_Sf_findRivals 87 = .ok (.goto (-30), 3) := by decide +kernel
theorem d_Sf_findRivals_90 : decode b_Sf_findRivals 90 = .ok (.iconst 0, 1) := by decide +kernel
theorem d_Sf_findRivals_91 : decode b_Sf_findRivals 91 = .ok (.istore_n 2, 1) := by decide +kernel
theorem d_Sf_findRivals_92 : decode b_Sf_findRivals 92 = .ok (.iconst 1, 1) := by decide +kernel
theorem d_Sf_findRivals_93 : decode b_Sf_findRivals 93 = .ok (.istore_n 3, 1) := by decide +kernel
theorem d_Sf_findRivals_94 : decode b_Sf_findRivals 94 = .ok (.iload_n 3, 1) := by decide +kernel
theorem d_Sf_findRivals_95 : decode b_Sf_findRivals 95 = .ok (.bipush 14, 2) := by decide +kernel
theorem d_Sf_findRivals_97 : decode b_Sf_findRivals 97 = .ok (.if_icmp .gt 72, 3) := by decide +kernel
theorem d_Sf_findRivals_100 : decode b_Sf_findRivals 100 = .ok (.iload_n 1, 1) := by decide +kernel
theorem d_Sf_findRivals_101 : decode b_Sf_findRivals 101 = .ok (.aload_n 0, 1) := by decide +kernel
theorem d_Sf_findRivals_102 : decode b_Sf_findRivals 102 = .ok (.getfield 25, 3) := by decide +kernel
theorem d_Sf_findRivals_105 : decode b_Sf_findRivals 105 = .ok (.getfield 101, 3) := by decide +kernel
theorem d_Sf_findRivals_108 : decode b_Sf_findRivals 108 = .ok (.iload_n 3, 1) := by decide +kernel
theorem d_Sf_findRivals_109 : decode b_Sf_findRivals 109 = .ok (.iaload, 1) := by decide +kernel
theorem d_Sf_findRivals_110 : decode b_Sf_findRivals 110 = .ok (.iconst (-1), 1) := by decide +kernel
theorem d_Sf_findRivals_111 : decode b_Sf_findRivals 111 = .ok (.ixor, 1) := by decide +kernel
theorem d_Sf_findRivals_112 : decode b_Sf_findRivals 112 = .ok (.iand, 1) := by decide +kernel
theorem d_Sf_findRivals_113 : decode b_Sf_findRivals 113 = .ok (.iconst 1, 1) := by decide +kernel
theorem d_Sf_findRivals_114 : decode b_Sf_findRivals 114 = .ok (.iload_n 3, 1) := by decide +kernel
theorem d_Sf_findRivals_115 : decode b_Sf_findRivals 115 = .ok (.ishl, 1) := by decide +kernel
theorem d_Sf_findRivals_116 : decode b_Sf_findRivals 116 = .ok (.iconst (-1), 1) := by decide +kernel
theorem d_Sf_findRivals_117 : decode b_Sf_findRivals 117 = .ok (.ixor, 1) := by decide +kernel
theorem d_Sf_findRivals_118 : decode b_Sf_findRivals 118 = .ok (.iand, 1) := by decide +kernel
theorem d_Sf_findRivals_119 : decode b_Sf_findRivals 119 = .ok (.istore 4, 2) := by decide +kernel
theorem d_Sf_findRivals_121 : decode b_Sf_findRivals 121 = .ok (.aload_n 0, 1) := by decide +kernel
theorem d_Sf_findRivals_122 : decode b_Sf_findRivals 122 = .ok (.getfield 15, 3) := by decide +kernel
theorem d_Sf_findRivals_125 : decode b_Sf_findRivals 125 = .ok (.iload_n 3, 1) := by decide +kernel
theorem d_Sf_findRivals_126 : decode b_Sf_findRivals 126 = .ok (.aload_n 0, 1) := by decide +kernel
theorem d_Sf_findRivals_127 : decode b_Sf_findRivals 127 = .ok (.getfield 9, 3) := by decide +kernel
theorem d_Sf_findRivals_130 : decode b_Sf_findRivals 130 = .ok (.iload_n 3, 1) := by decide +kernel
theorem d_Sf_findRivals_131 : decode b_Sf_findRivals 131 = .ok (.laload, 1) := by decide +kernel
theorem d_Sf_findRivals_132 : decode b_Sf_findRivals 132 = .ok (.lconst 0, 1) := by decide +kernel
theorem d_Sf_findRivals_133 : decode b_Sf_findRivals 133 = .ok (.lcmp, 1) := by decide +kernel
theorem d_Sf_findRivals_134 : decode b_Sf_findRivals 134 = .ok (.ifCond .eq 8, 3) := by decide +kernel
theorem d_Sf_findRivals_142 : decode b_Sf_findRivals 142 = .ok (.iconst 0, 1) := by decide +kernel
theorem d_Sf_findRivals_143 : decode b_Sf_findRivals 143 = .ok (.iastore, 1) := by decide +kernel
theorem d_Sf_findRivals_144 : decode b_Sf_findRivals 144 = .ok (.iload_n 2, 1) := by decide +kernel
theorem d_Sf_findRivals_145 : decode b_Sf_findRivals 145 = .ok (.ifCond .ne 12, 3) := by decide +kernel
theorem d_Sf_findRivals_148 : decode b_Sf_findRivals 148 = .ok (.aload_n 0, 1) := by decide +kernel
theorem d_Sf_findRivals_149 : decode b_Sf_findRivals 149 = .ok (.getfield 15, 3) := by decide +kernel
theorem d_Sf_findRivals_152 : decode b_Sf_findRivals 152 = .ok (.iload_n 3, 1) := by decide +kernel
theorem d_Sf_findRivals_153 : decode b_Sf_findRivals 153 = .ok (.iaload, 1) := by decide +kernel
theorem d_Sf_findRivals_154 : decode b_Sf_findRivals 154 = .ok (.ifCond .eq 7, 3) := by decide +kernel
theorem d_Sf_findRivals_161 : decode b_Sf_findRivals 161 = .ok (.iconst 0, 1) := by decide +kernel
theorem d_Sf_findRivals_162 : decode b_Sf_findRivals 162 = .ok (.istore_n 2, 1) := by decide +kernel
theorem d_Sf_findRivals_163 : decode b_Sf_findRivals 163 = .ok (.iinc 3 1, 3) := by decide +kernel
theorem d_Sf_findRivals_166 : decode b_Sf_findRivals 166 = .ok (.goto (-72), 3) := by decide +kernel
theorem d_Sf_findRivals_169 : decode b_Sf_findRivals 169 = .ok (.iload_n 2, 1) := by decide +kernel
theorem d_Sf_findRivals_170 : decode b_Sf_findRivals 170 = .ok (.ireturn, 1) := by decide +kernel
set_option maxHeartbeats 4000000 in
set_option maxRecDepth 100000 in
theorem c_Sf_findRivals (l : Launch) (dC : Nat → ClassId) (dI : Nat → Nat → Nat) (cI cB cZ cJ : ClassId) (oSf : Nat) (oSt : Nat) (oP1 : Nat) (xf_sources : Nat) (xst_meeting : Nat) (xf_rivals : Nat) (xf : List Value) (hsf_stock : xf[0]? = some (.ref oSt)) (hsf_sources : xf[2]? = some (.ref xf_sources)) (hsf_rivals : xf[3]? = some (.ref xf_rivals)) (xs_ : List Value) (hst_plant : xs_[0]? = some (.ref oP1)) (hst_meeting : xs_[9]? = some (.ref xst_meeting)) (xp : List Value) (hxp_things : xp[0]? = some (.int 0)) (hxp_pipes : xp[1]? = some (.int 0)) (sz : Nat) : Met l y_Sf_findRivals w_Sf_findRivals ({ frames := 0, cells := 0, slots := 0, locals := 0 }) (va_Pc [.ref oSf] (PW dC dI cI cB cZ cJ [(oSf, .inr (6, xf)), (oSt, .inr (4, xs_)), (oP1, .inr (3, xp)), (xf_sources, .inl (cJ, 15, .inr (.inl (fun _ => 0)))), (xst_meeting, .inl (cI, 15, .inl (fun _ => 0))), (xf_rivals, .inl (cI, 15, .inl (fun _ => 0)))] sz)) (va_Qi (fun (r : Int32) (_ : Unit) => r = 0) (fun (_ : Unit) (t : State) => ∃ (n_xf_rivals : Nat → Int32), xf[0]? = some (.ref oSt) ∧ xf[2]? = some (.ref xf_sources) ∧ xf[3]? = some (.ref xf_rivals) ∧ xs_[0]? = some (.ref oP1) ∧ xs_[9]? = some (.ref xst_meeting) ∧ xp[0]? = some (.int 0) ∧ xp[1]? = some (.int 0) ∧ va_P (dC, dI) classes [(oSf, .inr (6, xf)), (oSt, .inr (4, xs_)), (oP1, .inr (3, xp)), (xf_sources, .inl (cJ, 15, .inr (.inl (fun _ => 0)))), (xst_meeting, .inl (cI, 15, .inl (fun _ => 0))), (xf_rivals, .inl (cI, 15, .inl n_xf_rivals))] t.heap ∧ va_D (va_A [(oSf, .inr (6, xf)), (oSt, .inr (4, xs_)), (oP1, .inr (3, xp)), (xf_sources, .inl (cJ, 15, .inr (.inl (fun _ => 0)))), (xst_meeting, .inl (cI, 15, .inl (fun _ => 0))), (xf_rivals, .inl (cI, 15, .inl (fun _ => 0)))] sz) [(oSf, .inr (6, xf)), (oSt, .inr (4, xs_)), (oP1, .inr (3, xp)), (xf_sources, .inl (cJ, 15, .inr (.inl (fun _ => 0)))), (xst_meeting, .inl (cI, 15, .inl (fun _ => 0))), (xf_rivals, .inl (cI, 15, .inl n_xf_rivals))]) (va_A [(oSf, .inr (6, xf)), (oSt, .inr (4, xs_)), (oP1, .inr (3, xp)), (xf_sources, .inl (cJ, 15, .inr (.inl (fun _ => 0)))), (xst_meeting, .inl (cI, 15, .inl (fun _ => 0))), (xf_rivals, .inl (cI, 15, .inl (fun _ => 0)))] sz)) 0 0 (va_A [(oSf, .inr (6, xf)), (oSt, .inr (4, xs_)), (oP1, .inr (3, xp)), (xf_sources, .inl (cJ, 15, .inr (.inl (fun _ => 0)))), (xst_meeting, .inl (cI, 15, .inl (fun _ => 0))), (xf_rivals, .inl (cI, 15, .inl (fun _ => 0)))] sz) := by
  refine Met.ofW (cc := b_Sf_findRivals) (maxL := 5) (ret := (some .boolean)) (by decide) rfl ?_
  intro p e s m args below meth c s₁ B hml hv
  obtain ⟨rfl, hsz, hP, hK, hD⟩ := hv
  have hx := B.exec
  have hb := B.bytes
  have hr := B.returns
  have hts := atoms_spec (ws := w_Sf_findRivals) B.pre
  have hown : s.vm.findClass R_Sf = some m.cls := findClass_of_methodNamed B.named
  have hlocks := B.notSynchronized
  subst hsz
  have hD := hD.self (sz := s.heap.size)
  generalize hAe : va_A [(oSf, .inr (6, xf)), (oSt, .inr (4, xs_)), (oP1, .inr (3, xp)), (xf_sources, .inl (cJ, 15, .inr (.inl (fun _ => 0)))), (xst_meeting, .inl (cI, 15, .inl (fun _ => 0))), (xf_rivals, .inl (cI, 15, .inl (fun _ => 0)))] s.heap.size = A at hD ⊢
  have hA : ∀ q : Nat, s.heap.size ≤ q → A q := fun q h => by rw [← hAe]; exact Or.inr h
  have hS : va_S A s.heap s.heap [] := va_S.rf
  have hP : va_P (dC, dI) classes [(oSf, .inr (6, xf)), (oSt, .inr (4, xs_)), (oP1, .inr (3, xp)), (xf_sources, .inl (cJ, 15, .inr (.inl (fun _ => 0)))), (xst_meeting, .inl (cI, 15, .inl (fun _ => 0))), (xf_rivals, .inl (cI, 15, .inl (fun _ => 0)))] s.heap := hP
  have hl := lv_entry ([.ref oSf]) (n := 5) (Nat.le_of_ble_eq_true rfl)
  rw [lg_entry_eq]
  generalize (lg_sl ([.ref oSf]) ++ List.replicate (5 - (lg_sl ([.ref oSf])).length) Slot.unset).toArray = ls at hl ⊢
  have hl : lv_has ls 5 [(0, .ref oSf)] := hl
  refine lv_iconst (v := 0) hx hb d_Sf_findRivals_0 (by decide) ?_
  refine lv_istore_n hx hb d_Sf_findRivals_1 rfl hl (by decide) rfl (fun ls hl => ?_)
  have hl : lv_has ls 5 [(1, .int 0), (0, .ref oSf)] := hl
  refine lv_iload_n hx hb d_Sf_findRivals_2 rfl (lv_at hl 0 rfl) ?_
  refine lv_aload_n hx hb d_Sf_findRivals_3 rfl (lv_at hl 1 rfl) ?_
  refine va_get (D := (dC, dI)) (ci := 6) (v := .ref oSt) (C := R_Sf) (T := F_Sf) (N := 10) hx hb hts (fun w h => List.mem_cons_of_mem _ (in_Sf w h)) hown hK.1 hP 0 rfl rfl 0 (by decide) (hts _ (List.mem_cons_of_mem _ mw_282)) (fun _ h9 => h9) hsf_stock d_Sf_findRivals_4 ?_
  refine va_get (D := (dC, dI)) (ci := 4) (v := .ref oP1) (C := R_St) (T := F_St) (N := 12) hx hb hts (fun w h => List.mem_cons_of_mem _ (in_St w h)) hown hK.1 hP 1 rfl rfl 0 (by decide) (hts _ (List.mem_cons_of_mem _ mw_150)) (fun _ h9 => h9) hst_plant d_Sf_findRivals_7 ?_
  refine va_get (D := (dC, dI)) (ci := 3) (v := .int 0) (C := R_Pl) (T := F_Pl) (N := 12) hx hb hts (fun w h => List.mem_cons_of_mem _ (in_Pl w h)) hown hK.1 hP 2 rfl rfl 0 (by decide) (hts _ (List.mem_cons_of_mem _ mw_87)) (fun _ h9 => h9) hxp_things d_Sf_findRivals_10 ?_
  refine lv_aload_n hx hb d_Sf_findRivals_13 rfl (lv_at hl 1 rfl) ?_
  refine va_get (D := (dC, dI)) (ci := 6) (v := .ref oSt) (C := R_Sf) (T := F_Sf) (N := 10) hx hb hts (fun w h => List.mem_cons_of_mem _ (in_Sf w h)) hown hK.1 hP 0 rfl rfl 0 (by decide) (hts _ (List.mem_cons_of_mem _ mw_282)) (fun _ h9 => h9) hsf_stock d_Sf_findRivals_14 ?_
  refine va_get (D := (dC, dI)) (ci := 4) (v := .ref oP1) (C := R_St) (T := F_St) (N := 12) hx hb hts (fun w h => List.mem_cons_of_mem _ (in_St w h)) hown hK.1 hP 1 rfl rfl 0 (by decide) (hts _ (List.mem_cons_of_mem _ mw_150)) (fun _ h9 => h9) hst_plant d_Sf_findRivals_17 ?_
  refine va_get (D := (dC, dI)) (ci := 3) (v := .int 0) (C := R_Pl) (T := F_Pl) (N := 12) hx hb hts (fun w h => List.mem_cons_of_mem _ (in_Pl w h)) hown hK.1 hP 2 rfl rfl 1 (by decide) (hts _ (List.mem_cons_of_mem _ mw_93)) (fun _ h9 => h9) hxp_pipes d_Sf_findRivals_20 ?_
  refine lv_iadd hx hb d_Sf_findRivals_23 ?_
  refine lv_topi (fun x0 e0 => ?_)
  obtain rfl : x0 = 0 := e0.trans (by decide)
  refine lv_icmp_ge (tgt := 53) hx hb d_Sf_findRivals_24 (by decide) (fun _ => ?_) (fun h => absurd (by decide) h)
  refine lv_iconst (v := 0) hx hb d_Sf_findRivals_53 (by decide) ?_
  refine lv_istore_n hx hb d_Sf_findRivals_54 rfl hl (by decide) rfl (fun ls hl => ?_)
  have hl : lv_has ls 5 [(1, .int 0), (0, .ref oSf)] := hl
  refine lv_iconst (v := 1) hx hb d_Sf_findRivals_55 (by decide) ?_
  refine lv_istore_n hx hb d_Sf_findRivals_56 rfl hl (by decide) rfl (fun ls hl => ?_)
  have hl : lv_has ls 5 [(2, .int 1), (1, .int 0), (0, .ref oSf)] := hl
  refine lv_iload_n hx hb d_Sf_findRivals_57 rfl (lv_at hl 0 rfl) ?_
  refine lv_bipush (v := 14) hx hb d_Sf_findRivals_58 (by decide) ?_
  refine lv_icmp_gt (tgt := 90) hx hb d_Sf_findRivals_60 (by decide) (fun h => absurd h (by decide)) (fun _ => ?_)
  refine lv_iload_n hx hb d_Sf_findRivals_63 rfl (lv_at hl 1 rfl) ?_
  refine lv_aload_n hx hb d_Sf_findRivals_64 rfl (lv_at hl 2 rfl) ?_
  refine va_get (D := (dC, dI)) (ci := 6) (v := .ref xf_sources) (C := R_Sf) (T := F_Sf) (N := 10) hx hb hts (fun w h => List.mem_cons_of_mem _ (in_Sf w h)) hown hK.1 hP 0 rfl rfl 2 (by decide) (hts _ (List.mem_cons_of_mem _ mw_284)) (fun _ h9 => h9) hsf_sources d_Sf_findRivals_65 ?_
  refine lv_iload_n hx hb d_Sf_findRivals_68 rfl (lv_at hl 0 rfl) ?_
  refine va_lald hx hb hK.1 hP 3 3 rfl rfl (vp_in_iff.mpr (by decide)) d_Sf_findRivals_69 ?_
  refine lv_lconst (v := 0) hx hb d_Sf_findRivals_70 (by decide) ?_
  refine W.lcmp hx hb d_Sf_findRivals_71 ?_
  refine lv_topi (fun x0 e0 => ?_)
  obtain rfl : x0 = 0 := e0.trans (by decide)
  refine lv_if_eq (tgt := 81) hx hb d_Sf_findRivals_72 (by decide) (fun _ => ?_) (fun h => absurd (by decide) h)
  refine lv_iconst (v := 0) hx hb d_Sf_findRivals_81 (by decide) ?_
  refine lv_ior hx hb d_Sf_findRivals_82 ?_
  refine lv_topi (fun x0 e0 => ?_)
  obtain rfl : x0 = 0 := e0.trans (by decide)
  refine lv_istore_n hx hb d_Sf_findRivals_83 rfl hl (by decide) rfl (fun ls hl => ?_)
  have hl : lv_has ls 5 [(1, .int 0), (2, .int 1), (0, .ref oSf)] := hl
  refine lv_iinc (k := 1) (v := 2) hx hb d_Sf_findRivals_84 hl rfl (by first | rfl | decide | exact nI_1 i) (by decide) rfl (fun ls hl => ?_)
  have hl : lv_has ls 5 [(2, .int 2), (1, .int 0), (0, .ref oSf)] := hl
  refine lv_goto (tgt := 57) hx hb d_Sf_findRivals_87 (by decide) ?_
  refine lv_iload_n hx hb d_Sf_findRivals_57 rfl (lv_at hl 0 rfl) ?_
  refine lv_bipush (v := 14) hx hb d_Sf_findRivals_58 (by decide) ?_
  refine lv_icmp_gt (tgt := 90) hx hb d_Sf_findRivals_60 (by decide) (fun h => absurd h (by decide)) (fun _ => ?_)
  refine lv_iload_n hx hb d_Sf_findRivals_63 rfl (lv_at hl 1 rfl) ?_
  refine lv_aload_n hx hb d_Sf_findRivals_64 rfl (lv_at hl 2 rfl) ?_
  refine va_get (D := (dC, dI)) (ci := 6) (v := .ref xf_sources) (C := R_Sf) (T := F_Sf) (N := 10) hx hb hts (fun w h => List.mem_cons_of_mem _ (in_Sf w h)) hown hK.1 hP 0 rfl rfl 2 (by decide) (hts _ (List.mem_cons_of_mem _ mw_284)) (fun _ h9 => h9) hsf_sources d_Sf_findRivals_65 ?_
  refine lv_iload_n hx hb d_Sf_findRivals_68 rfl (lv_at hl 0 rfl) ?_
  refine va_lald hx hb hK.1 hP 3 3 rfl rfl (vp_in_iff.mpr (by decide)) d_Sf_findRivals_69 ?_
  refine lv_lconst (v := 0) hx hb d_Sf_findRivals_70 (by decide) ?_
  refine W.lcmp hx hb d_Sf_findRivals_71 ?_
  refine lv_topi (fun x0 e0 => ?_)
  obtain rfl : x0 = 0 := e0.trans (by decide)
  refine lv_if_eq (tgt := 81) hx hb d_Sf_findRivals_72 (by decide) (fun _ => ?_) (fun h => absurd (by decide) h)
  refine lv_iconst (v := 0) hx hb d_Sf_findRivals_81 (by decide) ?_
  refine lv_ior hx hb d_Sf_findRivals_82 ?_
  refine lv_topi (fun x0 e0 => ?_)
  obtain rfl : x0 = 0 := e0.trans (by decide)
  refine lv_istore_n hx hb d_Sf_findRivals_83 rfl hl (by decide) rfl (fun ls hl => ?_)
  have hl : lv_has ls 5 [(1, .int 0), (2, .int 2), (0, .ref oSf)] := hl
  refine lv_iinc (k := 1) (v := 3) hx hb d_Sf_findRivals_84 hl rfl (by first | rfl | decide | exact nI_1 i) (by decide) rfl (fun ls hl => ?_)
  have hl : lv_has ls 5 [(2, .int 3), (1, .int 0), (0, .ref oSf)] := hl
  refine lv_goto (tgt := 57) hx hb d_Sf_findRivals_87 (by decide) ?_
  refine lv_iload_n hx hb d_Sf_findRivals_57 rfl (lv_at hl 0 rfl) ?_
  refine lv_bipush (v := 14) hx hb d_Sf_findRivals_58 (by decide) ?_
  refine lv_icmp_gt (tgt := 90) hx hb d_Sf_findRivals_60 (by decide) (fun h => absurd h (by decide)) (fun _ => ?_)
  refine lv_iload_n hx hb d_Sf_findRivals_63 rfl (lv_at hl 1 rfl) ?_
  refine lv_aload_n hx hb d_Sf_findRivals_64 rfl (lv_at hl 2 rfl) ?_
  refine va_get (D := (dC, dI)) (ci := 6) (v := .ref xf_sources) (C := R_Sf) (T := F_Sf) (N := 10) hx hb hts (fun w h => List.mem_cons_of_mem _ (in_Sf w h)) hown hK.1 hP 0 rfl rfl 2 (by decide) (hts _ (List.mem_cons_of_mem _ mw_284)) (fun _ h9 => h9) hsf_sources d_Sf_findRivals_65 ?_
  refine lv_iload_n hx hb d_Sf_findRivals_68 rfl (lv_at hl 0 rfl) ?_
  refine va_lald hx hb hK.1 hP 3 3 rfl rfl (vp_in_iff.mpr (by decide)) d_Sf_findRivals_69 ?_
  refine lv_lconst (v := 0) hx hb d_Sf_findRivals_70 (by decide) ?_
  refine W.lcmp hx hb d_Sf_findRivals_71 ?_
  refine lv_topi (fun x0 e0 => ?_)
  obtain rfl : x0 = 0 := e0.trans (by decide)
  refine lv_if_eq (tgt := 81) hx hb d_Sf_findRivals_72 (by decide) (fun _ => ?_) (fun h => absurd (by decide) h)
  refine lv_iconst (v := 0) hx hb d_Sf_findRivals_81 (by decide) ?_
  refine lv_ior hx hb d_Sf_findRivals_82 ?_
  refine lv_topi (fun x0 e0 => ?_)
  obtain rfl : x0 = 0 := e0.trans (by decide)
  refine lv_istore_n hx hb d_Sf_findRivals_83 rfl hl (by decide) rfl (fun ls hl => ?_)
  have hl : lv_has ls 5 [(1, .int 0), (2, .int 3), (0, .ref oSf)] := hl
  refine lv_iinc (k := 1) (v := 4) hx hb d_Sf_findRivals_84 hl rfl (by first | rfl | decide | exact nI_1 i) (by decide) rfl (fun ls hl => ?_)
  have hl : lv_has ls 5 [(2, .int 4), (1, .int 0), (0, .ref oSf)] := hl
  refine lv_goto (tgt := 57) hx hb d_Sf_findRivals_87 (by decide) ?_
  refine lv_iload_n hx hb d_Sf_findRivals_57 rfl (lv_at hl 0 rfl) ?_
  refine lv_bipush (v := 14) hx hb d_Sf_findRivals_58 (by decide) ?_
  refine lv_icmp_gt (tgt := 90) hx hb d_Sf_findRivals_60 (by decide) (fun h => absurd h (by decide)) (fun _ => ?_)
  refine lv_iload_n hx hb d_Sf_findRivals_63 rfl (lv_at hl 1 rfl) ?_
  refine lv_aload_n hx hb d_Sf_findRivals_64 rfl (lv_at hl 2 rfl) ?_
  refine va_get (D := (dC, dI)) (ci := 6) (v := .ref xf_sources) (C := R_Sf) (T := F_Sf) (N := 10) hx hb hts (fun w h => List.mem_cons_of_mem _ (in_Sf w h)) hown hK.1 hP 0 rfl rfl 2 (by decide) (hts _ (List.mem_cons_of_mem _ mw_284)) (fun _ h9 => h9) hsf_sources d_Sf_findRivals_65 ?_
  refine lv_iload_n hx hb d_Sf_findRivals_68 rfl (lv_at hl 0 rfl) ?_
  refine va_lald hx hb hK.1 hP 3 3 rfl rfl (vp_in_iff.mpr (by decide)) d_Sf_findRivals_69 ?_
  refine lv_lconst (v := 0) hx hb d_Sf_findRivals_70 (by decide) ?_
  refine W.lcmp hx hb d_Sf_findRivals_71 ?_
  refine lv_topi (fun x0 e0 => ?_)
  obtain rfl : x0 = 0 := e0.trans (by decide)
  refine lv_if_eq (tgt := 81) hx hb d_Sf_findRivals_72 (by decide) (fun _ => ?_) (fun h => absurd (by decide) h)
  refine lv_iconst (v := 0) hx hb d_Sf_findRivals_81 (by decide) ?_
  refine lv_ior hx hb d_Sf_findRivals_82 ?_
  refine lv_topi (fun x0 e0 => ?_)
  obtain rfl : x0 = 0 := e0.trans (by decide)
  refine lv_istore_n hx hb d_Sf_findRivals_83 rfl hl (by decide) rfl (fun ls hl => ?_)
  have hl : lv_has ls 5 [(1, .int 0), (2, .int 4), (0, .ref oSf)] := hl
  refine lv_iinc (k := 1) (v := 5) hx hb d_Sf_findRivals_84 hl rfl (by first | rfl | decide | exact nI_1 i) (by decide) rfl (fun ls hl => ?_)
  have hl : lv_has ls 5 [(2, .int 5), (1, .int 0), (0, .ref oSf)] := hl
  refine lv_goto (tgt := 57) hx hb d_Sf_findRivals_87 (by decide) ?_
  refine lv_iload_n hx hb d_Sf_findRivals_57 rfl (lv_at hl 0 rfl) ?_
  refine lv_bipush (v := 14) hx hb d_Sf_findRivals_58 (by decide) ?_
  refine lv_icmp_gt (tgt := 90) hx hb d_Sf_findRivals_60 (by decide) (fun h => absurd h (by decide)) (fun _ => ?_)
  refine lv_iload_n hx hb d_Sf_findRivals_63 rfl (lv_at hl 1 rfl) ?_
  refine lv_aload_n hx hb d_Sf_findRivals_64 rfl (lv_at hl 2 rfl) ?_
  refine va_get (D := (dC, dI)) (ci := 6) (v := .ref xf_sources) (C := R_Sf) (T := F_Sf) (N := 10) hx hb hts (fun w h => List.mem_cons_of_mem _ (in_Sf w h)) hown hK.1 hP 0 rfl rfl 2 (by decide) (hts _ (List.mem_cons_of_mem _ mw_284)) (fun _ h9 => h9) hsf_sources d_Sf_findRivals_65 ?_
  refine lv_iload_n hx hb d_Sf_findRivals_68 rfl (lv_at hl 0 rfl) ?_
  refine va_lald hx hb hK.1 hP 3 3 rfl rfl (vp_in_iff.mpr (by decide)) d_Sf_findRivals_69 ?_
  refine lv_lconst (v := 0) hx hb d_Sf_findRivals_70 (by decide) ?_
  refine W.lcmp hx hb d_Sf_findRivals_71 ?_
  refine lv_topi (fun x0 e0 => ?_)
  obtain rfl : x0 = 0 := e0.trans (by decide)
  refine lv_if_eq (tgt := 81) hx hb d_Sf_findRivals_72 (by decide) (fun _ => ?_) (fun h => absurd (by decide) h)
  refine lv_iconst (v := 0) hx hb d_Sf_findRivals_81 (by decide) ?_
  refine lv_ior hx hb d_Sf_findRivals_82 ?_
  refine lv_topi (fun x0 e0 => ?_)
  obtain rfl : x0 = 0 := e0.trans (by decide)
  refine lv_istore_n hx hb d_Sf_findRivals_83 rfl hl (by decide) rfl (fun ls hl => ?_)
  have hl : lv_has ls 5 [(1, .int 0), (2, .int 5), (0, .ref oSf)] := hl
  refine lv_iinc (k := 1) (v := 6) hx hb d_Sf_findRivals_84 hl rfl (by first | rfl | decide | exact nI_1 i) (by decide) rfl (fun ls hl => ?_)
  have hl : lv_has ls 5 [(2, .int 6), (1, .int 0), (0, .ref oSf)] := hl
  refine lv_goto (tgt := 57) hx hb d_Sf_findRivals_87 (by decide) ?_
  refine lv_iload_n hx hb d_Sf_findRivals_57 rfl (lv_at hl 0 rfl) ?_
  refine lv_bipush (v := 14) hx hb d_Sf_findRivals_58 (by decide) ?_
  refine lv_icmp_gt (tgt := 90) hx hb d_Sf_findRivals_60 (by decide) (fun h => absurd h (by decide)) (fun _ => ?_)
  refine lv_iload_n hx hb d_Sf_findRivals_63 rfl (lv_at hl 1 rfl) ?_
  refine lv_aload_n hx hb d_Sf_findRivals_64 rfl (lv_at hl 2 rfl) ?_
  refine va_get (D := (dC, dI)) (ci := 6) (v := .ref xf_sources) (C := R_Sf) (T := F_Sf) (N := 10) hx hb hts (fun w h => List.mem_cons_of_mem _ (in_Sf w h)) hown hK.1 hP 0 rfl rfl 2 (by decide) (hts _ (List.mem_cons_of_mem _ mw_284)) (fun _ h9 => h9) hsf_sources d_Sf_findRivals_65 ?_
  refine lv_iload_n hx hb d_Sf_findRivals_68 rfl (lv_at hl 0 rfl) ?_
  refine va_lald hx hb hK.1 hP 3 3 rfl rfl (vp_in_iff.mpr (by decide)) d_Sf_findRivals_69 ?_
  refine lv_lconst (v := 0) hx hb d_Sf_findRivals_70 (by decide) ?_
  refine W.lcmp hx hb d_Sf_findRivals_71 ?_
  refine lv_topi (fun x0 e0 => ?_)
  obtain rfl : x0 = 0 := e0.trans (by decide)
  refine lv_if_eq (tgt := 81) hx hb d_Sf_findRivals_72 (by decide) (fun _ => ?_) (fun h => absurd (by decide) h)
  refine lv_iconst (v := 0) hx hb d_Sf_findRivals_81 (by decide) ?_
  refine lv_ior hx hb d_Sf_findRivals_82 ?_
  refine lv_topi (fun x0 e0 => ?_)
  obtain rfl : x0 = 0 := e0.trans (by decide)
  refine lv_istore_n hx hb d_Sf_findRivals_83 rfl hl (by decide) rfl (fun ls hl => ?_)
  have hl : lv_has ls 5 [(1, .int 0), (2, .int 6), (0, .ref oSf)] := hl
  refine lv_iinc (k := 1) (v := 7) hx hb d_Sf_findRivals_84 hl rfl (by first | rfl | decide | exact nI_1 i) (by decide) rfl (fun ls hl => ?_)
  have hl : lv_has ls 5 [(2, .int 7), (1, .int 0), (0, .ref oSf)] := hl
  refine lv_goto (tgt := 57) hx hb d_Sf_findRivals_87 (by decide) ?_
  refine lv_iload_n hx hb d_Sf_findRivals_57 rfl (lv_at hl 0 rfl) ?_
  refine lv_bipush (v := 14) hx hb d_Sf_findRivals_58 (by decide) ?_
  refine lv_icmp_gt (tgt := 90) hx hb d_Sf_findRivals_60 (by decide) (fun h => absurd h (by decide)) (fun _ => ?_)
  refine lv_iload_n hx hb d_Sf_findRivals_63 rfl (lv_at hl 1 rfl) ?_
  refine lv_aload_n hx hb d_Sf_findRivals_64 rfl (lv_at hl 2 rfl) ?_
  refine va_get (D := (dC, dI)) (ci := 6) (v := .ref xf_sources) (C := R_Sf) (T := F_Sf) (N := 10) hx hb hts (fun w h => List.mem_cons_of_mem _ (in_Sf w h)) hown hK.1 hP 0 rfl rfl 2 (by decide) (hts _ (List.mem_cons_of_mem _ mw_284)) (fun _ h9 => h9) hsf_sources d_Sf_findRivals_65 ?_
  refine lv_iload_n hx hb d_Sf_findRivals_68 rfl (lv_at hl 0 rfl) ?_
  refine va_lald hx hb hK.1 hP 3 3 rfl rfl (vp_in_iff.mpr (by decide)) d_Sf_findRivals_69 ?_
  refine lv_lconst (v := 0) hx hb d_Sf_findRivals_70 (by decide) ?_
  refine W.lcmp hx hb d_Sf_findRivals_71 ?_
  refine lv_topi (fun x0 e0 => ?_)
  obtain rfl : x0 = 0 := e0.trans (by decide)
  refine lv_if_eq (tgt := 81) hx hb d_Sf_findRivals_72 (by decide) (fun _ => ?_) (fun h => absurd (by decide) h)
  refine lv_iconst (v := 0) hx hb d_Sf_findRivals_81 (by decide) ?_
  refine lv_ior hx hb d_Sf_findRivals_82 ?_
  refine lv_topi (fun x0 e0 => ?_)
  obtain rfl : x0 = 0 := e0.trans (by decide)
  refine lv_istore_n hx hb d_Sf_findRivals_83 rfl hl (by decide) rfl (fun ls hl => ?_)
  have hl : lv_has ls 5 [(1, .int 0), (2, .int 7), (0, .ref oSf)] := hl
  refine lv_iinc (k := 1) (v := 8) hx hb d_Sf_findRivals_84 hl rfl (by first | rfl | decide | exact nI_1 i) (by decide) rfl (fun ls hl => ?_)
  have hl : lv_has ls 5 [(2, .int 8), (1, .int 0), (0, .ref oSf)] := hl
  refine lv_goto (tgt := 57) hx hb d_Sf_findRivals_87 (by decide) ?_
  refine lv_iload_n hx hb d_Sf_findRivals_57 rfl (lv_at hl 0 rfl) ?_
  refine lv_bipush (v := 14) hx hb d_Sf_findRivals_58 (by decide) ?_
  refine lv_icmp_gt (tgt := 90) hx hb d_Sf_findRivals_60 (by decide) (fun h => absurd h (by decide)) (fun _ => ?_)
  refine lv_iload_n hx hb d_Sf_findRivals_63 rfl (lv_at hl 1 rfl) ?_
  refine lv_aload_n hx hb d_Sf_findRivals_64 rfl (lv_at hl 2 rfl) ?_
  refine va_get (D := (dC, dI)) (ci := 6) (v := .ref xf_sources) (C := R_Sf) (T := F_Sf) (N := 10) hx hb hts (fun w h => List.mem_cons_of_mem _ (in_Sf w h)) hown hK.1 hP 0 rfl rfl 2 (by decide) (hts _ (List.mem_cons_of_mem _ mw_284)) (fun _ h9 => h9) hsf_sources d_Sf_findRivals_65 ?_
  refine lv_iload_n hx hb d_Sf_findRivals_68 rfl (lv_at hl 0 rfl) ?_
  refine va_lald hx hb hK.1 hP 3 3 rfl rfl (vp_in_iff.mpr (by decide)) d_Sf_findRivals_69 ?_
  refine lv_lconst (v := 0) hx hb d_Sf_findRivals_70 (by decide) ?_
  refine W.lcmp hx hb d_Sf_findRivals_71 ?_
  refine lv_topi (fun x0 e0 => ?_)
  obtain rfl : x0 = 0 := e0.trans (by decide)
  refine lv_if_eq (tgt := 81) hx hb d_Sf_findRivals_72 (by decide) (fun _ => ?_) (fun h => absurd (by decide) h)
  refine lv_iconst (v := 0) hx hb d_Sf_findRivals_81 (by decide) ?_
  refine lv_ior hx hb d_Sf_findRivals_82 ?_
  refine lv_topi (fun x0 e0 => ?_)
  obtain rfl : x0 = 0 := e0.trans (by decide)
  refine lv_istore_n hx hb d_Sf_findRivals_83 rfl hl (by decide) rfl (fun ls hl => ?_)
  have hl : lv_has ls 5 [(1, .int 0), (2, .int 8), (0, .ref oSf)] := hl
  refine lv_iinc (k := 1) (v := 9) hx hb d_Sf_findRivals_84 hl rfl (by first | rfl | decide | exact nI_1 i) (by decide) rfl (fun ls hl => ?_)
  have hl : lv_has ls 5 [(2, .int 9), (1, .int 0), (0, .ref oSf)] := hl
  refine lv_goto (tgt := 57) hx hb d_Sf_findRivals_87 (by decide) ?_
  refine lv_iload_n hx hb d_Sf_findRivals_57 rfl (lv_at hl 0 rfl) ?_
  refine lv_bipush (v := 14) hx hb d_Sf_findRivals_58 (by decide) ?_
  refine lv_icmp_gt (tgt := 90) hx hb d_Sf_findRivals_60 (by decide) (fun h => absurd h (by decide)) (fun _ => ?_)
  refine lv_iload_n hx hb d_Sf_findRivals_63 rfl (lv_at hl 1 rfl) ?_
  refine lv_aload_n hx hb d_Sf_findRivals_64 rfl (lv_at hl 2 rfl) ?_
  refine va_get (D := (dC, dI)) (ci := 6) (v := .ref xf_sources) (C := R_Sf) (T := F_Sf) (N := 10) hx hb hts (fun w h => List.mem_cons_of_mem _ (in_Sf w h)) hown hK.1 hP 0 rfl rfl 2 (by decide) (hts _ (List.mem_cons_of_mem _ mw_284)) (fun _ h9 => h9) hsf_sources d_Sf_findRivals_65 ?_
  refine lv_iload_n hx hb d_Sf_findRivals_68 rfl (lv_at hl 0 rfl) ?_
  refine va_lald hx hb hK.1 hP 3 3 rfl rfl (vp_in_iff.mpr (by decide)) d_Sf_findRivals_69 ?_
  refine lv_lconst (v := 0) hx hb d_Sf_findRivals_70 (by decide) ?_
  refine W.lcmp hx hb d_Sf_findRivals_71 ?_
  refine lv_topi (fun x0 e0 => ?_)
  obtain rfl : x0 = 0 := e0.trans (by decide)
  refine lv_if_eq (tgt := 81) hx hb d_Sf_findRivals_72 (by decide) (fun _ => ?_) (fun h => absurd (by decide) h)
  refine lv_iconst (v := 0) hx hb d_Sf_findRivals_81 (by decide) ?_
  refine lv_ior hx hb d_Sf_findRivals_82 ?_
  refine lv_topi (fun x0 e0 => ?_)
  obtain rfl : x0 = 0 := e0.trans (by decide)
  refine lv_istore_n hx hb d_Sf_findRivals_83 rfl hl (by decide) rfl (fun ls hl => ?_)
  have hl : lv_has ls 5 [(1, .int 0), (2, .int 9), (0, .ref oSf)] := hl
  refine lv_iinc (k := 1) (v := 10) hx hb d_Sf_findRivals_84 hl rfl (by first | rfl | decide | exact nI_1 i) (by decide) rfl (fun ls hl => ?_)
  have hl : lv_has ls 5 [(2, .int 10), (1, .int 0), (0, .ref oSf)] := hl
  refine lv_goto (tgt := 57) hx hb d_Sf_findRivals_87 (by decide) ?_
  refine lv_iload_n hx hb d_Sf_findRivals_57 rfl (lv_at hl 0 rfl) ?_
  refine lv_bipush (v := 14) hx hb d_Sf_findRivals_58 (by decide) ?_
  refine lv_icmp_gt (tgt := 90) hx hb d_Sf_findRivals_60 (by decide) (fun h => absurd h (by decide)) (fun _ => ?_)
  refine lv_iload_n hx hb d_Sf_findRivals_63 rfl (lv_at hl 1 rfl) ?_
  refine lv_aload_n hx hb d_Sf_findRivals_64 rfl (lv_at hl 2 rfl) ?_
  refine va_get (D := (dC, dI)) (ci := 6) (v := .ref xf_sources) (C := R_Sf) (T := F_Sf) (N := 10) hx hb hts (fun w h => List.mem_cons_of_mem _ (in_Sf w h)) hown hK.1 hP 0 rfl rfl 2 (by decide) (hts _ (List.mem_cons_of_mem _ mw_284)) (fun _ h9 => h9) hsf_sources d_Sf_findRivals_65 ?_
  refine lv_iload_n hx hb d_Sf_findRivals_68 rfl (lv_at hl 0 rfl) ?_
  refine va_lald hx hb hK.1 hP 3 3 rfl rfl (vp_in_iff.mpr (by decide)) d_Sf_findRivals_69 ?_
  refine lv_lconst (v := 0) hx hb d_Sf_findRivals_70 (by decide) ?_
  refine W.lcmp hx hb d_Sf_findRivals_71 ?_
  refine lv_topi (fun x0 e0 => ?_)
  obtain rfl : x0 = 0 := e0.trans (by decide)
  refine lv_if_eq (tgt := 81) hx hb d_Sf_findRivals_72 (by decide) (fun _ => ?_) (fun h => absurd (by decide) h)
  refine lv_iconst (v := 0) hx hb d_Sf_findRivals_81 (by decide) ?_
  refine lv_ior hx hb d_Sf_findRivals_82 ?_
  refine lv_topi (fun x0 e0 => ?_)
  obtain rfl : x0 = 0 := e0.trans (by decide)
  refine lv_istore_n hx hb d_Sf_findRivals_83 rfl hl (by decide) rfl (fun ls hl => ?_)
  have hl : lv_has ls 5 [(1, .int 0), (2, .int 10), (0, .ref oSf)] := hl
  refine lv_iinc (k := 1) (v := 11) hx hb d_Sf_findRivals_84 hl rfl (by first | rfl | decide | exact nI_1 i) (by decide) rfl (fun ls hl => ?_)
  have hl : lv_has ls 5 [(2, .int 11), (1, .int 0), (0, .ref oSf)] := hl
  refine lv_goto (tgt := 57) hx hb d_Sf_findRivals_87 (by decide) ?_
  refine lv_iload_n hx hb d_Sf_findRivals_57 rfl (lv_at hl 0 rfl) ?_
  refine lv_bipush (v := 14) hx hb d_Sf_findRivals_58 (by decide) ?_
  refine lv_icmp_gt (tgt := 90) hx hb d_Sf_findRivals_60 (by decide) (fun h => absurd h (by decide)) (fun _ => ?_)
  refine lv_iload_n hx hb d_Sf_findRivals_63 rfl (lv_at hl 1 rfl) ?_
  refine lv_aload_n hx hb d_Sf_findRivals_64 rfl (lv_at hl 2 rfl) ?_
  refine va_get (D := (dC, dI)) (ci := 6) (v := .ref xf_sources) (C := R_Sf) (T := F_Sf) (N := 10) hx hb hts (fun w h => List.mem_cons_of_mem _ (in_Sf w h)) hown hK.1 hP 0 rfl rfl 2 (by decide) (hts _ (List.mem_cons_of_mem _ mw_284)) (fun _ h9 => h9) hsf_sources d_Sf_findRivals_65 ?_
  refine lv_iload_n hx hb d_Sf_findRivals_68 rfl (lv_at hl 0 rfl) ?_
  refine va_lald hx hb hK.1 hP 3 3 rfl rfl (vp_in_iff.mpr (by decide)) d_Sf_findRivals_69 ?_
  refine lv_lconst (v := 0) hx hb d_Sf_findRivals_70 (by decide) ?_
  refine W.lcmp hx hb d_Sf_findRivals_71 ?_
  refine lv_topi (fun x0 e0 => ?_)
  obtain rfl : x0 = 0 := e0.trans (by decide)
  refine lv_if_eq (tgt := 81) hx hb d_Sf_findRivals_72 (by decide) (fun _ => ?_) (fun h => absurd (by decide) h)
  refine lv_iconst (v := 0) hx hb d_Sf_findRivals_81 (by decide) ?_
  refine lv_ior hx hb d_Sf_findRivals_82 ?_
  refine lv_topi (fun x0 e0 => ?_)
  obtain rfl : x0 = 0 := e0.trans (by decide)
  refine lv_istore_n hx hb d_Sf_findRivals_83 rfl hl (by decide) rfl (fun ls hl => ?_)
  have hl : lv_has ls 5 [(1, .int 0), (2, .int 11), (0, .ref oSf)] := hl
  refine lv_iinc (k := 1) (v := 12) hx hb d_Sf_findRivals_84 hl rfl (by first | rfl | decide | exact nI_1 i) (by decide) rfl (fun ls hl => ?_)
  have hl : lv_has ls 5 [(2, .int 12), (1, .int 0), (0, .ref oSf)] := hl
  refine lv_goto (tgt := 57) hx hb d_Sf_findRivals_87 (by decide) ?_
  refine lv_iload_n hx hb d_Sf_findRivals_57 rfl (lv_at hl 0 rfl) ?_
  refine lv_bipush (v := 14) hx hb d_Sf_findRivals_58 (by decide) ?_
  refine lv_icmp_gt (tgt := 90) hx hb d_Sf_findRivals_60 (by decide) (fun h => absurd h (by decide)) (fun _ => ?_)
  refine lv_iload_n hx hb d_Sf_findRivals_63 rfl (lv_at hl 1 rfl) ?_
  refine lv_aload_n hx hb d_Sf_findRivals_64 rfl (lv_at hl 2 rfl) ?_
  refine va_get (D := (dC, dI)) (ci := 6) (v := .ref xf_sources) (C := R_Sf) (T := F_Sf) (N := 10) hx hb hts (fun w h => List.mem_cons_of_mem _ (in_Sf w h)) hown hK.1 hP 0 rfl rfl 2 (by decide) (hts _ (List.mem_cons_of_mem _ mw_284)) (fun _ h9 => h9) hsf_sources d_Sf_findRivals_65 ?_
  refine lv_iload_n hx hb d_Sf_findRivals_68 rfl (lv_at hl 0 rfl) ?_
  refine va_lald hx hb hK.1 hP 3 3 rfl rfl (vp_in_iff.mpr (by decide)) d_Sf_findRivals_69 ?_
  refine lv_lconst (v := 0) hx hb d_Sf_findRivals_70 (by decide) ?_
  refine W.lcmp hx hb d_Sf_findRivals_71 ?_
  refine lv_topi (fun x0 e0 => ?_)
  obtain rfl : x0 = 0 := e0.trans (by decide)
  refine lv_if_eq (tgt := 81) hx hb d_Sf_findRivals_72 (by decide) (fun _ => ?_) (fun h => absurd (by decide) h)
  refine lv_iconst (v := 0) hx hb d_Sf_findRivals_81 (by decide) ?_
  refine lv_ior hx hb d_Sf_findRivals_82 ?_
  refine lv_topi (fun x0 e0 => ?_)
  obtain rfl : x0 = 0 := e0.trans (by decide)
  refine lv_istore_n hx hb d_Sf_findRivals_83 rfl hl (by decide) rfl (fun ls hl => ?_)
  have hl : lv_has ls 5 [(1, .int 0), (2, .int 12), (0, .ref oSf)] := hl
  refine lv_iinc (k := 1) (v := 13) hx hb d_Sf_findRivals_84 hl rfl (by first | rfl | decide | exact nI_1 i) (by decide) rfl (fun ls hl => ?_)
  have hl : lv_has ls 5 [(2, .int 13), (1, .int 0), (0, .ref oSf)] := hl
  refine lv_goto (tgt := 57) hx hb d_Sf_findRivals_87 (by decide) ?_
  refine lv_iload_n hx hb d_Sf_findRivals_57 rfl (lv_at hl 0 rfl) ?_
  refine lv_bipush (v := 14) hx hb d_Sf_findRivals_58 (by decide) ?_
  refine lv_icmp_gt (tgt := 90) hx hb d_Sf_findRivals_60 (by decide) (fun h => absurd h (by decide)) (fun _ => ?_)
  refine lv_iload_n hx hb d_Sf_findRivals_63 rfl (lv_at hl 1 rfl) ?_
  refine lv_aload_n hx hb d_Sf_findRivals_64 rfl (lv_at hl 2 rfl) ?_
  refine va_get (D := (dC, dI)) (ci := 6) (v := .ref xf_sources) (C := R_Sf) (T := F_Sf) (N := 10) hx hb hts (fun w h => List.mem_cons_of_mem _ (in_Sf w h)) hown hK.1 hP 0 rfl rfl 2 (by decide) (hts _ (List.mem_cons_of_mem _ mw_284)) (fun _ h9 => h9) hsf_sources d_Sf_findRivals_65 ?_
  refine lv_iload_n hx hb d_Sf_findRivals_68 rfl (lv_at hl 0 rfl) ?_
  refine va_lald hx hb hK.1 hP 3 3 rfl rfl (vp_in_iff.mpr (by decide)) d_Sf_findRivals_69 ?_
  refine lv_lconst (v := 0) hx hb d_Sf_findRivals_70 (by decide) ?_
  refine W.lcmp hx hb d_Sf_findRivals_71 ?_
  refine lv_topi (fun x0 e0 => ?_)
  obtain rfl : x0 = 0 := e0.trans (by decide)
  refine lv_if_eq (tgt := 81) hx hb d_Sf_findRivals_72 (by decide) (fun _ => ?_) (fun h => absurd (by decide) h)
  refine lv_iconst (v := 0) hx hb d_Sf_findRivals_81 (by decide) ?_
  refine lv_ior hx hb d_Sf_findRivals_82 ?_
  refine lv_topi (fun x0 e0 => ?_)
  obtain rfl : x0 = 0 := e0.trans (by decide)
  refine lv_istore_n hx hb d_Sf_findRivals_83 rfl hl (by decide) rfl (fun ls hl => ?_)
  have hl : lv_has ls 5 [(1, .int 0), (2, .int 13), (0, .ref oSf)] := hl
  refine lv_iinc (k := 1) (v := 14) hx hb d_Sf_findRivals_84 hl rfl (by first | rfl | decide | exact nI_1 i) (by decide) rfl (fun ls hl => ?_)
  have hl : lv_has ls 5 [(2, .int 14), (1, .int 0), (0, .ref oSf)] := hl
  refine lv_goto (tgt := 57) hx hb d_Sf_findRivals_87 (by decide) ?_
  refine lv_iload_n hx hb d_Sf_findRivals_57 rfl (lv_at hl 0 rfl) ?_
  refine lv_bipush (v := 14) hx hb d_Sf_findRivals_58 (by decide) ?_
  refine lv_icmp_gt (tgt := 90) hx hb d_Sf_findRivals_60 (by decide) (fun h => absurd h (by decide)) (fun _ => ?_)
  refine lv_iload_n hx hb d_Sf_findRivals_63 rfl (lv_at hl 1 rfl) ?_
  refine lv_aload_n hx hb d_Sf_findRivals_64 rfl (lv_at hl 2 rfl) ?_
  refine va_get (D := (dC, dI)) (ci := 6) (v := .ref xf_sources) (C := R_Sf) (T := F_Sf) (N := 10) hx hb hts (fun w h => List.mem_cons_of_mem _ (in_Sf w h)) hown hK.1 hP 0 rfl rfl 2 (by decide) (hts _ (List.mem_cons_of_mem _ mw_284)) (fun _ h9 => h9) hsf_sources d_Sf_findRivals_65 ?_
  refine lv_iload_n hx hb d_Sf_findRivals_68 rfl (lv_at hl 0 rfl) ?_
  refine va_lald hx hb hK.1 hP 3 3 rfl rfl (vp_in_iff.mpr (by decide)) d_Sf_findRivals_69 ?_
  refine lv_lconst (v := 0) hx hb d_Sf_findRivals_70 (by decide) ?_
  refine W.lcmp hx hb d_Sf_findRivals_71 ?_
  refine lv_topi (fun x0 e0 => ?_)
  obtain rfl : x0 = 0 := e0.trans (by decide)
  refine lv_if_eq (tgt := 81) hx hb d_Sf_findRivals_72 (by decide) (fun _ => ?_) (fun h => absurd (by decide) h)
  refine lv_iconst (v := 0) hx hb d_Sf_findRivals_81 (by decide) ?_
  refine lv_ior hx hb d_Sf_findRivals_82 ?_
  refine lv_topi (fun x0 e0 => ?_)
  obtain rfl : x0 = 0 := e0.trans (by decide)
  refine lv_istore_n hx hb d_Sf_findRivals_83 rfl hl (by decide) rfl (fun ls hl => ?_)
  have hl : lv_has ls 5 [(1, .int 0), (2, .int 14), (0, .ref oSf)] := hl
  refine lv_iinc (k := 1) (v := 15) hx hb d_Sf_findRivals_84 hl rfl (by first | rfl | decide | exact nI_1 i) (by decide) rfl (fun ls hl => ?_)
  have hl : lv_has ls 5 [(2, .int 15), (1, .int 0), (0, .ref oSf)] := hl
  refine lv_goto (tgt := 57) hx hb d_Sf_findRivals_87 (by decide) ?_
  refine lv_iload_n hx hb d_Sf_findRivals_57 rfl (lv_at hl 0 rfl) ?_
  refine lv_bipush (v := 14) hx hb d_Sf_findRivals_58 (by decide) ?_
  refine lv_icmp_gt (tgt := 90) hx hb d_Sf_findRivals_60 (by decide) (fun _ => ?_) (fun h => absurd (by decide) h)
  refine lv_iconst (v := 0) hx hb d_Sf_findRivals_90 (by decide) ?_
  refine lv_istore_n hx hb d_Sf_findRivals_91 rfl hl (by decide) rfl (fun ls hl => ?_)
  have hl : lv_has ls 5 [(2, .int 0), (1, .int 0), (0, .ref oSf)] := hl
  refine lv_iconst (v := 1) hx hb d_Sf_findRivals_92 (by decide) ?_
  refine lv_istore_n hx hb d_Sf_findRivals_93 rfl hl (by decide) rfl (fun ls hl => ?_)
  have hl : lv_has ls 5 [(3, .int 1), (2, .int 0), (1, .int 0), (0, .ref oSf)] := hl
  refine lv_iload_n hx hb d_Sf_findRivals_94 rfl (lv_at hl 0 rfl) ?_
  refine lv_bipush (v := 14) hx hb d_Sf_findRivals_95 (by decide) ?_
  refine lv_icmp_gt (tgt := 169) hx hb d_Sf_findRivals_97 (by decide) (fun h => absurd h (by decide)) (fun _ => ?_)
  refine lv_iload_n hx hb d_Sf_findRivals_100 rfl (lv_at hl 2 rfl) ?_
  refine lv_aload_n hx hb d_Sf_findRivals_101 rfl (lv_at hl 3 rfl) ?_
  refine va_get (D := (dC, dI)) (ci := 6) (v := .ref oSt) (C := R_Sf) (T := F_Sf) (N := 10) hx hb hts (fun w h => List.mem_cons_of_mem _ (in_Sf w h)) hown hK.1 hP 0 rfl rfl 0 (by decide) (hts _ (List.mem_cons_of_mem _ mw_282)) (fun _ h9 => h9) hsf_stock d_Sf_findRivals_102 ?_
  refine va_get (D := (dC, dI)) (ci := 4) (v := .ref xst_meeting) (C := R_St) (T := F_St) (N := 12) hx hb hts (fun w h => List.mem_cons_of_mem _ (in_St w h)) hown hK.1 hP 1 rfl rfl 9 (by decide) (hts _ (List.mem_cons_of_mem _ mw_177)) (fun _ h9 => h9) hst_meeting d_Sf_findRivals_105 ?_
  refine lv_iload_n hx hb d_Sf_findRivals_108 rfl (lv_at hl 0 rfl) ?_
  refine va_iald hx hb hK.1 hP 4 0 rfl rfl (vp_in_iff.mpr (by decide)) d_Sf_findRivals_109 ?_
  refine lv_iconst (v := (-1)) hx hb d_Sf_findRivals_110 (by decide) ?_
  refine lv_ixor hx hb d_Sf_findRivals_111 ?_
  refine lv_topi (fun x0 e0 => ?_)
  obtain rfl : x0 = (-1) := e0.trans (by decide)
  refine lv_iand hx hb d_Sf_findRivals_112 ?_
  refine lv_topi (fun x0 e0 => ?_)
  obtain rfl : x0 = 0 := e0.trans (by decide)
  refine lv_iconst (v := 1) hx hb d_Sf_findRivals_113 (by decide) ?_
  refine lv_iload_n hx hb d_Sf_findRivals_114 rfl (lv_at hl 0 rfl) ?_
  refine lv_ishl hx hb d_Sf_findRivals_115 ?_
  refine lv_topi (fun x0 e0 => ?_)
  obtain rfl : x0 = 2 := e0.trans (by decide)
  refine lv_iconst (v := (-1)) hx hb d_Sf_findRivals_116 (by decide) ?_
  refine lv_ixor hx hb d_Sf_findRivals_117 ?_
  refine lv_topi (fun x0 e0 => ?_)
  obtain rfl : x0 = (-3) := e0.trans (by decide)
  refine lv_iand hx hb d_Sf_findRivals_118 ?_
  refine lv_topi (fun x0 e0 => ?_)
  obtain rfl : x0 = 0 := e0.trans (by decide)
  refine lv_istore hx hb d_Sf_findRivals_119 hl (by decide) rfl (fun ls hl => ?_)
  have hl : lv_has ls 5 [(4, .int 0), (3, .int 1), (2, .int 0), (1, .int 0), (0, .ref oSf)] := hl
  refine lv_aload_n hx hb d_Sf_findRivals_121 rfl (lv_at hl 4 rfl) ?_
  refine va_get (D := (dC, dI)) (ci := 6) (v := .ref xf_rivals) (C := R_Sf) (T := F_Sf) (N := 10) hx hb hts (fun w h => List.mem_cons_of_mem _ (in_Sf w h)) hown hK.1 hP 0 rfl rfl 3 (by decide) (hts _ (List.mem_cons_of_mem _ mw_285)) (fun _ h9 => h9) hsf_rivals d_Sf_findRivals_122 ?_
  refine lv_iload_n hx hb d_Sf_findRivals_125 rfl (lv_at hl 1 rfl) ?_
  refine lv_aload_n hx hb d_Sf_findRivals_126 rfl (lv_at hl 4 rfl) ?_
  refine va_get (D := (dC, dI)) (ci := 6) (v := .ref xf_sources) (C := R_Sf) (T := F_Sf) (N := 10) hx hb hts (fun w h => List.mem_cons_of_mem _ (in_Sf w h)) hown hK.1 hP 0 rfl rfl 2 (by decide) (hts _ (List.mem_cons_of_mem _ mw_284)) (fun _ h9 => h9) hsf_sources d_Sf_findRivals_127 ?_
  refine lv_iload_n hx hb d_Sf_findRivals_130 rfl (lv_at hl 1 rfl) ?_
  refine va_lald hx hb hK.1 hP 3 3 rfl rfl (vp_in_iff.mpr (by decide)) d_Sf_findRivals_131 ?_
  refine lv_lconst (v := 0) hx hb d_Sf_findRivals_132 (by decide) ?_
  refine W.lcmp hx hb d_Sf_findRivals_133 ?_
  refine lv_topi (fun x0 e0 => ?_)
  obtain rfl : x0 = 0 := e0.trans (by decide)
  refine lv_if_eq (tgt := 142) hx hb d_Sf_findRivals_134 (by decide) (fun _ => ?_) (fun h => absurd (by decide) h)
  refine lv_iconst (v := 0) hx hb d_Sf_findRivals_142 (by decide) ?_
  refine va_iast hx hb hK.1 hP hD hS 5 0 rfl rfl (vp_in_iff.mpr (by decide)) d_Sf_findRivals_143 (fun H locs hP hD hS => ?_)
  have hP : va_P (dC, dI) classes [(oSf, .inr (6, xf)), (oSt, .inr (4, xs_)), (oP1, .inr (3, xp)), (xf_sources, .inl (cJ, 15, .inr (.inl (fun _ => 0)))), (xst_meeting, .inl (cI, 15, .inl (fun _ => 0))), (xf_rivals, .inl (cI, 15, .inl ((upd (fun _ => 0) (1 : Int32).toNatClampNeg 0))))] H := hP
  have hD : va_D A [(oSf, .inr (6, xf)), (oSt, .inr (4, xs_)), (oP1, .inr (3, xp)), (xf_sources, .inl (cJ, 15, .inr (.inl (fun _ => 0)))), (xst_meeting, .inl (cI, 15, .inl (fun _ => 0))), (xf_rivals, .inl (cI, 15, .inl ((upd (fun _ => 0) (1 : Int32).toNatClampNeg 0))))] := hD
  generalize hg_f143_1 : (upd (fun _ => 0) (1 : Int32).toNatClampNeg 0) = f143_1 at hP hD
  have hv_f143_1 : f143_1 (1 : Int32).toNatClampNeg = 0 := by rw [← hg_f143_1]; exact pk_us
  refine lv_iload_n hx hb d_Sf_findRivals_144 rfl (lv_at hl 2 rfl) ?_
  refine lv_if_ne (tgt := 157) hx hb d_Sf_findRivals_145 (by decide) (fun h => absurd rfl h) (fun _ => ?_)
  refine lv_aload_n hx hb d_Sf_findRivals_148 rfl (lv_at hl 4 rfl) ?_
  refine va_get (D := (dC, dI)) (ci := 6) (v := .ref xf_rivals) (C := R_Sf) (T := F_Sf) (N := 10) hx hb hts (fun w h => List.mem_cons_of_mem _ (in_Sf w h)) hown hK.1 hP 0 rfl rfl 3 (by decide) (hts _ (List.mem_cons_of_mem _ mw_285)) (fun _ h9 => h9) hsf_rivals d_Sf_findRivals_149 ?_
  refine lv_iload_n hx hb d_Sf_findRivals_152 rfl (lv_at hl 1 rfl) ?_
  refine va_iald hx hb hK.1 hP 5 0 rfl rfl (vp_in_iff.mpr (by decide)) d_Sf_findRivals_153 ?_
  refine lv_topi (fun x0 e0 => ?_)
  obtain rfl : x0 = 0 := e0.trans hv_f143_1
  refine lv_if_eq (tgt := 161) hx hb d_Sf_findRivals_154 (by decide) (fun _ => ?_) (fun h => absurd (by decide) h)
  refine lv_iconst (v := 0) hx hb d_Sf_findRivals_161 (by decide) ?_
  refine lv_istore_n hx hb d_Sf_findRivals_162 rfl hl (by decide) rfl (fun ls hl => ?_)
  have hl : lv_has ls 5 [(2, .int 0), (4, .int 0), (3, .int 1), (1, .int 0), (0, .ref oSf)] := hl
  refine lv_iinc (k := 2) (v := 2) hx hb d_Sf_findRivals_163 hl rfl (by first | rfl | decide | exact nI_1 i) (by decide) rfl (fun ls hl => ?_)
  have hl : lv_has ls 5 [(3, .int 2), (2, .int 0), (4, .int 0), (1, .int 0), (0, .ref oSf)] := hl
  refine lv_goto (tgt := 94) hx hb d_Sf_findRivals_166 (by decide) ?_
  refine lv_iload_n hx hb d_Sf_findRivals_94 rfl (lv_at hl 0 rfl) ?_
  refine lv_bipush (v := 14) hx hb d_Sf_findRivals_95 (by decide) ?_
  refine lv_icmp_gt (tgt := 169) hx hb d_Sf_findRivals_97 (by decide) (fun h => absurd h (by decide)) (fun _ => ?_)
  refine lv_iload_n hx hb d_Sf_findRivals_100 rfl (lv_at hl 3 rfl) ?_
  refine lv_aload_n hx hb d_Sf_findRivals_101 rfl (lv_at hl 4 rfl) ?_
  refine va_get (D := (dC, dI)) (ci := 6) (v := .ref oSt) (C := R_Sf) (T := F_Sf) (N := 10) hx hb hts (fun w h => List.mem_cons_of_mem _ (in_Sf w h)) hown hK.1 hP 0 rfl rfl 0 (by decide) (hts _ (List.mem_cons_of_mem _ mw_282)) (fun _ h9 => h9) hsf_stock d_Sf_findRivals_102 ?_
  refine va_get (D := (dC, dI)) (ci := 4) (v := .ref xst_meeting) (C := R_St) (T := F_St) (N := 12) hx hb hts (fun w h => List.mem_cons_of_mem _ (in_St w h)) hown hK.1 hP 1 rfl rfl 9 (by decide) (hts _ (List.mem_cons_of_mem _ mw_177)) (fun _ h9 => h9) hst_meeting d_Sf_findRivals_105 ?_
  refine lv_iload_n hx hb d_Sf_findRivals_108 rfl (lv_at hl 0 rfl) ?_
  refine va_iald hx hb hK.1 hP 4 0 rfl rfl (vp_in_iff.mpr (by decide)) d_Sf_findRivals_109 ?_
  refine lv_iconst (v := (-1)) hx hb d_Sf_findRivals_110 (by decide) ?_
  refine lv_ixor hx hb d_Sf_findRivals_111 ?_
  refine lv_topi (fun x0 e0 => ?_)
  obtain rfl : x0 = (-1) := e0.trans (by decide)
  refine lv_iand hx hb d_Sf_findRivals_112 ?_
  refine lv_topi (fun x0 e0 => ?_)
  obtain rfl : x0 = 0 := e0.trans (by decide)
  refine lv_iconst (v := 1) hx hb d_Sf_findRivals_113 (by decide) ?_
  refine lv_iload_n hx hb d_Sf_findRivals_114 rfl (lv_at hl 0 rfl) ?_
  refine lv_ishl hx hb d_Sf_findRivals_115 ?_
  refine lv_topi (fun x0 e0 => ?_)
  obtain rfl : x0 = 4 := e0.trans (by decide)
  refine lv_iconst (v := (-1)) hx hb d_Sf_findRivals_116 (by decide) ?_
  refine lv_ixor hx hb d_Sf_findRivals_117 ?_
  refine lv_topi (fun x0 e0 => ?_)
  obtain rfl : x0 = (-5) := e0.trans (by decide)
  refine lv_iand hx hb d_Sf_findRivals_118 ?_
  refine lv_topi (fun x0 e0 => ?_)
  obtain rfl : x0 = 0 := e0.trans (by decide)
  refine lv_istore hx hb d_Sf_findRivals_119 hl (by decide) rfl (fun ls hl => ?_)
  have hl : lv_has ls 5 [(4, .int 0), (3, .int 2), (2, .int 0), (1, .int 0), (0, .ref oSf)] := hl
  refine lv_aload_n hx hb d_Sf_findRivals_121 rfl (lv_at hl 4 rfl) ?_
  refine va_get (D := (dC, dI)) (ci := 6) (v := .ref xf_rivals) (C := R_Sf) (T := F_Sf) (N := 10) hx hb hts (fun w h => List.mem_cons_of_mem _ (in_Sf w h)) hown hK.1 hP 0 rfl rfl 3 (by decide) (hts _ (List.mem_cons_of_mem _ mw_285)) (fun _ h9 => h9) hsf_rivals d_Sf_findRivals_122 ?_
  refine lv_iload_n hx hb d_Sf_findRivals_125 rfl (lv_at hl 1 rfl) ?_
  refine lv_aload_n hx hb d_Sf_findRivals_126 rfl (lv_at hl 4 rfl) ?_
  refine va_get (D := (dC, dI)) (ci := 6) (v := .ref xf_sources) (C := R_Sf) (T := F_Sf) (N := 10) hx hb hts (fun w h => List.mem_cons_of_mem _ (in_Sf w h)) hown hK.1 hP 0 rfl rfl 2 (by decide) (hts _ (List.mem_cons_of_mem _ mw_284)) (fun _ h9 => h9) hsf_sources d_Sf_findRivals_127 ?_
  refine lv_iload_n hx hb d_Sf_findRivals_130 rfl (lv_at hl 1 rfl) ?_
  refine va_lald hx hb hK.1 hP 3 3 rfl rfl (vp_in_iff.mpr (by decide)) d_Sf_findRivals_131 ?_
  refine lv_lconst (v := 0) hx hb d_Sf_findRivals_132 (by decide) ?_
  refine W.lcmp hx hb d_Sf_findRivals_133 ?_
  refine lv_topi (fun x0 e0 => ?_)
  obtain rfl : x0 = 0 := e0.trans (by decide)
  refine lv_if_eq (tgt := 142) hx hb d_Sf_findRivals_134 (by decide) (fun _ => ?_) (fun h => absurd (by decide) h)
  refine lv_iconst (v := 0) hx hb d_Sf_findRivals_142 (by decide) ?_
  refine va_iast hx hb hK.1 hP hD hS 5 0 rfl rfl (vp_in_iff.mpr (by decide)) d_Sf_findRivals_143 (fun H locs hP hD hS => ?_)
  have hP : va_P (dC, dI) classes [(oSf, .inr (6, xf)), (oSt, .inr (4, xs_)), (oP1, .inr (3, xp)), (xf_sources, .inl (cJ, 15, .inr (.inl (fun _ => 0)))), (xst_meeting, .inl (cI, 15, .inl (fun _ => 0))), (xf_rivals, .inl (cI, 15, .inl ((upd f143_1 (2 : Int32).toNatClampNeg 0))))] H := hP
  have hD : va_D A [(oSf, .inr (6, xf)), (oSt, .inr (4, xs_)), (oP1, .inr (3, xp)), (xf_sources, .inl (cJ, 15, .inr (.inl (fun _ => 0)))), (xst_meeting, .inl (cI, 15, .inl (fun _ => 0))), (xf_rivals, .inl (cI, 15, .inl ((upd f143_1 (2 : Int32).toNatClampNeg 0))))] := hD
  generalize hg_f143_2 : (upd f143_1 (2 : Int32).toNatClampNeg 0) = f143_2 at hP hD
  have hv_f143_2 : f143_2 (2 : Int32).toNatClampNeg = 0 := by rw [← hg_f143_2]; exact pk_us
  refine lv_iload_n hx hb d_Sf_findRivals_144 rfl (lv_at hl 2 rfl) ?_
  refine lv_if_ne (tgt := 157) hx hb d_Sf_findRivals_145 (by decide) (fun h => absurd rfl h) (fun _ => ?_)
  refine lv_aload_n hx hb d_Sf_findRivals_148 rfl (lv_at hl 4 rfl) ?_
  refine va_get (D := (dC, dI)) (ci := 6) (v := .ref xf_rivals) (C := R_Sf) (T := F_Sf) (N := 10) hx hb hts (fun w h => List.mem_cons_of_mem _ (in_Sf w h)) hown hK.1 hP 0 rfl rfl 3 (by decide) (hts _ (List.mem_cons_of_mem _ mw_285)) (fun _ h9 => h9) hsf_rivals d_Sf_findRivals_149 ?_
  refine lv_iload_n hx hb d_Sf_findRivals_152 rfl (lv_at hl 1 rfl) ?_
  refine va_iald hx hb hK.1 hP 5 0 rfl rfl (vp_in_iff.mpr (by decide)) d_Sf_findRivals_153 ?_
  refine lv_topi (fun x0 e0 => ?_)
  obtain rfl : x0 = 0 := e0.trans hv_f143_2
  refine lv_if_eq (tgt := 161) hx hb d_Sf_findRivals_154 (by decide) (fun _ => ?_) (fun h => absurd (by decide) h)
  refine lv_iconst (v := 0) hx hb d_Sf_findRivals_161 (by decide) ?_
  refine lv_istore_n hx hb d_Sf_findRivals_162 rfl hl (by decide) rfl (fun ls hl => ?_)
  have hl : lv_has ls 5 [(2, .int 0), (4, .int 0), (3, .int 2), (1, .int 0), (0, .ref oSf)] := hl
  refine lv_iinc (k := 2) (v := 3) hx hb d_Sf_findRivals_163 hl rfl (by first | rfl | decide | exact nI_1 i) (by decide) rfl (fun ls hl => ?_)
  have hl : lv_has ls 5 [(3, .int 3), (2, .int 0), (4, .int 0), (1, .int 0), (0, .ref oSf)] := hl
  refine lv_goto (tgt := 94) hx hb d_Sf_findRivals_166 (by decide) ?_
  refine lv_iload_n hx hb d_Sf_findRivals_94 rfl (lv_at hl 0 rfl) ?_
  refine lv_bipush (v := 14) hx hb d_Sf_findRivals_95 (by decide) ?_
  refine lv_icmp_gt (tgt := 169) hx hb d_Sf_findRivals_97 (by decide) (fun h => absurd h (by decide)) (fun _ => ?_)
  refine lv_iload_n hx hb d_Sf_findRivals_100 rfl (lv_at hl 3 rfl) ?_
  refine lv_aload_n hx hb d_Sf_findRivals_101 rfl (lv_at hl 4 rfl) ?_
  refine va_get (D := (dC, dI)) (ci := 6) (v := .ref oSt) (C := R_Sf) (T := F_Sf) (N := 10) hx hb hts (fun w h => List.mem_cons_of_mem _ (in_Sf w h)) hown hK.1 hP 0 rfl rfl 0 (by decide) (hts _ (List.mem_cons_of_mem _ mw_282)) (fun _ h9 => h9) hsf_stock d_Sf_findRivals_102 ?_
  refine va_get (D := (dC, dI)) (ci := 4) (v := .ref xst_meeting) (C := R_St) (T := F_St) (N := 12) hx hb hts (fun w h => List.mem_cons_of_mem _ (in_St w h)) hown hK.1 hP 1 rfl rfl 9 (by decide) (hts _ (List.mem_cons_of_mem _ mw_177)) (fun _ h9 => h9) hst_meeting d_Sf_findRivals_105 ?_
  refine lv_iload_n hx hb d_Sf_findRivals_108 rfl (lv_at hl 0 rfl) ?_
  refine va_iald hx hb hK.1 hP 4 0 rfl rfl (vp_in_iff.mpr (by decide)) d_Sf_findRivals_109 ?_
  refine lv_iconst (v := (-1)) hx hb d_Sf_findRivals_110 (by decide) ?_
  refine lv_ixor hx hb d_Sf_findRivals_111 ?_
  refine lv_topi (fun x0 e0 => ?_)
  obtain rfl : x0 = (-1) := e0.trans (by decide)
  refine lv_iand hx hb d_Sf_findRivals_112 ?_
  refine lv_topi (fun x0 e0 => ?_)
  obtain rfl : x0 = 0 := e0.trans (by decide)
  refine lv_iconst (v := 1) hx hb d_Sf_findRivals_113 (by decide) ?_
  refine lv_iload_n hx hb d_Sf_findRivals_114 rfl (lv_at hl 0 rfl) ?_
  refine lv_ishl hx hb d_Sf_findRivals_115 ?_
  refine lv_topi (fun x0 e0 => ?_)
  obtain rfl : x0 = 8 := e0.trans (by decide)
  refine lv_iconst (v := (-1)) hx hb d_Sf_findRivals_116 (by decide) ?_
  refine lv_ixor hx hb d_Sf_findRivals_117 ?_
  refine lv_topi (fun x0 e0 => ?_)
  obtain rfl : x0 = (-9) := e0.trans (by decide)
  refine lv_iand hx hb d_Sf_findRivals_118 ?_
  refine lv_topi (fun x0 e0 => ?_)
  obtain rfl : x0 = 0 := e0.trans (by decide)
  refine lv_istore hx hb d_Sf_findRivals_119 hl (by decide) rfl (fun ls hl => ?_)
  have hl : lv_has ls 5 [(4, .int 0), (3, .int 3), (2, .int 0), (1, .int 0), (0, .ref oSf)] := hl
  refine lv_aload_n hx hb d_Sf_findRivals_121 rfl (lv_at hl 4 rfl) ?_
  refine va_get (D := (dC, dI)) (ci := 6) (v := .ref xf_rivals) (C := R_Sf) (T := F_Sf) (N := 10) hx hb hts (fun w h => List.mem_cons_of_mem _ (in_Sf w h)) hown hK.1 hP 0 rfl rfl 3 (by decide) (hts _ (List.mem_cons_of_mem _ mw_285)) (fun _ h9 => h9) hsf_rivals d_Sf_findRivals_122 ?_
  refine lv_iload_n hx hb d_Sf_findRivals_125 rfl (lv_at hl 1 rfl) ?_
  refine lv_aload_n hx hb d_Sf_findRivals_126 rfl (lv_at hl 4 rfl) ?_
  refine va_get (D := (dC, dI)) (ci := 6) (v := .ref xf_sources) (C := R_Sf) (T := F_Sf) (N := 10) hx hb hts (fun w h => List.mem_cons_of_mem _ (in_Sf w h)) hown hK.1 hP 0 rfl rfl 2 (by decide) (hts _ (List.mem_cons_of_mem _ mw_284)) (fun _ h9 => h9) hsf_sources d_Sf_findRivals_127 ?_
  refine lv_iload_n hx hb d_Sf_findRivals_130 rfl (lv_at hl 1 rfl) ?_
  refine va_lald hx hb hK.1 hP 3 3 rfl rfl (vp_in_iff.mpr (by decide)) d_Sf_findRivals_131 ?_
  refine lv_lconst (v := 0) hx hb d_Sf_findRivals_132 (by decide) ?_
  refine W.lcmp hx hb d_Sf_findRivals_133 ?_
  refine lv_topi (fun x0 e0 => ?_)
  obtain rfl : x0 = 0 := e0.trans (by decide)
  refine lv_if_eq (tgt := 142) hx hb d_Sf_findRivals_134 (by decide) (fun _ => ?_) (fun h => absurd (by decide) h)
  refine lv_iconst (v := 0) hx hb d_Sf_findRivals_142 (by decide) ?_
  refine va_iast hx hb hK.1 hP hD hS 5 0 rfl rfl (vp_in_iff.mpr (by decide)) d_Sf_findRivals_143 (fun H locs hP hD hS => ?_)
  have hP : va_P (dC, dI) classes [(oSf, .inr (6, xf)), (oSt, .inr (4, xs_)), (oP1, .inr (3, xp)), (xf_sources, .inl (cJ, 15, .inr (.inl (fun _ => 0)))), (xst_meeting, .inl (cI, 15, .inl (fun _ => 0))), (xf_rivals, .inl (cI, 15, .inl ((upd f143_2 (3 : Int32).toNatClampNeg 0))))] H := hP
  have hD : va_D A [(oSf, .inr (6, xf)), (oSt, .inr (4, xs_)), (oP1, .inr (3, xp)), (xf_sources, .inl (cJ, 15, .inr (.inl (fun _ => 0)))), (xst_meeting, .inl (cI, 15, .inl (fun _ => 0))), (xf_rivals, .inl (cI, 15, .inl ((upd f143_2 (3 : Int32).toNatClampNeg 0))))] := hD
  generalize hg_f143_3 : (upd f143_2 (3 : Int32).toNatClampNeg 0) = f143_3 at hP hD
  have hv_f143_3 : f143_3 (3 : Int32).toNatClampNeg = 0 := by rw [← hg_f143_3]; exact pk_us
  refine lv_iload_n hx hb d_Sf_findRivals_144 rfl (lv_at hl 2 rfl) ?_
  refine lv_if_ne (tgt := 157) hx hb d_Sf_findRivals_145 (by decide) (fun h => absurd rfl h) (fun _ => ?_)
  refine lv_aload_n hx hb d_Sf_findRivals_148 rfl (lv_at hl 4 rfl) ?_
  refine va_get (D := (dC, dI)) (ci := 6) (v := .ref xf_rivals) (C := R_Sf) (T := F_Sf) (N := 10) hx hb hts (fun w h => List.mem_cons_of_mem _ (in_Sf w h)) hown hK.1 hP 0 rfl rfl 3 (by decide) (hts _ (List.mem_cons_of_mem _ mw_285)) (fun _ h9 => h9) hsf_rivals d_Sf_findRivals_149 ?_
  refine lv_iload_n hx hb d_Sf_findRivals_152 rfl (lv_at hl 1 rfl) ?_
  refine va_iald hx hb hK.1 hP 5 0 rfl rfl (vp_in_iff.mpr (by decide)) d_Sf_findRivals_153 ?_
  refine lv_topi (fun x0 e0 => ?_)
  obtain rfl : x0 = 0 := e0.trans hv_f143_3
  refine lv_if_eq (tgt := 161) hx hb d_Sf_findRivals_154 (by decide) (fun _ => ?_) (fun h => absurd (by decide) h)
  refine lv_iconst (v := 0) hx hb d_Sf_findRivals_161 (by decide) ?_
  refine lv_istore_n hx hb d_Sf_findRivals_162 rfl hl (by decide) rfl (fun ls hl => ?_)
  have hl : lv_has ls 5 [(2, .int 0), (4, .int 0), (3, .int 3), (1, .int 0), (0, .ref oSf)] := hl
  refine lv_iinc (k := 2) (v := 4) hx hb d_Sf_findRivals_163 hl rfl (by first | rfl | decide | exact nI_1 i) (by decide) rfl (fun ls hl => ?_)
  have hl : lv_has ls 5 [(3, .int 4), (2, .int 0), (4, .int 0), (1, .int 0), (0, .ref oSf)] := hl
  refine lv_goto (tgt := 94) hx hb d_Sf_findRivals_166 (by decide) ?_
  refine lv_iload_n hx hb d_Sf_findRivals_94 rfl (lv_at hl 0 rfl) ?_
  refine lv_bipush (v := 14) hx hb d_Sf_findRivals_95 (by decide) ?_
  refine lv_icmp_gt (tgt := 169) hx hb d_Sf_findRivals_97 (by decide) (fun h => absurd h (by decide)) (fun _ => ?_)
  refine lv_iload_n hx hb d_Sf_findRivals_100 rfl (lv_at hl 3 rfl) ?_
  refine lv_aload_n hx hb d_Sf_findRivals_101 rfl (lv_at hl 4 rfl) ?_
  refine va_get (D := (dC, dI)) (ci := 6) (v := .ref oSt) (C := R_Sf) (T := F_Sf) (N := 10) hx hb hts (fun w h => List.mem_cons_of_mem _ (in_Sf w h)) hown hK.1 hP 0 rfl rfl 0 (by decide) (hts _ (List.mem_cons_of_mem _ mw_282)) (fun _ h9 => h9) hsf_stock d_Sf_findRivals_102 ?_
  refine va_get (D := (dC, dI)) (ci := 4) (v := .ref xst_meeting) (C := R_St) (T := F_St) (N := 12) hx hb hts (fun w h => List.mem_cons_of_mem _ (in_St w h)) hown hK.1 hP 1 rfl rfl 9 (by decide) (hts _ (List.mem_cons_of_mem _ mw_177)) (fun _ h9 => h9) hst_meeting d_Sf_findRivals_105 ?_
  refine lv_iload_n hx hb d_Sf_findRivals_108 rfl (lv_at hl 0 rfl) ?_
  refine va_iald hx hb hK.1 hP 4 0 rfl rfl (vp_in_iff.mpr (by decide)) d_Sf_findRivals_109 ?_
  refine lv_iconst (v := (-1)) hx hb d_Sf_findRivals_110 (by decide) ?_
  refine lv_ixor hx hb d_Sf_findRivals_111 ?_
  refine lv_topi (fun x0 e0 => ?_)
  obtain rfl : x0 = (-1) := e0.trans (by decide)
  refine lv_iand hx hb d_Sf_findRivals_112 ?_
  refine lv_topi (fun x0 e0 => ?_)
  obtain rfl : x0 = 0 := e0.trans (by decide)
  refine lv_iconst (v := 1) hx hb d_Sf_findRivals_113 (by decide) ?_
  refine lv_iload_n hx hb d_Sf_findRivals_114 rfl (lv_at hl 0 rfl) ?_
  refine lv_ishl hx hb d_Sf_findRivals_115 ?_
  refine lv_topi (fun x0 e0 => ?_)
  obtain rfl : x0 = 16 := e0.trans (by decide)
  refine lv_iconst (v := (-1)) hx hb d_Sf_findRivals_116 (by decide) ?_
  refine lv_ixor hx hb d_Sf_findRivals_117 ?_
  refine lv_topi (fun x0 e0 => ?_)
  obtain rfl : x0 = (-17) := e0.trans (by decide)
  refine lv_iand hx hb d_Sf_findRivals_118 ?_
  refine lv_topi (fun x0 e0 => ?_)
  obtain rfl : x0 = 0 := e0.trans (by decide)
  refine lv_istore hx hb d_Sf_findRivals_119 hl (by decide) rfl (fun ls hl => ?_)
  have hl : lv_has ls 5 [(4, .int 0), (3, .int 4), (2, .int 0), (1, .int 0), (0, .ref oSf)] := hl
  refine lv_aload_n hx hb d_Sf_findRivals_121 rfl (lv_at hl 4 rfl) ?_
  refine va_get (D := (dC, dI)) (ci := 6) (v := .ref xf_rivals) (C := R_Sf) (T := F_Sf) (N := 10) hx hb hts (fun w h => List.mem_cons_of_mem _ (in_Sf w h)) hown hK.1 hP 0 rfl rfl 3 (by decide) (hts _ (List.mem_cons_of_mem _ mw_285)) (fun _ h9 => h9) hsf_rivals d_Sf_findRivals_122 ?_
  refine lv_iload_n hx hb d_Sf_findRivals_125 rfl (lv_at hl 1 rfl) ?_
  refine lv_aload_n hx hb d_Sf_findRivals_126 rfl (lv_at hl 4 rfl) ?_
  refine va_get (D := (dC, dI)) (ci := 6) (v := .ref xf_sources) (C := R_Sf) (T := F_Sf) (N := 10) hx hb hts (fun w h => List.mem_cons_of_mem _ (in_Sf w h)) hown hK.1 hP 0 rfl rfl 2 (by decide) (hts _ (List.mem_cons_of_mem _ mw_284)) (fun _ h9 => h9) hsf_sources d_Sf_findRivals_127 ?_
  refine lv_iload_n hx hb d_Sf_findRivals_130 rfl (lv_at hl 1 rfl) ?_
  refine va_lald hx hb hK.1 hP 3 3 rfl rfl (vp_in_iff.mpr (by decide)) d_Sf_findRivals_131 ?_
  refine lv_lconst (v := 0) hx hb d_Sf_findRivals_132 (by decide) ?_
  refine W.lcmp hx hb d_Sf_findRivals_133 ?_
  refine lv_topi (fun x0 e0 => ?_)
  obtain rfl : x0 = 0 := e0.trans (by decide)
  refine lv_if_eq (tgt := 142) hx hb d_Sf_findRivals_134 (by decide) (fun _ => ?_) (fun h => absurd (by decide) h)
  refine lv_iconst (v := 0) hx hb d_Sf_findRivals_142 (by decide) ?_
  refine va_iast hx hb hK.1 hP hD hS 5 0 rfl rfl (vp_in_iff.mpr (by decide)) d_Sf_findRivals_143 (fun H locs hP hD hS => ?_)
  have hP : va_P (dC, dI) classes [(oSf, .inr (6, xf)), (oSt, .inr (4, xs_)), (oP1, .inr (3, xp)), (xf_sources, .inl (cJ, 15, .inr (.inl (fun _ => 0)))), (xst_meeting, .inl (cI, 15, .inl (fun _ => 0))), (xf_rivals, .inl (cI, 15, .inl ((upd f143_3 (4 : Int32).toNatClampNeg 0))))] H := hP
  have hD : va_D A [(oSf, .inr (6, xf)), (oSt, .inr (4, xs_)), (oP1, .inr (3, xp)), (xf_sources, .inl (cJ, 15, .inr (.inl (fun _ => 0)))), (xst_meeting, .inl (cI, 15, .inl (fun _ => 0))), (xf_rivals, .inl (cI, 15, .inl ((upd f143_3 (4 : Int32).toNatClampNeg 0))))] := hD
  generalize hg_f143_4 : (upd f143_3 (4 : Int32).toNatClampNeg 0) = f143_4 at hP hD
  have hv_f143_4 : f143_4 (4 : Int32).toNatClampNeg = 0 := by rw [← hg_f143_4]; exact pk_us
  refine lv_iload_n hx hb d_Sf_findRivals_144 rfl (lv_at hl 2 rfl) ?_
  refine lv_if_ne (tgt := 157) hx hb d_Sf_findRivals_145 (by decide) (fun h => absurd rfl h) (fun _ => ?_)
  refine lv_aload_n hx hb d_Sf_findRivals_148 rfl (lv_at hl 4 rfl) ?_
  refine va_get (D := (dC, dI)) (ci := 6) (v := .ref xf_rivals) (C := R_Sf) (T := F_Sf) (N := 10) hx hb hts (fun w h => List.mem_cons_of_mem _ (in_Sf w h)) hown hK.1 hP 0 rfl rfl 3 (by decide) (hts _ (List.mem_cons_of_mem _ mw_285)) (fun _ h9 => h9) hsf_rivals d_Sf_findRivals_149 ?_
  refine lv_iload_n hx hb d_Sf_findRivals_152 rfl (lv_at hl 1 rfl) ?_
  refine va_iald hx hb hK.1 hP 5 0 rfl rfl (vp_in_iff.mpr (by decide)) d_Sf_findRivals_153 ?_
  refine lv_topi (fun x0 e0 => ?_)
  obtain rfl : x0 = 0 := e0.trans hv_f143_4
  refine lv_if_eq (tgt := 161) hx hb d_Sf_findRivals_154 (by decide) (fun _ => ?_) (fun h => absurd (by decide) h)
  refine lv_iconst (v := 0) hx hb d_Sf_findRivals_161 (by decide) ?_
  refine lv_istore_n hx hb d_Sf_findRivals_162 rfl hl (by decide) rfl (fun ls hl => ?_)
  have hl : lv_has ls 5 [(2, .int 0), (4, .int 0), (3, .int 4), (1, .int 0), (0, .ref oSf)] := hl
  refine lv_iinc (k := 2) (v := 5) hx hb d_Sf_findRivals_163 hl rfl (by first | rfl | decide | exact nI_1 i) (by decide) rfl (fun ls hl => ?_)
  have hl : lv_has ls 5 [(3, .int 5), (2, .int 0), (4, .int 0), (1, .int 0), (0, .ref oSf)] := hl
  refine lv_goto (tgt := 94) hx hb d_Sf_findRivals_166 (by decide) ?_
  refine lv_iload_n hx hb d_Sf_findRivals_94 rfl (lv_at hl 0 rfl) ?_
  refine lv_bipush (v := 14) hx hb d_Sf_findRivals_95 (by decide) ?_
  refine lv_icmp_gt (tgt := 169) hx hb d_Sf_findRivals_97 (by decide) (fun h => absurd h (by decide)) (fun _ => ?_)
  refine lv_iload_n hx hb d_Sf_findRivals_100 rfl (lv_at hl 3 rfl) ?_
  refine lv_aload_n hx hb d_Sf_findRivals_101 rfl (lv_at hl 4 rfl) ?_
  refine va_get (D := (dC, dI)) (ci := 6) (v := .ref oSt) (C := R_Sf) (T := F_Sf) (N := 10) hx hb hts (fun w h => List.mem_cons_of_mem _ (in_Sf w h)) hown hK.1 hP 0 rfl rfl 0 (by decide) (hts _ (List.mem_cons_of_mem _ mw_282)) (fun _ h9 => h9) hsf_stock d_Sf_findRivals_102 ?_
  refine va_get (D := (dC, dI)) (ci := 4) (v := .ref xst_meeting) (C := R_St) (T := F_St) (N := 12) hx hb hts (fun w h => List.mem_cons_of_mem _ (in_St w h)) hown hK.1 hP 1 rfl rfl 9 (by decide) (hts _ (List.mem_cons_of_mem _ mw_177)) (fun _ h9 => h9) hst_meeting d_Sf_findRivals_105 ?_
  refine lv_iload_n hx hb d_Sf_findRivals_108 rfl (lv_at hl 0 rfl) ?_
  refine va_iald hx hb hK.1 hP 4 0 rfl rfl (vp_in_iff.mpr (by decide)) d_Sf_findRivals_109 ?_
  refine lv_iconst (v := (-1)) hx hb d_Sf_findRivals_110 (by decide) ?_
  refine lv_ixor hx hb d_Sf_findRivals_111 ?_
  refine lv_topi (fun x0 e0 => ?_)
  obtain rfl : x0 = (-1) := e0.trans (by decide)
  refine lv_iand hx hb d_Sf_findRivals_112 ?_
  refine lv_topi (fun x0 e0 => ?_)
  obtain rfl : x0 = 0 := e0.trans (by decide)
  refine lv_iconst (v := 1) hx hb d_Sf_findRivals_113 (by decide) ?_
  refine lv_iload_n hx hb d_Sf_findRivals_114 rfl (lv_at hl 0 rfl) ?_
  refine lv_ishl hx hb d_Sf_findRivals_115 ?_
  refine lv_topi (fun x0 e0 => ?_)
  obtain rfl : x0 = 32 := e0.trans (by decide)
  refine lv_iconst (v := (-1)) hx hb d_Sf_findRivals_116 (by decide) ?_
  refine lv_ixor hx hb d_Sf_findRivals_117 ?_
  refine lv_topi (fun x0 e0 => ?_)
  obtain rfl : x0 = (-33) := e0.trans (by decide)
  refine lv_iand hx hb d_Sf_findRivals_118 ?_
  refine lv_topi (fun x0 e0 => ?_)
  obtain rfl : x0 = 0 := e0.trans (by decide)
  refine lv_istore hx hb d_Sf_findRivals_119 hl (by decide) rfl (fun ls hl => ?_)
  have hl : lv_has ls 5 [(4, .int 0), (3, .int 5), (2, .int 0), (1, .int 0), (0, .ref oSf)] := hl
  refine lv_aload_n hx hb d_Sf_findRivals_121 rfl (lv_at hl 4 rfl) ?_
  refine va_get (D := (dC, dI)) (ci := 6) (v := .ref xf_rivals) (C := R_Sf) (T := F_Sf) (N := 10) hx hb hts (fun w h => List.mem_cons_of_mem _ (in_Sf w h)) hown hK.1 hP 0 rfl rfl 3 (by decide) (hts _ (List.mem_cons_of_mem _ mw_285)) (fun _ h9 => h9) hsf_rivals d_Sf_findRivals_122 ?_
  refine lv_iload_n hx hb d_Sf_findRivals_125 rfl (lv_at hl 1 rfl) ?_
  refine lv_aload_n hx hb d_Sf_findRivals_126 rfl (lv_at hl 4 rfl) ?_
  refine va_get (D := (dC, dI)) (ci := 6) (v := .ref xf_sources) (C := R_Sf) (T := F_Sf) (N := 10) hx hb hts (fun w h => List.mem_cons_of_mem _ (in_Sf w h)) hown hK.1 hP 0 rfl rfl 2 (by decide) (hts _ (List.mem_cons_of_mem _ mw_284)) (fun _ h9 => h9) hsf_sources d_Sf_findRivals_127 ?_
  refine lv_iload_n hx hb d_Sf_findRivals_130 rfl (lv_at hl 1 rfl) ?_
  refine va_lald hx hb hK.1 hP 3 3 rfl rfl (vp_in_iff.mpr (by decide)) d_Sf_findRivals_131 ?_
  refine lv_lconst (v := 0) hx hb d_Sf_findRivals_132 (by decide) ?_
  refine W.lcmp hx hb d_Sf_findRivals_133 ?_
  refine lv_topi (fun x0 e0 => ?_)
  obtain rfl : x0 = 0 := e0.trans (by decide)
  refine lv_if_eq (tgt := 142) hx hb d_Sf_findRivals_134 (by decide) (fun _ => ?_) (fun h => absurd (by decide) h)
  refine lv_iconst (v := 0) hx hb d_Sf_findRivals_142 (by decide) ?_
  refine va_iast hx hb hK.1 hP hD hS 5 0 rfl rfl (vp_in_iff.mpr (by decide)) d_Sf_findRivals_143 (fun H locs hP hD hS => ?_)
  have hP : va_P (dC, dI) classes [(oSf, .inr (6, xf)), (oSt, .inr (4, xs_)), (oP1, .inr (3, xp)), (xf_sources, .inl (cJ, 15, .inr (.inl (fun _ => 0)))), (xst_meeting, .inl (cI, 15, .inl (fun _ => 0))), (xf_rivals, .inl (cI, 15, .inl ((upd f143_4 (5 : Int32).toNatClampNeg 0))))] H := hP
  have hD : va_D A [(oSf, .inr (6, xf)), (oSt, .inr (4, xs_)), (oP1, .inr (3, xp)), (xf_sources, .inl (cJ, 15, .inr (.inl (fun _ => 0)))), (xst_meeting, .inl (cI, 15, .inl (fun _ => 0))), (xf_rivals, .inl (cI, 15, .inl ((upd f143_4 (5 : Int32).toNatClampNeg 0))))] := hD
  generalize hg_f143_5 : (upd f143_4 (5 : Int32).toNatClampNeg 0) = f143_5 at hP hD
  have hv_f143_5 : f143_5 (5 : Int32).toNatClampNeg = 0 := by rw [← hg_f143_5]; exact pk_us
  refine lv_iload_n hx hb d_Sf_findRivals_144 rfl (lv_at hl 2 rfl) ?_
  refine lv_if_ne (tgt := 157) hx hb d_Sf_findRivals_145 (by decide) (fun h => absurd rfl h) (fun _ => ?_)
  refine lv_aload_n hx hb d_Sf_findRivals_148 rfl (lv_at hl 4 rfl) ?_
  refine va_get (D := (dC, dI)) (ci := 6) (v := .ref xf_rivals) (C := R_Sf) (T := F_Sf) (N := 10) hx hb hts (fun w h => List.mem_cons_of_mem _ (in_Sf w h)) hown hK.1 hP 0 rfl rfl 3 (by decide) (hts _ (List.mem_cons_of_mem _ mw_285)) (fun _ h9 => h9) hsf_rivals d_Sf_findRivals_149 ?_
  refine lv_iload_n hx hb d_Sf_findRivals_152 rfl (lv_at hl 1 rfl) ?_
  refine va_iald hx hb hK.1 hP 5 0 rfl rfl (vp_in_iff.mpr (by decide)) d_Sf_findRivals_153 ?_
  refine lv_topi (fun x0 e0 => ?_)
  obtain rfl : x0 = 0 := e0.trans hv_f143_5
  refine lv_if_eq (tgt := 161) hx hb d_Sf_findRivals_154 (by decide) (fun _ => ?_) (fun h => absurd (by decide) h)
  refine lv_iconst (v := 0) hx hb d_Sf_findRivals_161 (by decide) ?_
  refine lv_istore_n hx hb d_Sf_findRivals_162 rfl hl (by decide) rfl (fun ls hl => ?_)
  have hl : lv_has ls 5 [(2, .int 0), (4, .int 0), (3, .int 5), (1, .int 0), (0, .ref oSf)] := hl
  refine lv_iinc (k := 2) (v := 6) hx hb d_Sf_findRivals_163 hl rfl (by first | rfl | decide | exact nI_1 i) (by decide) rfl (fun ls hl => ?_)
  have hl : lv_has ls 5 [(3, .int 6), (2, .int 0), (4, .int 0), (1, .int 0), (0, .ref oSf)] := hl
  refine lv_goto (tgt := 94) hx hb d_Sf_findRivals_166 (by decide) ?_
  refine lv_iload_n hx hb d_Sf_findRivals_94 rfl (lv_at hl 0 rfl) ?_
  refine lv_bipush (v := 14) hx hb d_Sf_findRivals_95 (by decide) ?_
  refine lv_icmp_gt (tgt := 169) hx hb d_Sf_findRivals_97 (by decide) (fun h => absurd h (by decide)) (fun _ => ?_)
  refine lv_iload_n hx hb d_Sf_findRivals_100 rfl (lv_at hl 3 rfl) ?_
  refine lv_aload_n hx hb d_Sf_findRivals_101 rfl (lv_at hl 4 rfl) ?_
  refine va_get (D := (dC, dI)) (ci := 6) (v := .ref oSt) (C := R_Sf) (T := F_Sf) (N := 10) hx hb hts (fun w h => List.mem_cons_of_mem _ (in_Sf w h)) hown hK.1 hP 0 rfl rfl 0 (by decide) (hts _ (List.mem_cons_of_mem _ mw_282)) (fun _ h9 => h9) hsf_stock d_Sf_findRivals_102 ?_
  refine va_get (D := (dC, dI)) (ci := 4) (v := .ref xst_meeting) (C := R_St) (T := F_St) (N := 12) hx hb hts (fun w h => List.mem_cons_of_mem _ (in_St w h)) hown hK.1 hP 1 rfl rfl 9 (by decide) (hts _ (List.mem_cons_of_mem _ mw_177)) (fun _ h9 => h9) hst_meeting d_Sf_findRivals_105 ?_
  refine lv_iload_n hx hb d_Sf_findRivals_108 rfl (lv_at hl 0 rfl) ?_
  refine va_iald hx hb hK.1 hP 4 0 rfl rfl (vp_in_iff.mpr (by decide)) d_Sf_findRivals_109 ?_
  refine lv_iconst (v := (-1)) hx hb d_Sf_findRivals_110 (by decide) ?_
  refine lv_ixor hx hb d_Sf_findRivals_111 ?_
  refine lv_topi (fun x0 e0 => ?_)
  obtain rfl : x0 = (-1) := e0.trans (by decide)
  refine lv_iand hx hb d_Sf_findRivals_112 ?_
  refine lv_topi (fun x0 e0 => ?_)
  obtain rfl : x0 = 0 := e0.trans (by decide)
  refine lv_iconst (v := 1) hx hb d_Sf_findRivals_113 (by decide) ?_
  refine lv_iload_n hx hb d_Sf_findRivals_114 rfl (lv_at hl 0 rfl) ?_
  refine lv_ishl hx hb d_Sf_findRivals_115 ?_
  refine lv_topi (fun x0 e0 => ?_)
  obtain rfl : x0 = 64 := e0.trans (by decide)
  refine lv_iconst (v := (-1)) hx hb d_Sf_findRivals_116 (by decide) ?_
  refine lv_ixor hx hb d_Sf_findRivals_117 ?_
  refine lv_topi (fun x0 e0 => ?_)
  obtain rfl : x0 = (-65) := e0.trans (by decide)
  refine lv_iand hx hb d_Sf_findRivals_118 ?_
  refine lv_topi (fun x0 e0 => ?_)
  obtain rfl : x0 = 0 := e0.trans (by decide)
  refine lv_istore hx hb d_Sf_findRivals_119 hl (by decide) rfl (fun ls hl => ?_)
  have hl : lv_has ls 5 [(4, .int 0), (3, .int 6), (2, .int 0), (1, .int 0), (0, .ref oSf)] := hl
  refine lv_aload_n hx hb d_Sf_findRivals_121 rfl (lv_at hl 4 rfl) ?_
  refine va_get (D := (dC, dI)) (ci := 6) (v := .ref xf_rivals) (C := R_Sf) (T := F_Sf) (N := 10) hx hb hts (fun w h => List.mem_cons_of_mem _ (in_Sf w h)) hown hK.1 hP 0 rfl rfl 3 (by decide) (hts _ (List.mem_cons_of_mem _ mw_285)) (fun _ h9 => h9) hsf_rivals d_Sf_findRivals_122 ?_
  refine lv_iload_n hx hb d_Sf_findRivals_125 rfl (lv_at hl 1 rfl) ?_
  refine lv_aload_n hx hb d_Sf_findRivals_126 rfl (lv_at hl 4 rfl) ?_
  refine va_get (D := (dC, dI)) (ci := 6) (v := .ref xf_sources) (C := R_Sf) (T := F_Sf) (N := 10) hx hb hts (fun w h => List.mem_cons_of_mem _ (in_Sf w h)) hown hK.1 hP 0 rfl rfl 2 (by decide) (hts _ (List.mem_cons_of_mem _ mw_284)) (fun _ h9 => h9) hsf_sources d_Sf_findRivals_127 ?_
  refine lv_iload_n hx hb d_Sf_findRivals_130 rfl (lv_at hl 1 rfl) ?_
  refine va_lald hx hb hK.1 hP 3 3 rfl rfl (vp_in_iff.mpr (by decide)) d_Sf_findRivals_131 ?_
  refine lv_lconst (v := 0) hx hb d_Sf_findRivals_132 (by decide) ?_
  refine W.lcmp hx hb d_Sf_findRivals_133 ?_
  refine lv_topi (fun x0 e0 => ?_)
  obtain rfl : x0 = 0 := e0.trans (by decide)
  refine lv_if_eq (tgt := 142) hx hb d_Sf_findRivals_134 (by decide) (fun _ => ?_) (fun h => absurd (by decide) h)
  refine lv_iconst (v := 0) hx hb d_Sf_findRivals_142 (by decide) ?_
  refine va_iast hx hb hK.1 hP hD hS 5 0 rfl rfl (vp_in_iff.mpr (by decide)) d_Sf_findRivals_143 (fun H locs hP hD hS => ?_)
  have hP : va_P (dC, dI) classes [(oSf, .inr (6, xf)), (oSt, .inr (4, xs_)), (oP1, .inr (3, xp)), (xf_sources, .inl (cJ, 15, .inr (.inl (fun _ => 0)))), (xst_meeting, .inl (cI, 15, .inl (fun _ => 0))), (xf_rivals, .inl (cI, 15, .inl ((upd f143_5 (6 : Int32).toNatClampNeg 0))))] H := hP
  have hD : va_D A [(oSf, .inr (6, xf)), (oSt, .inr (4, xs_)), (oP1, .inr (3, xp)), (xf_sources, .inl (cJ, 15, .inr (.inl (fun _ => 0)))), (xst_meeting, .inl (cI, 15, .inl (fun _ => 0))), (xf_rivals, .inl (cI, 15, .inl ((upd f143_5 (6 : Int32).toNatClampNeg 0))))] := hD
  generalize hg_f143_6 : (upd f143_5 (6 : Int32).toNatClampNeg 0) = f143_6 at hP hD
  have hv_f143_6 : f143_6 (6 : Int32).toNatClampNeg = 0 := by rw [← hg_f143_6]; exact pk_us
  refine lv_iload_n hx hb d_Sf_findRivals_144 rfl (lv_at hl 2 rfl) ?_
  refine lv_if_ne (tgt := 157) hx hb d_Sf_findRivals_145 (by decide) (fun h => absurd rfl h) (fun _ => ?_)
  refine lv_aload_n hx hb d_Sf_findRivals_148 rfl (lv_at hl 4 rfl) ?_
  refine va_get (D := (dC, dI)) (ci := 6) (v := .ref xf_rivals) (C := R_Sf) (T := F_Sf) (N := 10) hx hb hts (fun w h => List.mem_cons_of_mem _ (in_Sf w h)) hown hK.1 hP 0 rfl rfl 3 (by decide) (hts _ (List.mem_cons_of_mem _ mw_285)) (fun _ h9 => h9) hsf_rivals d_Sf_findRivals_149 ?_
  refine lv_iload_n hx hb d_Sf_findRivals_152 rfl (lv_at hl 1 rfl) ?_
  refine va_iald hx hb hK.1 hP 5 0 rfl rfl (vp_in_iff.mpr (by decide)) d_Sf_findRivals_153 ?_
  refine lv_topi (fun x0 e0 => ?_)
  obtain rfl : x0 = 0 := e0.trans hv_f143_6
  refine lv_if_eq (tgt := 161) hx hb d_Sf_findRivals_154 (by decide) (fun _ => ?_) (fun h => absurd (by decide) h)
  refine lv_iconst (v := 0) hx hb d_Sf_findRivals_161 (by decide) ?_
  refine lv_istore_n hx hb d_Sf_findRivals_162 rfl hl (by decide) rfl (fun ls hl => ?_)
  have hl : lv_has ls 5 [(2, .int 0), (4, .int 0), (3, .int 6), (1, .int 0), (0, .ref oSf)] := hl
  refine lv_iinc (k := 2) (v := 7) hx hb d_Sf_findRivals_163 hl rfl (by first | rfl | decide | exact nI_1 i) (by decide) rfl (fun ls hl => ?_)
  have hl : lv_has ls 5 [(3, .int 7), (2, .int 0), (4, .int 0), (1, .int 0), (0, .ref oSf)] := hl
  refine lv_goto (tgt := 94) hx hb d_Sf_findRivals_166 (by decide) ?_
  refine lv_iload_n hx hb d_Sf_findRivals_94 rfl (lv_at hl 0 rfl) ?_
  refine lv_bipush (v := 14) hx hb d_Sf_findRivals_95 (by decide) ?_
  refine lv_icmp_gt (tgt := 169) hx hb d_Sf_findRivals_97 (by decide) (fun h => absurd h (by decide)) (fun _ => ?_)
  refine lv_iload_n hx hb d_Sf_findRivals_100 rfl (lv_at hl 3 rfl) ?_
  refine lv_aload_n hx hb d_Sf_findRivals_101 rfl (lv_at hl 4 rfl) ?_
  refine va_get (D := (dC, dI)) (ci := 6) (v := .ref oSt) (C := R_Sf) (T := F_Sf) (N := 10) hx hb hts (fun w h => List.mem_cons_of_mem _ (in_Sf w h)) hown hK.1 hP 0 rfl rfl 0 (by decide) (hts _ (List.mem_cons_of_mem _ mw_282)) (fun _ h9 => h9) hsf_stock d_Sf_findRivals_102 ?_
  refine va_get (D := (dC, dI)) (ci := 4) (v := .ref xst_meeting) (C := R_St) (T := F_St) (N := 12) hx hb hts (fun w h => List.mem_cons_of_mem _ (in_St w h)) hown hK.1 hP 1 rfl rfl 9 (by decide) (hts _ (List.mem_cons_of_mem _ mw_177)) (fun _ h9 => h9) hst_meeting d_Sf_findRivals_105 ?_
  refine lv_iload_n hx hb d_Sf_findRivals_108 rfl (lv_at hl 0 rfl) ?_
  refine va_iald hx hb hK.1 hP 4 0 rfl rfl (vp_in_iff.mpr (by decide)) d_Sf_findRivals_109 ?_
  refine lv_iconst (v := (-1)) hx hb d_Sf_findRivals_110 (by decide) ?_
  refine lv_ixor hx hb d_Sf_findRivals_111 ?_
  refine lv_topi (fun x0 e0 => ?_)
  obtain rfl : x0 = (-1) := e0.trans (by decide)
  refine lv_iand hx hb d_Sf_findRivals_112 ?_
  refine lv_topi (fun x0 e0 => ?_)
  obtain rfl : x0 = 0 := e0.trans (by decide)
  refine lv_iconst (v := 1) hx hb d_Sf_findRivals_113 (by decide) ?_
  refine lv_iload_n hx hb d_Sf_findRivals_114 rfl (lv_at hl 0 rfl) ?_
  refine lv_ishl hx hb d_Sf_findRivals_115 ?_
  refine lv_topi (fun x0 e0 => ?_)
  obtain rfl : x0 = 128 := e0.trans (by decide)
  refine lv_iconst (v := (-1)) hx hb d_Sf_findRivals_116 (by decide) ?_
  refine lv_ixor hx hb d_Sf_findRivals_117 ?_
  refine lv_topi (fun x0 e0 => ?_)
  obtain rfl : x0 = (-129) := e0.trans (by decide)
  refine lv_iand hx hb d_Sf_findRivals_118 ?_
  refine lv_topi (fun x0 e0 => ?_)
  obtain rfl : x0 = 0 := e0.trans (by decide)
  refine lv_istore hx hb d_Sf_findRivals_119 hl (by decide) rfl (fun ls hl => ?_)
  have hl : lv_has ls 5 [(4, .int 0), (3, .int 7), (2, .int 0), (1, .int 0), (0, .ref oSf)] := hl
  refine lv_aload_n hx hb d_Sf_findRivals_121 rfl (lv_at hl 4 rfl) ?_
  refine va_get (D := (dC, dI)) (ci := 6) (v := .ref xf_rivals) (C := R_Sf) (T := F_Sf) (N := 10) hx hb hts (fun w h => List.mem_cons_of_mem _ (in_Sf w h)) hown hK.1 hP 0 rfl rfl 3 (by decide) (hts _ (List.mem_cons_of_mem _ mw_285)) (fun _ h9 => h9) hsf_rivals d_Sf_findRivals_122 ?_
  refine lv_iload_n hx hb d_Sf_findRivals_125 rfl (lv_at hl 1 rfl) ?_
  refine lv_aload_n hx hb d_Sf_findRivals_126 rfl (lv_at hl 4 rfl) ?_
  refine va_get (D := (dC, dI)) (ci := 6) (v := .ref xf_sources) (C := R_Sf) (T := F_Sf) (N := 10) hx hb hts (fun w h => List.mem_cons_of_mem _ (in_Sf w h)) hown hK.1 hP 0 rfl rfl 2 (by decide) (hts _ (List.mem_cons_of_mem _ mw_284)) (fun _ h9 => h9) hsf_sources d_Sf_findRivals_127 ?_
  refine lv_iload_n hx hb d_Sf_findRivals_130 rfl (lv_at hl 1 rfl) ?_
  refine va_lald hx hb hK.1 hP 3 3 rfl rfl (vp_in_iff.mpr (by decide)) d_Sf_findRivals_131 ?_
  refine lv_lconst (v := 0) hx hb d_Sf_findRivals_132 (by decide) ?_
  refine W.lcmp hx hb d_Sf_findRivals_133 ?_
  refine lv_topi (fun x0 e0 => ?_)
  obtain rfl : x0 = 0 := e0.trans (by decide)
  refine lv_if_eq (tgt := 142) hx hb d_Sf_findRivals_134 (by decide) (fun _ => ?_) (fun h => absurd (by decide) h)
  refine lv_iconst (v := 0) hx hb d_Sf_findRivals_142 (by decide) ?_
  refine va_iast hx hb hK.1 hP hD hS 5 0 rfl rfl (vp_in_iff.mpr (by decide)) d_Sf_findRivals_143 (fun H locs hP hD hS => ?_)
  have hP : va_P (dC, dI) classes [(oSf, .inr (6, xf)), (oSt, .inr (4, xs_)), (oP1, .inr (3, xp)), (xf_sources, .inl (cJ, 15, .inr (.inl (fun _ => 0)))), (xst_meeting, .inl (cI, 15, .inl (fun _ => 0))), (xf_rivals, .inl (cI, 15, .inl ((upd f143_6 (7 : Int32).toNatClampNeg 0))))] H := hP
  have hD : va_D A [(oSf, .inr (6, xf)), (oSt, .inr (4, xs_)), (oP1, .inr (3, xp)), (xf_sources, .inl (cJ, 15, .inr (.inl (fun _ => 0)))), (xst_meeting, .inl (cI, 15, .inl (fun _ => 0))), (xf_rivals, .inl (cI, 15, .inl ((upd f143_6 (7 : Int32).toNatClampNeg 0))))] := hD
  generalize hg_f143_7 : (upd f143_6 (7 : Int32).toNatClampNeg 0) = f143_7 at hP hD
  have hv_f143_7 : f143_7 (7 : Int32).toNatClampNeg = 0 := by rw [← hg_f143_7]; exact pk_us
  refine lv_iload_n hx hb d_Sf_findRivals_144 rfl (lv_at hl 2 rfl) ?_
  refine lv_if_ne (tgt := 157) hx hb d_Sf_findRivals_145 (by decide) (fun h => absurd rfl h) (fun _ => ?_)
  refine lv_aload_n hx hb d_Sf_findRivals_148 rfl (lv_at hl 4 rfl) ?_
  refine va_get (D := (dC, dI)) (ci := 6) (v := .ref xf_rivals) (C := R_Sf) (T := F_Sf) (N := 10) hx hb hts (fun w h => List.mem_cons_of_mem _ (in_Sf w h)) hown hK.1 hP 0 rfl rfl 3 (by decide) (hts _ (List.mem_cons_of_mem _ mw_285)) (fun _ h9 => h9) hsf_rivals d_Sf_findRivals_149 ?_
  refine lv_iload_n hx hb d_Sf_findRivals_152 rfl (lv_at hl 1 rfl) ?_
  refine va_iald hx hb hK.1 hP 5 0 rfl rfl (vp_in_iff.mpr (by decide)) d_Sf_findRivals_153 ?_
  refine lv_topi (fun x0 e0 => ?_)
  obtain rfl : x0 = 0 := e0.trans hv_f143_7
  refine lv_if_eq (tgt := 161) hx hb d_Sf_findRivals_154 (by decide) (fun _ => ?_) (fun h => absurd (by decide) h)
  refine lv_iconst (v := 0) hx hb d_Sf_findRivals_161 (by decide) ?_
  refine lv_istore_n hx hb d_Sf_findRivals_162 rfl hl (by decide) rfl (fun ls hl => ?_)
  have hl : lv_has ls 5 [(2, .int 0), (4, .int 0), (3, .int 7), (1, .int 0), (0, .ref oSf)] := hl
  refine lv_iinc (k := 2) (v := 8) hx hb d_Sf_findRivals_163 hl rfl (by first | rfl | decide | exact nI_1 i) (by decide) rfl (fun ls hl => ?_)
  have hl : lv_has ls 5 [(3, .int 8), (2, .int 0), (4, .int 0), (1, .int 0), (0, .ref oSf)] := hl
  refine lv_goto (tgt := 94) hx hb d_Sf_findRivals_166 (by decide) ?_
  refine lv_iload_n hx hb d_Sf_findRivals_94 rfl (lv_at hl 0 rfl) ?_
  refine lv_bipush (v := 14) hx hb d_Sf_findRivals_95 (by decide) ?_
  refine lv_icmp_gt (tgt := 169) hx hb d_Sf_findRivals_97 (by decide) (fun h => absurd h (by decide)) (fun _ => ?_)
  refine lv_iload_n hx hb d_Sf_findRivals_100 rfl (lv_at hl 3 rfl) ?_
  refine lv_aload_n hx hb d_Sf_findRivals_101 rfl (lv_at hl 4 rfl) ?_
  refine va_get (D := (dC, dI)) (ci := 6) (v := .ref oSt) (C := R_Sf) (T := F_Sf) (N := 10) hx hb hts (fun w h => List.mem_cons_of_mem _ (in_Sf w h)) hown hK.1 hP 0 rfl rfl 0 (by decide) (hts _ (List.mem_cons_of_mem _ mw_282)) (fun _ h9 => h9) hsf_stock d_Sf_findRivals_102 ?_
  refine va_get (D := (dC, dI)) (ci := 4) (v := .ref xst_meeting) (C := R_St) (T := F_St) (N := 12) hx hb hts (fun w h => List.mem_cons_of_mem _ (in_St w h)) hown hK.1 hP 1 rfl rfl 9 (by decide) (hts _ (List.mem_cons_of_mem _ mw_177)) (fun _ h9 => h9) hst_meeting d_Sf_findRivals_105 ?_
  refine lv_iload_n hx hb d_Sf_findRivals_108 rfl (lv_at hl 0 rfl) ?_
  refine va_iald hx hb hK.1 hP 4 0 rfl rfl (vp_in_iff.mpr (by decide)) d_Sf_findRivals_109 ?_
  refine lv_iconst (v := (-1)) hx hb d_Sf_findRivals_110 (by decide) ?_
  refine lv_ixor hx hb d_Sf_findRivals_111 ?_
  refine lv_topi (fun x0 e0 => ?_)
  obtain rfl : x0 = (-1) := e0.trans (by decide)
  refine lv_iand hx hb d_Sf_findRivals_112 ?_
  refine lv_topi (fun x0 e0 => ?_)
  obtain rfl : x0 = 0 := e0.trans (by decide)
  refine lv_iconst (v := 1) hx hb d_Sf_findRivals_113 (by decide) ?_
  refine lv_iload_n hx hb d_Sf_findRivals_114 rfl (lv_at hl 0 rfl) ?_
  refine lv_ishl hx hb d_Sf_findRivals_115 ?_
  refine lv_topi (fun x0 e0 => ?_)
  obtain rfl : x0 = 256 := e0.trans (by decide)
  refine lv_iconst (v := (-1)) hx hb d_Sf_findRivals_116 (by decide) ?_
  refine lv_ixor hx hb d_Sf_findRivals_117 ?_
  refine lv_topi (fun x0 e0 => ?_)
  obtain rfl : x0 = (-257) := e0.trans (by decide)
  refine lv_iand hx hb d_Sf_findRivals_118 ?_
  refine lv_topi (fun x0 e0 => ?_)
  obtain rfl : x0 = 0 := e0.trans (by decide)
  refine lv_istore hx hb d_Sf_findRivals_119 hl (by decide) rfl (fun ls hl => ?_)
  have hl : lv_has ls 5 [(4, .int 0), (3, .int 8), (2, .int 0), (1, .int 0), (0, .ref oSf)] := hl
  refine lv_aload_n hx hb d_Sf_findRivals_121 rfl (lv_at hl 4 rfl) ?_
  refine va_get (D := (dC, dI)) (ci := 6) (v := .ref xf_rivals) (C := R_Sf) (T := F_Sf) (N := 10) hx hb hts (fun w h => List.mem_cons_of_mem _ (in_Sf w h)) hown hK.1 hP 0 rfl rfl 3 (by decide) (hts _ (List.mem_cons_of_mem _ mw_285)) (fun _ h9 => h9) hsf_rivals d_Sf_findRivals_122 ?_
  refine lv_iload_n hx hb d_Sf_findRivals_125 rfl (lv_at hl 1 rfl) ?_
  refine lv_aload_n hx hb d_Sf_findRivals_126 rfl (lv_at hl 4 rfl) ?_
  refine va_get (D := (dC, dI)) (ci := 6) (v := .ref xf_sources) (C := R_Sf) (T := F_Sf) (N := 10) hx hb hts (fun w h => List.mem_cons_of_mem _ (in_Sf w h)) hown hK.1 hP 0 rfl rfl 2 (by decide) (hts _ (List.mem_cons_of_mem _ mw_284)) (fun _ h9 => h9) hsf_sources d_Sf_findRivals_127 ?_
  refine lv_iload_n hx hb d_Sf_findRivals_130 rfl (lv_at hl 1 rfl) ?_
  refine va_lald hx hb hK.1 hP 3 3 rfl rfl (vp_in_iff.mpr (by decide)) d_Sf_findRivals_131 ?_
  refine lv_lconst (v := 0) hx hb d_Sf_findRivals_132 (by decide) ?_
  refine W.lcmp hx hb d_Sf_findRivals_133 ?_
  refine lv_topi (fun x0 e0 => ?_)
  obtain rfl : x0 = 0 := e0.trans (by decide)
  refine lv_if_eq (tgt := 142) hx hb d_Sf_findRivals_134 (by decide) (fun _ => ?_) (fun h => absurd (by decide) h)
  refine lv_iconst (v := 0) hx hb d_Sf_findRivals_142 (by decide) ?_
  refine va_iast hx hb hK.1 hP hD hS 5 0 rfl rfl (vp_in_iff.mpr (by decide)) d_Sf_findRivals_143 (fun H locs hP hD hS => ?_)
  have hP : va_P (dC, dI) classes [(oSf, .inr (6, xf)), (oSt, .inr (4, xs_)), (oP1, .inr (3, xp)), (xf_sources, .inl (cJ, 15, .inr (.inl (fun _ => 0)))), (xst_meeting, .inl (cI, 15, .inl (fun _ => 0))), (xf_rivals, .inl (cI, 15, .inl ((upd f143_7 (8 : Int32).toNatClampNeg 0))))] H := hP
  have hD : va_D A [(oSf, .inr (6, xf)), (oSt, .inr (4, xs_)), (oP1, .inr (3, xp)), (xf_sources, .inl (cJ, 15, .inr (.inl (fun _ => 0)))), (xst_meeting, .inl (cI, 15, .inl (fun _ => 0))), (xf_rivals, .inl (cI, 15, .inl ((upd f143_7 (8 : Int32).toNatClampNeg 0))))] := hD
  generalize hg_f143_8 : (upd f143_7 (8 : Int32).toNatClampNeg 0) = f143_8 at hP hD
  have hv_f143_8 : f143_8 (8 : Int32).toNatClampNeg = 0 := by rw [← hg_f143_8]; exact pk_us
  refine lv_iload_n hx hb d_Sf_findRivals_144 rfl (lv_at hl 2 rfl) ?_
  refine lv_if_ne (tgt := 157) hx hb d_Sf_findRivals_145 (by decide) (fun h => absurd rfl h) (fun _ => ?_)
  refine lv_aload_n hx hb d_Sf_findRivals_148 rfl (lv_at hl 4 rfl) ?_
  refine va_get (D := (dC, dI)) (ci := 6) (v := .ref xf_rivals) (C := R_Sf) (T := F_Sf) (N := 10) hx hb hts (fun w h => List.mem_cons_of_mem _ (in_Sf w h)) hown hK.1 hP 0 rfl rfl 3 (by decide) (hts _ (List.mem_cons_of_mem _ mw_285)) (fun _ h9 => h9) hsf_rivals d_Sf_findRivals_149 ?_
  refine lv_iload_n hx hb d_Sf_findRivals_152 rfl (lv_at hl 1 rfl) ?_
  refine va_iald hx hb hK.1 hP 5 0 rfl rfl (vp_in_iff.mpr (by decide)) d_Sf_findRivals_153 ?_
  refine lv_topi (fun x0 e0 => ?_)
  obtain rfl : x0 = 0 := e0.trans hv_f143_8
  refine lv_if_eq (tgt := 161) hx hb d_Sf_findRivals_154 (by decide) (fun _ => ?_) (fun h => absurd (by decide) h)
  refine lv_iconst (v := 0) hx hb d_Sf_findRivals_161 (by decide) ?_
  refine lv_istore_n hx hb d_Sf_findRivals_162 rfl hl (by decide) rfl (fun ls hl => ?_)
  have hl : lv_has ls 5 [(2, .int 0), (4, .int 0), (3, .int 8), (1, .int 0), (0, .ref oSf)] := hl
  refine lv_iinc (k := 2) (v := 9) hx hb d_Sf_findRivals_163 hl rfl (by first | rfl | decide | exact nI_1 i) (by decide) rfl (fun ls hl => ?_)
  have hl : lv_has ls 5 [(3, .int 9), (2, .int 0), (4, .int 0), (1, .int 0), (0, .ref oSf)] := hl
  refine lv_goto (tgt := 94) hx hb d_Sf_findRivals_166 (by decide) ?_
  refine lv_iload_n hx hb d_Sf_findRivals_94 rfl (lv_at hl 0 rfl) ?_
  refine lv_bipush (v := 14) hx hb d_Sf_findRivals_95 (by decide) ?_
  refine lv_icmp_gt (tgt := 169) hx hb d_Sf_findRivals_97 (by decide) (fun h => absurd h (by decide)) (fun _ => ?_)
  refine lv_iload_n hx hb d_Sf_findRivals_100 rfl (lv_at hl 3 rfl) ?_
  refine lv_aload_n hx hb d_Sf_findRivals_101 rfl (lv_at hl 4 rfl) ?_
  refine va_get (D := (dC, dI)) (ci := 6) (v := .ref oSt) (C := R_Sf) (T := F_Sf) (N := 10) hx hb hts (fun w h => List.mem_cons_of_mem _ (in_Sf w h)) hown hK.1 hP 0 rfl rfl 0 (by decide) (hts _ (List.mem_cons_of_mem _ mw_282)) (fun _ h9 => h9) hsf_stock d_Sf_findRivals_102 ?_
  refine va_get (D := (dC, dI)) (ci := 4) (v := .ref xst_meeting) (C := R_St) (T := F_St) (N := 12) hx hb hts (fun w h => List.mem_cons_of_mem _ (in_St w h)) hown hK.1 hP 1 rfl rfl 9 (by decide) (hts _ (List.mem_cons_of_mem _ mw_177)) (fun _ h9 => h9) hst_meeting d_Sf_findRivals_105 ?_
  refine lv_iload_n hx hb d_Sf_findRivals_108 rfl (lv_at hl 0 rfl) ?_
  refine va_iald hx hb hK.1 hP 4 0 rfl rfl (vp_in_iff.mpr (by decide)) d_Sf_findRivals_109 ?_
  refine lv_iconst (v := (-1)) hx hb d_Sf_findRivals_110 (by decide) ?_
  refine lv_ixor hx hb d_Sf_findRivals_111 ?_
  refine lv_topi (fun x0 e0 => ?_)
  obtain rfl : x0 = (-1) := e0.trans (by decide)
  refine lv_iand hx hb d_Sf_findRivals_112 ?_
  refine lv_topi (fun x0 e0 => ?_)
  obtain rfl : x0 = 0 := e0.trans (by decide)
  refine lv_iconst (v := 1) hx hb d_Sf_findRivals_113 (by decide) ?_
  refine lv_iload_n hx hb d_Sf_findRivals_114 rfl (lv_at hl 0 rfl) ?_
  refine lv_ishl hx hb d_Sf_findRivals_115 ?_
  refine lv_topi (fun x0 e0 => ?_)
  obtain rfl : x0 = 512 := e0.trans (by decide)
  refine lv_iconst (v := (-1)) hx hb d_Sf_findRivals_116 (by decide) ?_
  refine lv_ixor hx hb d_Sf_findRivals_117 ?_
  refine lv_topi (fun x0 e0 => ?_)
  obtain rfl : x0 = (-513) := e0.trans (by decide)
  refine lv_iand hx hb d_Sf_findRivals_118 ?_
  refine lv_topi (fun x0 e0 => ?_)
  obtain rfl : x0 = 0 := e0.trans (by decide)
  refine lv_istore hx hb d_Sf_findRivals_119 hl (by decide) rfl (fun ls hl => ?_)
  have hl : lv_has ls 5 [(4, .int 0), (3, .int 9), (2, .int 0), (1, .int 0), (0, .ref oSf)] := hl
  refine lv_aload_n hx hb d_Sf_findRivals_121 rfl (lv_at hl 4 rfl) ?_
  refine va_get (D := (dC, dI)) (ci := 6) (v := .ref xf_rivals) (C := R_Sf) (T := F_Sf) (N := 10) hx hb hts (fun w h => List.mem_cons_of_mem _ (in_Sf w h)) hown hK.1 hP 0 rfl rfl 3 (by decide) (hts _ (List.mem_cons_of_mem _ mw_285)) (fun _ h9 => h9) hsf_rivals d_Sf_findRivals_122 ?_
  refine lv_iload_n hx hb d_Sf_findRivals_125 rfl (lv_at hl 1 rfl) ?_
  refine lv_aload_n hx hb d_Sf_findRivals_126 rfl (lv_at hl 4 rfl) ?_
  refine va_get (D := (dC, dI)) (ci := 6) (v := .ref xf_sources) (C := R_Sf) (T := F_Sf) (N := 10) hx hb hts (fun w h => List.mem_cons_of_mem _ (in_Sf w h)) hown hK.1 hP 0 rfl rfl 2 (by decide) (hts _ (List.mem_cons_of_mem _ mw_284)) (fun _ h9 => h9) hsf_sources d_Sf_findRivals_127 ?_
  refine lv_iload_n hx hb d_Sf_findRivals_130 rfl (lv_at hl 1 rfl) ?_
  refine va_lald hx hb hK.1 hP 3 3 rfl rfl (vp_in_iff.mpr (by decide)) d_Sf_findRivals_131 ?_
  refine lv_lconst (v := 0) hx hb d_Sf_findRivals_132 (by decide) ?_
  refine W.lcmp hx hb d_Sf_findRivals_133 ?_
  refine lv_topi (fun x0 e0 => ?_)
  obtain rfl : x0 = 0 := e0.trans (by decide)
  refine lv_if_eq (tgt := 142) hx hb d_Sf_findRivals_134 (by decide) (fun _ => ?_) (fun h => absurd (by decide) h)
  refine lv_iconst (v := 0) hx hb d_Sf_findRivals_142 (by decide) ?_
  refine va_iast hx hb hK.1 hP hD hS 5 0 rfl rfl (vp_in_iff.mpr (by decide)) d_Sf_findRivals_143 (fun H locs hP hD hS => ?_)
  have hP : va_P (dC, dI) classes [(oSf, .inr (6, xf)), (oSt, .inr (4, xs_)), (oP1, .inr (3, xp)), (xf_sources, .inl (cJ, 15, .inr (.inl (fun _ => 0)))), (xst_meeting, .inl (cI, 15, .inl (fun _ => 0))), (xf_rivals, .inl (cI, 15, .inl ((upd f143_8 (9 : Int32).toNatClampNeg 0))))] H := hP
  have hD : va_D A [(oSf, .inr (6, xf)), (oSt, .inr (4, xs_)), (oP1, .inr (3, xp)), (xf_sources, .inl (cJ, 15, .inr (.inl (fun _ => 0)))), (xst_meeting, .inl (cI, 15, .inl (fun _ => 0))), (xf_rivals, .inl (cI, 15, .inl ((upd f143_8 (9 : Int32).toNatClampNeg 0))))] := hD
  generalize hg_f143_9 : (upd f143_8 (9 : Int32).toNatClampNeg 0) = f143_9 at hP hD
  have hv_f143_9 : f143_9 (9 : Int32).toNatClampNeg = 0 := by rw [← hg_f143_9]; exact pk_us
  refine lv_iload_n hx hb d_Sf_findRivals_144 rfl (lv_at hl 2 rfl) ?_
  refine lv_if_ne (tgt := 157) hx hb d_Sf_findRivals_145 (by decide) (fun h => absurd rfl h) (fun _ => ?_)
  refine lv_aload_n hx hb d_Sf_findRivals_148 rfl (lv_at hl 4 rfl) ?_
  refine va_get (D := (dC, dI)) (ci := 6) (v := .ref xf_rivals) (C := R_Sf) (T := F_Sf) (N := 10) hx hb hts (fun w h => List.mem_cons_of_mem _ (in_Sf w h)) hown hK.1 hP 0 rfl rfl 3 (by decide) (hts _ (List.mem_cons_of_mem _ mw_285)) (fun _ h9 => h9) hsf_rivals d_Sf_findRivals_149 ?_
  refine lv_iload_n hx hb d_Sf_findRivals_152 rfl (lv_at hl 1 rfl) ?_
  refine va_iald hx hb hK.1 hP 5 0 rfl rfl (vp_in_iff.mpr (by decide)) d_Sf_findRivals_153 ?_
  refine lv_topi (fun x0 e0 => ?_)
  obtain rfl : x0 = 0 := e0.trans hv_f143_9
  refine lv_if_eq (tgt := 161) hx hb d_Sf_findRivals_154 (by decide) (fun _ => ?_) (fun h => absurd (by decide) h)
  refine lv_iconst (v := 0) hx hb d_Sf_findRivals_161 (by decide) ?_
  refine lv_istore_n hx hb d_Sf_findRivals_162 rfl hl (by decide) rfl (fun ls hl => ?_)
  have hl : lv_has ls 5 [(2, .int 0), (4, .int 0), (3, .int 9), (1, .int 0), (0, .ref oSf)] := hl
  refine lv_iinc (k := 2) (v := 10) hx hb d_Sf_findRivals_163 hl rfl (by first | rfl | decide | exact nI_1 i) (by decide) rfl (fun ls hl => ?_)
  have hl : lv_has ls 5 [(3, .int 10), (2, .int 0), (4, .int 0), (1, .int 0), (0, .ref oSf)] := hl
  refine lv_goto (tgt := 94) hx hb d_Sf_findRivals_166 (by decide) ?_
  refine lv_iload_n hx hb d_Sf_findRivals_94 rfl (lv_at hl 0 rfl) ?_
  refine lv_bipush (v := 14) hx hb d_Sf_findRivals_95 (by decide) ?_
  refine lv_icmp_gt (tgt := 169) hx hb d_Sf_findRivals_97 (by decide) (fun h => absurd h (by decide)) (fun _ => ?_)
  refine lv_iload_n hx hb d_Sf_findRivals_100 rfl (lv_at hl 3 rfl) ?_
  refine lv_aload_n hx hb d_Sf_findRivals_101 rfl (lv_at hl 4 rfl) ?_
  refine va_get (D := (dC, dI)) (ci := 6) (v := .ref oSt) (C := R_Sf) (T := F_Sf) (N := 10) hx hb hts (fun w h => List.mem_cons_of_mem _ (in_Sf w h)) hown hK.1 hP 0 rfl rfl 0 (by decide) (hts _ (List.mem_cons_of_mem _ mw_282)) (fun _ h9 => h9) hsf_stock d_Sf_findRivals_102 ?_
  refine va_get (D := (dC, dI)) (ci := 4) (v := .ref xst_meeting) (C := R_St) (T := F_St) (N := 12) hx hb hts (fun w h => List.mem_cons_of_mem _ (in_St w h)) hown hK.1 hP 1 rfl rfl 9 (by decide) (hts _ (List.mem_cons_of_mem _ mw_177)) (fun _ h9 => h9) hst_meeting d_Sf_findRivals_105 ?_
  refine lv_iload_n hx hb d_Sf_findRivals_108 rfl (lv_at hl 0 rfl) ?_
  refine va_iald hx hb hK.1 hP 4 0 rfl rfl (vp_in_iff.mpr (by decide)) d_Sf_findRivals_109 ?_
  refine lv_iconst (v := (-1)) hx hb d_Sf_findRivals_110 (by decide) ?_
  refine lv_ixor hx hb d_Sf_findRivals_111 ?_
  refine lv_topi (fun x0 e0 => ?_)
  obtain rfl : x0 = (-1) := e0.trans (by decide)
  refine lv_iand hx hb d_Sf_findRivals_112 ?_
  refine lv_topi (fun x0 e0 => ?_)
  obtain rfl : x0 = 0 := e0.trans (by decide)
  refine lv_iconst (v := 1) hx hb d_Sf_findRivals_113 (by decide) ?_
  refine lv_iload_n hx hb d_Sf_findRivals_114 rfl (lv_at hl 0 rfl) ?_
  refine lv_ishl hx hb d_Sf_findRivals_115 ?_
  refine lv_topi (fun x0 e0 => ?_)
  obtain rfl : x0 = 1024 := e0.trans (by decide)
  refine lv_iconst (v := (-1)) hx hb d_Sf_findRivals_116 (by decide) ?_
  refine lv_ixor hx hb d_Sf_findRivals_117 ?_
  refine lv_topi (fun x0 e0 => ?_)
  obtain rfl : x0 = (-1025) := e0.trans (by decide)
  refine lv_iand hx hb d_Sf_findRivals_118 ?_
  refine lv_topi (fun x0 e0 => ?_)
  obtain rfl : x0 = 0 := e0.trans (by decide)
  refine lv_istore hx hb d_Sf_findRivals_119 hl (by decide) rfl (fun ls hl => ?_)
  have hl : lv_has ls 5 [(4, .int 0), (3, .int 10), (2, .int 0), (1, .int 0), (0, .ref oSf)] := hl
  refine lv_aload_n hx hb d_Sf_findRivals_121 rfl (lv_at hl 4 rfl) ?_
  refine va_get (D := (dC, dI)) (ci := 6) (v := .ref xf_rivals) (C := R_Sf) (T := F_Sf) (N := 10) hx hb hts (fun w h => List.mem_cons_of_mem _ (in_Sf w h)) hown hK.1 hP 0 rfl rfl 3 (by decide) (hts _ (List.mem_cons_of_mem _ mw_285)) (fun _ h9 => h9) hsf_rivals d_Sf_findRivals_122 ?_
  refine lv_iload_n hx hb d_Sf_findRivals_125 rfl (lv_at hl 1 rfl) ?_
  refine lv_aload_n hx hb d_Sf_findRivals_126 rfl (lv_at hl 4 rfl) ?_
  refine va_get (D := (dC, dI)) (ci := 6) (v := .ref xf_sources) (C := R_Sf) (T := F_Sf) (N := 10) hx hb hts (fun w h => List.mem_cons_of_mem _ (in_Sf w h)) hown hK.1 hP 0 rfl rfl 2 (by decide) (hts _ (List.mem_cons_of_mem _ mw_284)) (fun _ h9 => h9) hsf_sources d_Sf_findRivals_127 ?_
  refine lv_iload_n hx hb d_Sf_findRivals_130 rfl (lv_at hl 1 rfl) ?_
  refine va_lald hx hb hK.1 hP 3 3 rfl rfl (vp_in_iff.mpr (by decide)) d_Sf_findRivals_131 ?_
  refine lv_lconst (v := 0) hx hb d_Sf_findRivals_132 (by decide) ?_
  refine W.lcmp hx hb d_Sf_findRivals_133 ?_
  refine lv_topi (fun x0 e0 => ?_)
  obtain rfl : x0 = 0 := e0.trans (by decide)
  refine lv_if_eq (tgt := 142) hx hb d_Sf_findRivals_134 (by decide) (fun _ => ?_) (fun h => absurd (by decide) h)
  refine lv_iconst (v := 0) hx hb d_Sf_findRivals_142 (by decide) ?_
  refine va_iast hx hb hK.1 hP hD hS 5 0 rfl rfl (vp_in_iff.mpr (by decide)) d_Sf_findRivals_143 (fun H locs hP hD hS => ?_)
  have hP : va_P (dC, dI) classes [(oSf, .inr (6, xf)), (oSt, .inr (4, xs_)), (oP1, .inr (3, xp)), (xf_sources, .inl (cJ, 15, .inr (.inl (fun _ => 0)))), (xst_meeting, .inl (cI, 15, .inl (fun _ => 0))), (xf_rivals, .inl (cI, 15, .inl ((upd f143_9 (10 : Int32).toNatClampNeg 0))))] H := hP
  have hD : va_D A [(oSf, .inr (6, xf)), (oSt, .inr (4, xs_)), (oP1, .inr (3, xp)), (xf_sources, .inl (cJ, 15, .inr (.inl (fun _ => 0)))), (xst_meeting, .inl (cI, 15, .inl (fun _ => 0))), (xf_rivals, .inl (cI, 15, .inl ((upd f143_9 (10 : Int32).toNatClampNeg 0))))] := hD
  generalize hg_f143_10 : (upd f143_9 (10 : Int32).toNatClampNeg 0) = f143_10 at hP hD
  have hv_f143_10 : f143_10 (10 : Int32).toNatClampNeg = 0 := by rw [← hg_f143_10]; exact pk_us
  refine lv_iload_n hx hb d_Sf_findRivals_144 rfl (lv_at hl 2 rfl) ?_
  refine lv_if_ne (tgt := 157) hx hb d_Sf_findRivals_145 (by decide) (fun h => absurd rfl h) (fun _ => ?_)
  refine lv_aload_n hx hb d_Sf_findRivals_148 rfl (lv_at hl 4 rfl) ?_
  refine va_get (D := (dC, dI)) (ci := 6) (v := .ref xf_rivals) (C := R_Sf) (T := F_Sf) (N := 10) hx hb hts (fun w h => List.mem_cons_of_mem _ (in_Sf w h)) hown hK.1 hP 0 rfl rfl 3 (by decide) (hts _ (List.mem_cons_of_mem _ mw_285)) (fun _ h9 => h9) hsf_rivals d_Sf_findRivals_149 ?_
  refine lv_iload_n hx hb d_Sf_findRivals_152 rfl (lv_at hl 1 rfl) ?_
  refine va_iald hx hb hK.1 hP 5 0 rfl rfl (vp_in_iff.mpr (by decide)) d_Sf_findRivals_153 ?_
  refine lv_topi (fun x0 e0 => ?_)
  obtain rfl : x0 = 0 := e0.trans hv_f143_10
  refine lv_if_eq (tgt := 161) hx hb d_Sf_findRivals_154 (by decide) (fun _ => ?_) (fun h => absurd (by decide) h)
  refine lv_iconst (v := 0) hx hb d_Sf_findRivals_161 (by decide) ?_
  refine lv_istore_n hx hb d_Sf_findRivals_162 rfl hl (by decide) rfl (fun ls hl => ?_)
  have hl : lv_has ls 5 [(2, .int 0), (4, .int 0), (3, .int 10), (1, .int 0), (0, .ref oSf)] := hl
  refine lv_iinc (k := 2) (v := 11) hx hb d_Sf_findRivals_163 hl rfl (by first | rfl | decide | exact nI_1 i) (by decide) rfl (fun ls hl => ?_)
  have hl : lv_has ls 5 [(3, .int 11), (2, .int 0), (4, .int 0), (1, .int 0), (0, .ref oSf)] := hl
  refine lv_goto (tgt := 94) hx hb d_Sf_findRivals_166 (by decide) ?_
  refine lv_iload_n hx hb d_Sf_findRivals_94 rfl (lv_at hl 0 rfl) ?_
  refine lv_bipush (v := 14) hx hb d_Sf_findRivals_95 (by decide) ?_
  refine lv_icmp_gt (tgt := 169) hx hb d_Sf_findRivals_97 (by decide) (fun h => absurd h (by decide)) (fun _ => ?_)
  refine lv_iload_n hx hb d_Sf_findRivals_100 rfl (lv_at hl 3 rfl) ?_
  refine lv_aload_n hx hb d_Sf_findRivals_101 rfl (lv_at hl 4 rfl) ?_
  refine va_get (D := (dC, dI)) (ci := 6) (v := .ref oSt) (C := R_Sf) (T := F_Sf) (N := 10) hx hb hts (fun w h => List.mem_cons_of_mem _ (in_Sf w h)) hown hK.1 hP 0 rfl rfl 0 (by decide) (hts _ (List.mem_cons_of_mem _ mw_282)) (fun _ h9 => h9) hsf_stock d_Sf_findRivals_102 ?_
  refine va_get (D := (dC, dI)) (ci := 4) (v := .ref xst_meeting) (C := R_St) (T := F_St) (N := 12) hx hb hts (fun w h => List.mem_cons_of_mem _ (in_St w h)) hown hK.1 hP 1 rfl rfl 9 (by decide) (hts _ (List.mem_cons_of_mem _ mw_177)) (fun _ h9 => h9) hst_meeting d_Sf_findRivals_105 ?_
  refine lv_iload_n hx hb d_Sf_findRivals_108 rfl (lv_at hl 0 rfl) ?_
  refine va_iald hx hb hK.1 hP 4 0 rfl rfl (vp_in_iff.mpr (by decide)) d_Sf_findRivals_109 ?_
  refine lv_iconst (v := (-1)) hx hb d_Sf_findRivals_110 (by decide) ?_
  refine lv_ixor hx hb d_Sf_findRivals_111 ?_
  refine lv_topi (fun x0 e0 => ?_)
  obtain rfl : x0 = (-1) := e0.trans (by decide)
  refine lv_iand hx hb d_Sf_findRivals_112 ?_
  refine lv_topi (fun x0 e0 => ?_)
  obtain rfl : x0 = 0 := e0.trans (by decide)
  refine lv_iconst (v := 1) hx hb d_Sf_findRivals_113 (by decide) ?_
  refine lv_iload_n hx hb d_Sf_findRivals_114 rfl (lv_at hl 0 rfl) ?_
  refine lv_ishl hx hb d_Sf_findRivals_115 ?_
  refine lv_topi (fun x0 e0 => ?_)
  obtain rfl : x0 = 2048 := e0.trans (by decide)
  refine lv_iconst (v := (-1)) hx hb d_Sf_findRivals_116 (by decide) ?_
  refine lv_ixor hx hb d_Sf_findRivals_117 ?_
  refine lv_topi (fun x0 e0 => ?_)
  obtain rfl : x0 = (-2049) := e0.trans (by decide)
  refine lv_iand hx hb d_Sf_findRivals_118 ?_
  refine lv_topi (fun x0 e0 => ?_)
  obtain rfl : x0 = 0 := e0.trans (by decide)
  refine lv_istore hx hb d_Sf_findRivals_119 hl (by decide) rfl (fun ls hl => ?_)
  have hl : lv_has ls 5 [(4, .int 0), (3, .int 11), (2, .int 0), (1, .int 0), (0, .ref oSf)] := hl
  refine lv_aload_n hx hb d_Sf_findRivals_121 rfl (lv_at hl 4 rfl) ?_
  refine va_get (D := (dC, dI)) (ci := 6) (v := .ref xf_rivals) (C := R_Sf) (T := F_Sf) (N := 10) hx hb hts (fun w h => List.mem_cons_of_mem _ (in_Sf w h)) hown hK.1 hP 0 rfl rfl 3 (by decide) (hts _ (List.mem_cons_of_mem _ mw_285)) (fun _ h9 => h9) hsf_rivals d_Sf_findRivals_122 ?_
  refine lv_iload_n hx hb d_Sf_findRivals_125 rfl (lv_at hl 1 rfl) ?_
  refine lv_aload_n hx hb d_Sf_findRivals_126 rfl (lv_at hl 4 rfl) ?_
  refine va_get (D := (dC, dI)) (ci := 6) (v := .ref xf_sources) (C := R_Sf) (T := F_Sf) (N := 10) hx hb hts (fun w h => List.mem_cons_of_mem _ (in_Sf w h)) hown hK.1 hP 0 rfl rfl 2 (by decide) (hts _ (List.mem_cons_of_mem _ mw_284)) (fun _ h9 => h9) hsf_sources d_Sf_findRivals_127 ?_
  refine lv_iload_n hx hb d_Sf_findRivals_130 rfl (lv_at hl 1 rfl) ?_
  refine va_lald hx hb hK.1 hP 3 3 rfl rfl (vp_in_iff.mpr (by decide)) d_Sf_findRivals_131 ?_
  refine lv_lconst (v := 0) hx hb d_Sf_findRivals_132 (by decide) ?_
  refine W.lcmp hx hb d_Sf_findRivals_133 ?_
  refine lv_topi (fun x0 e0 => ?_)
  obtain rfl : x0 = 0 := e0.trans (by decide)
  refine lv_if_eq (tgt := 142) hx hb d_Sf_findRivals_134 (by decide) (fun _ => ?_) (fun h => absurd (by decide) h)
  refine lv_iconst (v := 0) hx hb d_Sf_findRivals_142 (by decide) ?_
  refine va_iast hx hb hK.1 hP hD hS 5 0 rfl rfl (vp_in_iff.mpr (by decide)) d_Sf_findRivals_143 (fun H locs hP hD hS => ?_)
  have hP : va_P (dC, dI) classes [(oSf, .inr (6, xf)), (oSt, .inr (4, xs_)), (oP1, .inr (3, xp)), (xf_sources, .inl (cJ, 15, .inr (.inl (fun _ => 0)))), (xst_meeting, .inl (cI, 15, .inl (fun _ => 0))), (xf_rivals, .inl (cI, 15, .inl ((upd f143_10 (11 : Int32).toNatClampNeg 0))))] H := hP
  have hD : va_D A [(oSf, .inr (6, xf)), (oSt, .inr (4, xs_)), (oP1, .inr (3, xp)), (xf_sources, .inl (cJ, 15, .inr (.inl (fun _ => 0)))), (xst_meeting, .inl (cI, 15, .inl (fun _ => 0))), (xf_rivals, .inl (cI, 15, .inl ((upd f143_10 (11 : Int32).toNatClampNeg 0))))] := hD
  generalize hg_f143_11 : (upd f143_10 (11 : Int32).toNatClampNeg 0) = f143_11 at hP hD
  have hv_f143_11 : f143_11 (11 : Int32).toNatClampNeg = 0 := by rw [← hg_f143_11]; exact pk_us
  refine lv_iload_n hx hb d_Sf_findRivals_144 rfl (lv_at hl 2 rfl) ?_
  refine lv_if_ne (tgt := 157) hx hb d_Sf_findRivals_145 (by decide) (fun h => absurd rfl h) (fun _ => ?_)
  refine lv_aload_n hx hb d_Sf_findRivals_148 rfl (lv_at hl 4 rfl) ?_
  refine va_get (D := (dC, dI)) (ci := 6) (v := .ref xf_rivals) (C := R_Sf) (T := F_Sf) (N := 10) hx hb hts (fun w h => List.mem_cons_of_mem _ (in_Sf w h)) hown hK.1 hP 0 rfl rfl 3 (by decide) (hts _ (List.mem_cons_of_mem _ mw_285)) (fun _ h9 => h9) hsf_rivals d_Sf_findRivals_149 ?_
  refine lv_iload_n hx hb d_Sf_findRivals_152 rfl (lv_at hl 1 rfl) ?_
  refine va_iald hx hb hK.1 hP 5 0 rfl rfl (vp_in_iff.mpr (by decide)) d_Sf_findRivals_153 ?_
  refine lv_topi (fun x0 e0 => ?_)
  obtain rfl : x0 = 0 := e0.trans hv_f143_11
  refine lv_if_eq (tgt := 161) hx hb d_Sf_findRivals_154 (by decide) (fun _ => ?_) (fun h => absurd (by decide) h)
  refine lv_iconst (v := 0) hx hb d_Sf_findRivals_161 (by decide) ?_
  refine lv_istore_n hx hb d_Sf_findRivals_162 rfl hl (by decide) rfl (fun ls hl => ?_)
  have hl : lv_has ls 5 [(2, .int 0), (4, .int 0), (3, .int 11), (1, .int 0), (0, .ref oSf)] := hl
  refine lv_iinc (k := 2) (v := 12) hx hb d_Sf_findRivals_163 hl rfl (by first | rfl | decide | exact nI_1 i) (by decide) rfl (fun ls hl => ?_)
  have hl : lv_has ls 5 [(3, .int 12), (2, .int 0), (4, .int 0), (1, .int 0), (0, .ref oSf)] := hl
  refine lv_goto (tgt := 94) hx hb d_Sf_findRivals_166 (by decide) ?_
  refine lv_iload_n hx hb d_Sf_findRivals_94 rfl (lv_at hl 0 rfl) ?_
  refine lv_bipush (v := 14) hx hb d_Sf_findRivals_95 (by decide) ?_
  refine lv_icmp_gt (tgt := 169) hx hb d_Sf_findRivals_97 (by decide) (fun h => absurd h (by decide)) (fun _ => ?_)
  refine lv_iload_n hx hb d_Sf_findRivals_100 rfl (lv_at hl 3 rfl) ?_
  refine lv_aload_n hx hb d_Sf_findRivals_101 rfl (lv_at hl 4 rfl) ?_
  refine va_get (D := (dC, dI)) (ci := 6) (v := .ref oSt) (C := R_Sf) (T := F_Sf) (N := 10) hx hb hts (fun w h => List.mem_cons_of_mem _ (in_Sf w h)) hown hK.1 hP 0 rfl rfl 0 (by decide) (hts _ (List.mem_cons_of_mem _ mw_282)) (fun _ h9 => h9) hsf_stock d_Sf_findRivals_102 ?_
  refine va_get (D := (dC, dI)) (ci := 4) (v := .ref xst_meeting) (C := R_St) (T := F_St) (N := 12) hx hb hts (fun w h => List.mem_cons_of_mem _ (in_St w h)) hown hK.1 hP 1 rfl rfl 9 (by decide) (hts _ (List.mem_cons_of_mem _ mw_177)) (fun _ h9 => h9) hst_meeting d_Sf_findRivals_105 ?_
  refine lv_iload_n hx hb d_Sf_findRivals_108 rfl (lv_at hl 0 rfl) ?_
  refine va_iald hx hb hK.1 hP 4 0 rfl rfl (vp_in_iff.mpr (by decide)) d_Sf_findRivals_109 ?_
  refine lv_iconst (v := (-1)) hx hb d_Sf_findRivals_110 (by decide) ?_
  refine lv_ixor hx hb d_Sf_findRivals_111 ?_
  refine lv_topi (fun x0 e0 => ?_)
  obtain rfl : x0 = (-1) := e0.trans (by decide)
  refine lv_iand hx hb d_Sf_findRivals_112 ?_
  refine lv_topi (fun x0 e0 => ?_)
  obtain rfl : x0 = 0 := e0.trans (by decide)
  refine lv_iconst (v := 1) hx hb d_Sf_findRivals_113 (by decide) ?_
  refine lv_iload_n hx hb d_Sf_findRivals_114 rfl (lv_at hl 0 rfl) ?_
  refine lv_ishl hx hb d_Sf_findRivals_115 ?_
  refine lv_topi (fun x0 e0 => ?_)
  obtain rfl : x0 = 4096 := e0.trans (by decide)
  refine lv_iconst (v := (-1)) hx hb d_Sf_findRivals_116 (by decide) ?_
  refine lv_ixor hx hb d_Sf_findRivals_117 ?_
  refine lv_topi (fun x0 e0 => ?_)
  obtain rfl : x0 = (-4097) := e0.trans (by decide)
  refine lv_iand hx hb d_Sf_findRivals_118 ?_
  refine lv_topi (fun x0 e0 => ?_)
  obtain rfl : x0 = 0 := e0.trans (by decide)
  refine lv_istore hx hb d_Sf_findRivals_119 hl (by decide) rfl (fun ls hl => ?_)
  have hl : lv_has ls 5 [(4, .int 0), (3, .int 12), (2, .int 0), (1, .int 0), (0, .ref oSf)] := hl
  refine lv_aload_n hx hb d_Sf_findRivals_121 rfl (lv_at hl 4 rfl) ?_
  refine va_get (D := (dC, dI)) (ci := 6) (v := .ref xf_rivals) (C := R_Sf) (T := F_Sf) (N := 10) hx hb hts (fun w h => List.mem_cons_of_mem _ (in_Sf w h)) hown hK.1 hP 0 rfl rfl 3 (by decide) (hts _ (List.mem_cons_of_mem _ mw_285)) (fun _ h9 => h9) hsf_rivals d_Sf_findRivals_122 ?_
  refine lv_iload_n hx hb d_Sf_findRivals_125 rfl (lv_at hl 1 rfl) ?_
  refine lv_aload_n hx hb d_Sf_findRivals_126 rfl (lv_at hl 4 rfl) ?_
  refine va_get (D := (dC, dI)) (ci := 6) (v := .ref xf_sources) (C := R_Sf) (T := F_Sf) (N := 10) hx hb hts (fun w h => List.mem_cons_of_mem _ (in_Sf w h)) hown hK.1 hP 0 rfl rfl 2 (by decide) (hts _ (List.mem_cons_of_mem _ mw_284)) (fun _ h9 => h9) hsf_sources d_Sf_findRivals_127 ?_
  refine lv_iload_n hx hb d_Sf_findRivals_130 rfl (lv_at hl 1 rfl) ?_
  refine va_lald hx hb hK.1 hP 3 3 rfl rfl (vp_in_iff.mpr (by decide)) d_Sf_findRivals_131 ?_
  refine lv_lconst (v := 0) hx hb d_Sf_findRivals_132 (by decide) ?_
  refine W.lcmp hx hb d_Sf_findRivals_133 ?_
  refine lv_topi (fun x0 e0 => ?_)
  obtain rfl : x0 = 0 := e0.trans (by decide)
  refine lv_if_eq (tgt := 142) hx hb d_Sf_findRivals_134 (by decide) (fun _ => ?_) (fun h => absurd (by decide) h)
  refine lv_iconst (v := 0) hx hb d_Sf_findRivals_142 (by decide) ?_
  refine va_iast hx hb hK.1 hP hD hS 5 0 rfl rfl (vp_in_iff.mpr (by decide)) d_Sf_findRivals_143 (fun H locs hP hD hS => ?_)
  have hP : va_P (dC, dI) classes [(oSf, .inr (6, xf)), (oSt, .inr (4, xs_)), (oP1, .inr (3, xp)), (xf_sources, .inl (cJ, 15, .inr (.inl (fun _ => 0)))), (xst_meeting, .inl (cI, 15, .inl (fun _ => 0))), (xf_rivals, .inl (cI, 15, .inl ((upd f143_11 (12 : Int32).toNatClampNeg 0))))] H := hP
  have hD : va_D A [(oSf, .inr (6, xf)), (oSt, .inr (4, xs_)), (oP1, .inr (3, xp)), (xf_sources, .inl (cJ, 15, .inr (.inl (fun _ => 0)))), (xst_meeting, .inl (cI, 15, .inl (fun _ => 0))), (xf_rivals, .inl (cI, 15, .inl ((upd f143_11 (12 : Int32).toNatClampNeg 0))))] := hD
  generalize hg_f143_12 : (upd f143_11 (12 : Int32).toNatClampNeg 0) = f143_12 at hP hD
  have hv_f143_12 : f143_12 (12 : Int32).toNatClampNeg = 0 := by rw [← hg_f143_12]; exact pk_us
  refine lv_iload_n hx hb d_Sf_findRivals_144 rfl (lv_at hl 2 rfl) ?_
  refine lv_if_ne (tgt := 157) hx hb d_Sf_findRivals_145 (by decide) (fun h => absurd rfl h) (fun _ => ?_)
  refine lv_aload_n hx hb d_Sf_findRivals_148 rfl (lv_at hl 4 rfl) ?_
  refine va_get (D := (dC, dI)) (ci := 6) (v := .ref xf_rivals) (C := R_Sf) (T := F_Sf) (N := 10) hx hb hts (fun w h => List.mem_cons_of_mem _ (in_Sf w h)) hown hK.1 hP 0 rfl rfl 3 (by decide) (hts _ (List.mem_cons_of_mem _ mw_285)) (fun _ h9 => h9) hsf_rivals d_Sf_findRivals_149 ?_
  refine lv_iload_n hx hb d_Sf_findRivals_152 rfl (lv_at hl 1 rfl) ?_
  refine va_iald hx hb hK.1 hP 5 0 rfl rfl (vp_in_iff.mpr (by decide)) d_Sf_findRivals_153 ?_
  refine lv_topi (fun x0 e0 => ?_)
  obtain rfl : x0 = 0 := e0.trans hv_f143_12
  refine lv_if_eq (tgt := 161) hx hb d_Sf_findRivals_154 (by decide) (fun _ => ?_) (fun h => absurd (by decide) h)
  refine lv_iconst (v := 0) hx hb d_Sf_findRivals_161 (by decide) ?_
  refine lv_istore_n hx hb d_Sf_findRivals_162 rfl hl (by decide) rfl (fun ls hl => ?_)
  have hl : lv_has ls 5 [(2, .int 0), (4, .int 0), (3, .int 12), (1, .int 0), (0, .ref oSf)] := hl
  refine lv_iinc (k := 2) (v := 13) hx hb d_Sf_findRivals_163 hl rfl (by first | rfl | decide | exact nI_1 i) (by decide) rfl (fun ls hl => ?_)
  have hl : lv_has ls 5 [(3, .int 13), (2, .int 0), (4, .int 0), (1, .int 0), (0, .ref oSf)] := hl
  refine lv_goto (tgt := 94) hx hb d_Sf_findRivals_166 (by decide) ?_
  refine lv_iload_n hx hb d_Sf_findRivals_94 rfl (lv_at hl 0 rfl) ?_
  refine lv_bipush (v := 14) hx hb d_Sf_findRivals_95 (by decide) ?_
  refine lv_icmp_gt (tgt := 169) hx hb d_Sf_findRivals_97 (by decide) (fun h => absurd h (by decide)) (fun _ => ?_)
  refine lv_iload_n hx hb d_Sf_findRivals_100 rfl (lv_at hl 3 rfl) ?_
  refine lv_aload_n hx hb d_Sf_findRivals_101 rfl (lv_at hl 4 rfl) ?_
  refine va_get (D := (dC, dI)) (ci := 6) (v := .ref oSt) (C := R_Sf) (T := F_Sf) (N := 10) hx hb hts (fun w h => List.mem_cons_of_mem _ (in_Sf w h)) hown hK.1 hP 0 rfl rfl 0 (by decide) (hts _ (List.mem_cons_of_mem _ mw_282)) (fun _ h9 => h9) hsf_stock d_Sf_findRivals_102 ?_
  refine va_get (D := (dC, dI)) (ci := 4) (v := .ref xst_meeting) (C := R_St) (T := F_St) (N := 12) hx hb hts (fun w h => List.mem_cons_of_mem _ (in_St w h)) hown hK.1 hP 1 rfl rfl 9 (by decide) (hts _ (List.mem_cons_of_mem _ mw_177)) (fun _ h9 => h9) hst_meeting d_Sf_findRivals_105 ?_
  refine lv_iload_n hx hb d_Sf_findRivals_108 rfl (lv_at hl 0 rfl) ?_
  refine va_iald hx hb hK.1 hP 4 0 rfl rfl (vp_in_iff.mpr (by decide)) d_Sf_findRivals_109 ?_
  refine lv_iconst (v := (-1)) hx hb d_Sf_findRivals_110 (by decide) ?_
  refine lv_ixor hx hb d_Sf_findRivals_111 ?_
  refine lv_topi (fun x0 e0 => ?_)
  obtain rfl : x0 = (-1) := e0.trans (by decide)
  refine lv_iand hx hb d_Sf_findRivals_112 ?_
  refine lv_topi (fun x0 e0 => ?_)
  obtain rfl : x0 = 0 := e0.trans (by decide)
  refine lv_iconst (v := 1) hx hb d_Sf_findRivals_113 (by decide) ?_
  refine lv_iload_n hx hb d_Sf_findRivals_114 rfl (lv_at hl 0 rfl) ?_
  refine lv_ishl hx hb d_Sf_findRivals_115 ?_
  refine lv_topi (fun x0 e0 => ?_)
  obtain rfl : x0 = 8192 := e0.trans (by decide)
  refine lv_iconst (v := (-1)) hx hb d_Sf_findRivals_116 (by decide) ?_
  refine lv_ixor hx hb d_Sf_findRivals_117 ?_
  refine lv_topi (fun x0 e0 => ?_)
  obtain rfl : x0 = (-8193) := e0.trans (by decide)
  refine lv_iand hx hb d_Sf_findRivals_118 ?_
  refine lv_topi (fun x0 e0 => ?_)
  obtain rfl : x0 = 0 := e0.trans (by decide)
  refine lv_istore hx hb d_Sf_findRivals_119 hl (by decide) rfl (fun ls hl => ?_)
  have hl : lv_has ls 5 [(4, .int 0), (3, .int 13), (2, .int 0), (1, .int 0), (0, .ref oSf)] := hl
  refine lv_aload_n hx hb d_Sf_findRivals_121 rfl (lv_at hl 4 rfl) ?_
  refine va_get (D := (dC, dI)) (ci := 6) (v := .ref xf_rivals) (C := R_Sf) (T := F_Sf) (N := 10) hx hb hts (fun w h => List.mem_cons_of_mem _ (in_Sf w h)) hown hK.1 hP 0 rfl rfl 3 (by decide) (hts _ (List.mem_cons_of_mem _ mw_285)) (fun _ h9 => h9) hsf_rivals d_Sf_findRivals_122 ?_
  refine lv_iload_n hx hb d_Sf_findRivals_125 rfl (lv_at hl 1 rfl) ?_
  refine lv_aload_n hx hb d_Sf_findRivals_126 rfl (lv_at hl 4 rfl) ?_
  refine va_get (D := (dC, dI)) (ci := 6) (v := .ref xf_sources) (C := R_Sf) (T := F_Sf) (N := 10) hx hb hts (fun w h => List.mem_cons_of_mem _ (in_Sf w h)) hown hK.1 hP 0 rfl rfl 2 (by decide) (hts _ (List.mem_cons_of_mem _ mw_284)) (fun _ h9 => h9) hsf_sources d_Sf_findRivals_127 ?_
  refine lv_iload_n hx hb d_Sf_findRivals_130 rfl (lv_at hl 1 rfl) ?_
  refine va_lald hx hb hK.1 hP 3 3 rfl rfl (vp_in_iff.mpr (by decide)) d_Sf_findRivals_131 ?_
  refine lv_lconst (v := 0) hx hb d_Sf_findRivals_132 (by decide) ?_
  refine W.lcmp hx hb d_Sf_findRivals_133 ?_
  refine lv_topi (fun x0 e0 => ?_)
  obtain rfl : x0 = 0 := e0.trans (by decide)
  refine lv_if_eq (tgt := 142) hx hb d_Sf_findRivals_134 (by decide) (fun _ => ?_) (fun h => absurd (by decide) h)
  refine lv_iconst (v := 0) hx hb d_Sf_findRivals_142 (by decide) ?_
  refine va_iast hx hb hK.1 hP hD hS 5 0 rfl rfl (vp_in_iff.mpr (by decide)) d_Sf_findRivals_143 (fun H locs hP hD hS => ?_)
  have hP : va_P (dC, dI) classes [(oSf, .inr (6, xf)), (oSt, .inr (4, xs_)), (oP1, .inr (3, xp)), (xf_sources, .inl (cJ, 15, .inr (.inl (fun _ => 0)))), (xst_meeting, .inl (cI, 15, .inl (fun _ => 0))), (xf_rivals, .inl (cI, 15, .inl ((upd f143_12 (13 : Int32).toNatClampNeg 0))))] H := hP
  have hD : va_D A [(oSf, .inr (6, xf)), (oSt, .inr (4, xs_)), (oP1, .inr (3, xp)), (xf_sources, .inl (cJ, 15, .inr (.inl (fun _ => 0)))), (xst_meeting, .inl (cI, 15, .inl (fun _ => 0))), (xf_rivals, .inl (cI, 15, .inl ((upd f143_12 (13 : Int32).toNatClampNeg 0))))] := hD
  generalize hg_f143_13 : (upd f143_12 (13 : Int32).toNatClampNeg 0) = f143_13 at hP hD
  have hv_f143_13 : f143_13 (13 : Int32).toNatClampNeg = 0 := by rw [← hg_f143_13]; exact pk_us
  refine lv_iload_n hx hb d_Sf_findRivals_144 rfl (lv_at hl 2 rfl) ?_
  refine lv_if_ne (tgt := 157) hx hb d_Sf_findRivals_145 (by decide) (fun h => absurd rfl h) (fun _ => ?_)
  refine lv_aload_n hx hb d_Sf_findRivals_148 rfl (lv_at hl 4 rfl) ?_
  refine va_get (D := (dC, dI)) (ci := 6) (v := .ref xf_rivals) (C := R_Sf) (T := F_Sf) (N := 10) hx hb hts (fun w h => List.mem_cons_of_mem _ (in_Sf w h)) hown hK.1 hP 0 rfl rfl 3 (by decide) (hts _ (List.mem_cons_of_mem _ mw_285)) (fun _ h9 => h9) hsf_rivals d_Sf_findRivals_149 ?_
  refine lv_iload_n hx hb d_Sf_findRivals_152 rfl (lv_at hl 1 rfl) ?_
  refine va_iald hx hb hK.1 hP 5 0 rfl rfl (vp_in_iff.mpr (by decide)) d_Sf_findRivals_153 ?_
  refine lv_topi (fun x0 e0 => ?_)
  obtain rfl : x0 = 0 := e0.trans hv_f143_13
  refine lv_if_eq (tgt := 161) hx hb d_Sf_findRivals_154 (by decide) (fun _ => ?_) (fun h => absurd (by decide) h)
  refine lv_iconst (v := 0) hx hb d_Sf_findRivals_161 (by decide) ?_
  refine lv_istore_n hx hb d_Sf_findRivals_162 rfl hl (by decide) rfl (fun ls hl => ?_)
  have hl : lv_has ls 5 [(2, .int 0), (4, .int 0), (3, .int 13), (1, .int 0), (0, .ref oSf)] := hl
  refine lv_iinc (k := 2) (v := 14) hx hb d_Sf_findRivals_163 hl rfl (by first | rfl | decide | exact nI_1 i) (by decide) rfl (fun ls hl => ?_)
  have hl : lv_has ls 5 [(3, .int 14), (2, .int 0), (4, .int 0), (1, .int 0), (0, .ref oSf)] := hl
  refine lv_goto (tgt := 94) hx hb d_Sf_findRivals_166 (by decide) ?_
  refine lv_iload_n hx hb d_Sf_findRivals_94 rfl (lv_at hl 0 rfl) ?_
  refine lv_bipush (v := 14) hx hb d_Sf_findRivals_95 (by decide) ?_
  refine lv_icmp_gt (tgt := 169) hx hb d_Sf_findRivals_97 (by decide) (fun h => absurd h (by decide)) (fun _ => ?_)
  refine lv_iload_n hx hb d_Sf_findRivals_100 rfl (lv_at hl 3 rfl) ?_
  refine lv_aload_n hx hb d_Sf_findRivals_101 rfl (lv_at hl 4 rfl) ?_
  refine va_get (D := (dC, dI)) (ci := 6) (v := .ref oSt) (C := R_Sf) (T := F_Sf) (N := 10) hx hb hts (fun w h => List.mem_cons_of_mem _ (in_Sf w h)) hown hK.1 hP 0 rfl rfl 0 (by decide) (hts _ (List.mem_cons_of_mem _ mw_282)) (fun _ h9 => h9) hsf_stock d_Sf_findRivals_102 ?_
  refine va_get (D := (dC, dI)) (ci := 4) (v := .ref xst_meeting) (C := R_St) (T := F_St) (N := 12) hx hb hts (fun w h => List.mem_cons_of_mem _ (in_St w h)) hown hK.1 hP 1 rfl rfl 9 (by decide) (hts _ (List.mem_cons_of_mem _ mw_177)) (fun _ h9 => h9) hst_meeting d_Sf_findRivals_105 ?_
  refine lv_iload_n hx hb d_Sf_findRivals_108 rfl (lv_at hl 0 rfl) ?_
  refine va_iald hx hb hK.1 hP 4 0 rfl rfl (vp_in_iff.mpr (by decide)) d_Sf_findRivals_109 ?_
  refine lv_iconst (v := (-1)) hx hb d_Sf_findRivals_110 (by decide) ?_
  refine lv_ixor hx hb d_Sf_findRivals_111 ?_
  refine lv_topi (fun x0 e0 => ?_)
  obtain rfl : x0 = (-1) := e0.trans (by decide)
  refine lv_iand hx hb d_Sf_findRivals_112 ?_
  refine lv_topi (fun x0 e0 => ?_)
  obtain rfl : x0 = 0 := e0.trans (by decide)
  refine lv_iconst (v := 1) hx hb d_Sf_findRivals_113 (by decide) ?_
  refine lv_iload_n hx hb d_Sf_findRivals_114 rfl (lv_at hl 0 rfl) ?_
  refine lv_ishl hx hb d_Sf_findRivals_115 ?_
  refine lv_topi (fun x0 e0 => ?_)
  obtain rfl : x0 = 16384 := e0.trans (by decide)
  refine lv_iconst (v := (-1)) hx hb d_Sf_findRivals_116 (by decide) ?_
  refine lv_ixor hx hb d_Sf_findRivals_117 ?_
  refine lv_topi (fun x0 e0 => ?_)
  obtain rfl : x0 = (-16385) := e0.trans (by decide)
  refine lv_iand hx hb d_Sf_findRivals_118 ?_
  refine lv_topi (fun x0 e0 => ?_)
  obtain rfl : x0 = 0 := e0.trans (by decide)
  refine lv_istore hx hb d_Sf_findRivals_119 hl (by decide) rfl (fun ls hl => ?_)
  have hl : lv_has ls 5 [(4, .int 0), (3, .int 14), (2, .int 0), (1, .int 0), (0, .ref oSf)] := hl
  refine lv_aload_n hx hb d_Sf_findRivals_121 rfl (lv_at hl 4 rfl) ?_
  refine va_get (D := (dC, dI)) (ci := 6) (v := .ref xf_rivals) (C := R_Sf) (T := F_Sf) (N := 10) hx hb hts (fun w h => List.mem_cons_of_mem _ (in_Sf w h)) hown hK.1 hP 0 rfl rfl 3 (by decide) (hts _ (List.mem_cons_of_mem _ mw_285)) (fun _ h9 => h9) hsf_rivals d_Sf_findRivals_122 ?_
  refine lv_iload_n hx hb d_Sf_findRivals_125 rfl (lv_at hl 1 rfl) ?_
  refine lv_aload_n hx hb d_Sf_findRivals_126 rfl (lv_at hl 4 rfl) ?_
  refine va_get (D := (dC, dI)) (ci := 6) (v := .ref xf_sources) (C := R_Sf) (T := F_Sf) (N := 10) hx hb hts (fun w h => List.mem_cons_of_mem _ (in_Sf w h)) hown hK.1 hP 0 rfl rfl 2 (by decide) (hts _ (List.mem_cons_of_mem _ mw_284)) (fun _ h9 => h9) hsf_sources d_Sf_findRivals_127 ?_
  refine lv_iload_n hx hb d_Sf_findRivals_130 rfl (lv_at hl 1 rfl) ?_
  refine va_lald hx hb hK.1 hP 3 3 rfl rfl (vp_in_iff.mpr (by decide)) d_Sf_findRivals_131 ?_
  refine lv_lconst (v := 0) hx hb d_Sf_findRivals_132 (by decide) ?_
  refine W.lcmp hx hb d_Sf_findRivals_133 ?_
  refine lv_topi (fun x0 e0 => ?_)
  obtain rfl : x0 = 0 := e0.trans (by decide)
  refine lv_if_eq (tgt := 142) hx hb d_Sf_findRivals_134 (by decide) (fun _ => ?_) (fun h => absurd (by decide) h)
  refine lv_iconst (v := 0) hx hb d_Sf_findRivals_142 (by decide) ?_
  refine va_iast hx hb hK.1 hP hD hS 5 0 rfl rfl (vp_in_iff.mpr (by decide)) d_Sf_findRivals_143 (fun H locs hP hD hS => ?_)
  have hP : va_P (dC, dI) classes [(oSf, .inr (6, xf)), (oSt, .inr (4, xs_)), (oP1, .inr (3, xp)), (xf_sources, .inl (cJ, 15, .inr (.inl (fun _ => 0)))), (xst_meeting, .inl (cI, 15, .inl (fun _ => 0))), (xf_rivals, .inl (cI, 15, .inl ((upd f143_13 (14 : Int32).toNatClampNeg 0))))] H := hP
  have hD : va_D A [(oSf, .inr (6, xf)), (oSt, .inr (4, xs_)), (oP1, .inr (3, xp)), (xf_sources, .inl (cJ, 15, .inr (.inl (fun _ => 0)))), (xst_meeting, .inl (cI, 15, .inl (fun _ => 0))), (xf_rivals, .inl (cI, 15, .inl ((upd f143_13 (14 : Int32).toNatClampNeg 0))))] := hD
  generalize hg_f143_14 : (upd f143_13 (14 : Int32).toNatClampNeg 0) = f143_14 at hP hD
  have hv_f143_14 : f143_14 (14 : Int32).toNatClampNeg = 0 := by rw [← hg_f143_14]; exact pk_us
  refine lv_iload_n hx hb d_Sf_findRivals_144 rfl (lv_at hl 2 rfl) ?_
  refine lv_if_ne (tgt := 157) hx hb d_Sf_findRivals_145 (by decide) (fun h => absurd rfl h) (fun _ => ?_)
  refine lv_aload_n hx hb d_Sf_findRivals_148 rfl (lv_at hl 4 rfl) ?_
  refine va_get (D := (dC, dI)) (ci := 6) (v := .ref xf_rivals) (C := R_Sf) (T := F_Sf) (N := 10) hx hb hts (fun w h => List.mem_cons_of_mem _ (in_Sf w h)) hown hK.1 hP 0 rfl rfl 3 (by decide) (hts _ (List.mem_cons_of_mem _ mw_285)) (fun _ h9 => h9) hsf_rivals d_Sf_findRivals_149 ?_
  refine lv_iload_n hx hb d_Sf_findRivals_152 rfl (lv_at hl 1 rfl) ?_
  refine va_iald hx hb hK.1 hP 5 0 rfl rfl (vp_in_iff.mpr (by decide)) d_Sf_findRivals_153 ?_
  refine lv_topi (fun x0 e0 => ?_)
  obtain rfl : x0 = 0 := e0.trans hv_f143_14
  refine lv_if_eq (tgt := 161) hx hb d_Sf_findRivals_154 (by decide) (fun _ => ?_) (fun h => absurd (by decide) h)
  refine lv_iconst (v := 0) hx hb d_Sf_findRivals_161 (by decide) ?_
  refine lv_istore_n hx hb d_Sf_findRivals_162 rfl hl (by decide) rfl (fun ls hl => ?_)
  have hl : lv_has ls 5 [(2, .int 0), (4, .int 0), (3, .int 14), (1, .int 0), (0, .ref oSf)] := hl
  refine lv_iinc (k := 2) (v := 15) hx hb d_Sf_findRivals_163 hl rfl (by first | rfl | decide | exact nI_1 i) (by decide) rfl (fun ls hl => ?_)
  have hl : lv_has ls 5 [(3, .int 15), (2, .int 0), (4, .int 0), (1, .int 0), (0, .ref oSf)] := hl
  refine lv_goto (tgt := 94) hx hb d_Sf_findRivals_166 (by decide) ?_
  refine lv_iload_n hx hb d_Sf_findRivals_94 rfl (lv_at hl 0 rfl) ?_
  refine lv_bipush (v := 14) hx hb d_Sf_findRivals_95 (by decide) ?_
  refine lv_icmp_gt (tgt := 169) hx hb d_Sf_findRivals_97 (by decide) (fun _ => ?_) (fun h => absurd (by decide) h)
  refine lv_iload_n hx hb d_Sf_findRivals_169 rfl (lv_at hl 1 rfl) ?_
  exact W.zret (v := 0) (ty := .boolean) hx hb hr (by decide) (fun t ht hW => ⟨⟨_, (), rfl, (rfl), ⟨f143_14, hsf_stock, hsf_sources, hsf_rivals, hst_plant, hst_meeting, hxp_things, hxp_pipes, by rw [ht]; exact hP, hD⟩⟩, hS.F ht⟩) hS.2.2 d_Sf_findRivals_170
theorem d_Sf_isSafe_0 : decode b_Sf_isSafe 0 = .ok (.aload_n 0, 1) := by decide +kernel
theorem d_Sf_isSafe_1 : decode b_Sf_isSafe 1 = .ok (.iconst 0, 1) := by decide +kernel
theorem d_Sf_isSafe_2 : decode b_Sf_isSafe 2 = .ok (.putfield 33, 3) := by decide +kernel
theorem d_Sf_isSafe_5 : decode b_Sf_isSafe 5 = .ok (.aload_n 0, 1) := by decide +kernel
theorem d_Sf_isSafe_6 : decode b_Sf_isSafe 6 = .ok (.getfield 9, 3) := by decide +kernel
theorem d_Sf_isSafe_9 : decode b_Sf_isSafe 9 = .ok (.lconst 0, 1) := by decide +kernel
theorem d_Sf_isSafe_10 : decode b_Sf_isSafe 10 = .ok (.invokestatic 37, 3) := by decide +kernel
theorem d_Sf_isSafe_13 : decode b_Sf_isSafe 13 = .ok (.aload_n 0, 1) := by decide +kernel
theorem d_Sf_isSafe_14 : decode b_Sf_isSafe 14 = .ok (.getfield 29, 3) := by decide +kernel
theorem d_Sf_isSafe_17 : decode b_Sf_isSafe 17 = .ok (.aload_n 0, 1) := by decide +kernel
theorem d_Sf_isSafe_18 : decode b_Sf_isSafe 18 = .ok (.getfield 9, 3) := by decide +kernel
theorem d_Sf_isSafe_21 : decode b_Sf_isSafe 21 = .ok (.invokevirtual 43, 3) := by decide +kernel
theorem d_Sf_isSafe_24 : decode b_Sf_isSafe 24 = .ok (.aload_n 0, 1) := by decide +kernel
theorem d_Sf_isSafe_25 : decode b_Sf_isSafe 25 = .ok (.invokevirtual 49, 3) := by decide +kernel
theorem d_Sf_isSafe_28 : decode b_Sf_isSafe 28 = .ok (.ifCond .ne 5, 3) := by decide +kernel
theorem d_Sf_isSafe_31 : decode b_Sf_isSafe 31 = .ok (.iconst 1, 1) := by decide +kernel
theorem d_Sf_isSafe_32 : decode b_Sf_isSafe 32 = .ok (.ireturn, 1) := by decide +kernel
set_option maxHeartbeats 4000000 in
set_option maxRecDepth 100000 in
theorem c_Sf_isSafe (l : Launch) (dC : Nat → ClassId) (dI : Nat → Nat → Nat) (cI cB cZ cJ : ClassId) (oSf : Nat) (xf_sources : Nat) (oWa : Nat) (oSt : Nat) (oP1 : Nat) (xst_meeting : Nat) (xf_rivals : Nat) (xf : List Value) (hsf_stock : xf[0]? = some (.ref oSt)) (hsf_ways : xf[1]? = some (.ref oWa)) (hsf_sources : xf[2]? = some (.ref xf_sources)) (hsf_rivals : xf[3]? = some (.ref xf_rivals)) (hsf_failure : xf[6]? = some (.int 0)) (xw : List Value) (hwa_stock : xw[0]? = some (.ref oSt)) (hwa_count : xw[1]? = some (.int 0)) (xs_ : List Value) (hst_plant : xs_[0]? = some (.ref oP1)) (hst_meeting : xs_[9]? = some (.ref xst_meeting)) (xp : List Value) (hxp_things : xp[0]? = some (.int 0)) (hxp_pipes : xp[1]? = some (.int 0)) (sz : Nat) : Met l y_Sf_isSafe w_Sf_isSafe ({ frames := 1, cells := 0, slots := 0, locals := 27 }) (va_Pc [.ref oSf] (PW dC dI cI cB cZ cJ [(oSf, .inr (6, xf)), (xf_sources, .inl (cJ, 15, .inr (.inl (fun _ => 0)))), (oWa, .inr (5, xw)), (oSt, .inr (4, xs_)), (oP1, .inr (3, xp)), (xst_meeting, .inl (cI, 15, .inl (fun _ => 0))), (xf_rivals, .inl (cI, 15, .inl (fun _ => 0)))] sz)) (va_Qi (fun (r : Int32) (_ : Unit) => r = 1) (fun (_ : Unit) (t : State) => ∃ (n_xf : List Value) (n_xf_rivals : Nat → Int32), n_xf[0]? = some (.ref oSt) ∧ n_xf[1]? = some (.ref oWa) ∧ n_xf[2]? = some (.ref xf_sources) ∧ n_xf[3]? = some (.ref xf_rivals) ∧ n_xf[6]? = some (.int 0) ∧ xw[0]? = some (.ref oSt) ∧ xw[1]? = some (.int 0) ∧ xs_[0]? = some (.ref oP1) ∧ xs_[9]? = some (.ref xst_meeting) ∧ xp[0]? = some (.int 0) ∧ xp[1]? = some (.int 0) ∧ va_P (dC, dI) classes [(oSf, .inr (6, n_xf)), (xf_sources, .inl (cJ, 15, .inr (.inl (fun _ => 0)))), (oWa, .inr (5, xw)), (oSt, .inr (4, xs_)), (oP1, .inr (3, xp)), (xst_meeting, .inl (cI, 15, .inl (fun _ => 0))), (xf_rivals, .inl (cI, 15, .inl n_xf_rivals))] t.heap ∧ va_D (va_A [(oSf, .inr (6, xf)), (xf_sources, .inl (cJ, 15, .inr (.inl (fun _ => 0)))), (oWa, .inr (5, xw)), (oSt, .inr (4, xs_)), (oP1, .inr (3, xp)), (xst_meeting, .inl (cI, 15, .inl (fun _ => 0))), (xf_rivals, .inl (cI, 15, .inl (fun _ => 0)))] sz) [(oSf, .inr (6, n_xf)), (xf_sources, .inl (cJ, 15, .inr (.inl (fun _ => 0)))), (oWa, .inr (5, xw)), (oSt, .inr (4, xs_)), (oP1, .inr (3, xp)), (xst_meeting, .inl (cI, 15, .inl (fun _ => 0))), (xf_rivals, .inl (cI, 15, .inl n_xf_rivals))]) (va_A [(oSf, .inr (6, xf)), (xf_sources, .inl (cJ, 15, .inr (.inl (fun _ => 0)))), (oWa, .inr (5, xw)), (oSt, .inr (4, xs_)), (oP1, .inr (3, xp)), (xst_meeting, .inl (cI, 15, .inl (fun _ => 0))), (xf_rivals, .inl (cI, 15, .inl (fun _ => 0)))] sz)) 0 0 (va_A [(oSf, .inr (6, xf)), (xf_sources, .inl (cJ, 15, .inr (.inl (fun _ => 0)))), (oWa, .inr (5, xw)), (oSt, .inr (4, xs_)), (oP1, .inr (3, xp)), (xst_meeting, .inl (cI, 15, .inl (fun _ => 0))), (xf_rivals, .inl (cI, 15, .inl (fun _ => 0)))] sz) := by
  refine Met.ofW (cc := b_Sf_isSafe) (maxL := 4) (ret := (some .boolean)) (by decide) rfl ?_
  intro p e s m args below meth c s₁ B hml hv
  obtain ⟨rfl, hsz, hP, hK, hD⟩ := hv
  have hx := B.exec
  have hb := B.bytes
  have hr := B.returns
  have hts := atoms_spec (ws := w_Sf_isSafe) B.pre
  have hown : s.vm.findClass R_Sf = some m.cls := findClass_of_methodNamed B.named
  have hlocks := B.notSynchronized
  subst hsz
  have hD := hD.self (sz := s.heap.size)
  generalize hAe : va_A [(oSf, .inr (6, xf)), (xf_sources, .inl (cJ, 15, .inr (.inl (fun _ => 0)))), (oWa, .inr (5, xw)), (oSt, .inr (4, xs_)), (oP1, .inr (3, xp)), (xst_meeting, .inl (cI, 15, .inl (fun _ => 0))), (xf_rivals, .inl (cI, 15, .inl (fun _ => 0)))] s.heap.size = A at hD ⊢
  have hA : ∀ q : Nat, s.heap.size ≤ q → A q := fun q h => by rw [← hAe]; exact Or.inr h
  have hS : va_S A s.heap s.heap [] := va_S.rf
  have hP : va_P (dC, dI) classes [(oSf, .inr (6, xf)), (xf_sources, .inl (cJ, 15, .inr (.inl (fun _ => 0)))), (oWa, .inr (5, xw)), (oSt, .inr (4, xs_)), (oP1, .inr (3, xp)), (xst_meeting, .inl (cI, 15, .inl (fun _ => 0))), (xf_rivals, .inl (cI, 15, .inl (fun _ => 0)))] s.heap := hP
  have hl := lv_entry ([.ref oSf]) (n := 4) (Nat.le_of_ble_eq_true rfl)
  rw [lg_entry_eq]
  generalize (lg_sl ([.ref oSf]) ++ List.replicate (4 - (lg_sl ([.ref oSf])).length) Slot.unset).toArray = ls at hl ⊢
  have hl : lv_has ls 4 [(0, .ref oSf)] := hl
  refine lv_aload_n hx hb d_Sf_isSafe_0 rfl (lv_at hl 0 rfl) ?_
  refine lv_iconst (v := 0) hx hb d_Sf_isSafe_1 (by decide) ?_
  refine va_put (D := (dC, dI)) (ci := 6) (v := .int 0) (ty := .int) (C := R_Sf) (T := F_Sf) (N := 10) hx hb hts (fun w h => List.mem_cons_of_mem _ (in_Sf w h)) t_Sf t_Sf_ok n_Sf hown hK.1 hP hD hS 0 rfl rfl 6 (by decide) (hts _ (List.mem_cons_of_mem _ mw_288)) (fun _ h9 => h9) rfl (by decide +kernel) rfl rfl (st_lt hsf_failure) d_Sf_isSafe_2 (fun H locs hP hD hS => ?_)
  have g2_6 : (xf.set 6 (.int 0))[6]? = some (.int 0) := (st_eq hsf_failure)
  have g2_3 : (xf.set 6 (.int 0))[3]? = some (.ref xf_rivals) := (st_ne hsf_rivals (by decide))
  have g2_2 : (xf.set 6 (.int 0))[2]? = some (.ref xf_sources) := (st_ne hsf_sources (by decide))
  have g2_0 : (xf.set 6 (.int 0))[0]? = some (.ref oSt) := (st_ne hsf_stock (by decide))
  have g2_1 : (xf.set 6 (.int 0))[1]? = some (.ref oWa) := (st_ne hsf_ways (by decide))
  have hP : va_P (dC, dI) classes [(oSf, .inr (6, (xf.set 6 (.int 0)))), (xf_sources, .inl (cJ, 15, .inr (.inl (fun _ => 0)))), (oWa, .inr (5, xw)), (oSt, .inr (4, xs_)), (oP1, .inr (3, xp)), (xst_meeting, .inl (cI, 15, .inl (fun _ => 0))), (xf_rivals, .inl (cI, 15, .inl (fun _ => 0)))] H := hP
  have hD : va_D A [(oSf, .inr (6, (xf.set 6 (.int 0)))), (xf_sources, .inl (cJ, 15, .inr (.inl (fun _ => 0)))), (oWa, .inr (5, xw)), (oSt, .inr (4, xs_)), (oP1, .inr (3, xp)), (xst_meeting, .inl (cI, 15, .inl (fun _ => 0))), (xf_rivals, .inl (cI, 15, .inl (fun _ => 0)))] := hD
  refine lv_aload_n hx hb d_Sf_isSafe_5 rfl (lv_at hl 0 rfl) ?_
  refine va_get (D := (dC, dI)) (ci := 6) (v := .ref xf_sources) (C := R_Sf) (T := F_Sf) (N := 10) hx hb hts (fun w h => List.mem_cons_of_mem _ (in_Sf w h)) hown hK.1 hP 0 rfl rfl 2 (by decide) (hts _ (List.mem_cons_of_mem _ mw_284)) (fun _ h9 => h9) g2_2 d_Sf_isSafe_6 ?_
  refine lv_lconst (v := 0) hx hb d_Sf_isSafe_9 (by decide) ?_
  have hPc := hP.sub (ws' := [(xf_sources, .inl (cJ, 15, .inr (.inl (fun _ => 0))))]) [1] rfl
  have hDc := hD.sub (ws' := [(xf_sources, .inl (cJ, 15, .inr (.inl (fun _ => 0))))]) [1] (by decide) rfl
  have hFc := va_free (wc := [(xf_sources, .inl (cJ, 15, .inr (.inl (fun _ => 0))))]) hD hS hA [1] rfl
  refine va_callv (va_runS (As := [.ref xf_sources, .long 0]) (rest := []) ⟨hx, hb, hml, hown, hts⟩ (c_Ar_fillJ l dC dI cI cB cZ cJ 0 xf_sources 15 (fun _ => 0) (by decide) H.size) (va_cwS 2 hts (tb_S2 mw_1096 mw_1021 mw_6 mw_1022) rfl rfl rfl ⟨by decide +kernel, by decide +kernel, by decide +kernel⟩ ⟨(Nat.le_of_ble_eq_true rfl), (Nat.le_of_ble_eq_true rfl)⟩) ⟨pw_blind, pw_pre hPc hK hDc⟩ rfl rfl hl.1 rfl (lv_room (Nat.le_of_ble_eq_true rfl)) d_Sf_isSafe_10 ⟨(Nat.le_of_ble_eq_true rfl), (Nat.le_of_ble_eq_true rfl)⟩) hS (fun q _ h => hFc q h) hFc (fun u t H locs ht hvm hw hB hz1 hk1 hS => ?_)
  obtain ⟨hP1, hD1⟩ := hB
  rw [ht] at hP1
  obtain ⟨hP, hD⟩ := va_join (wr := [(oSf, .inr (6, (xf.set 6 (.int 0)))), (oWa, .inr (5, xw)), (oSt, .inr (4, xs_)), (oP1, .inr (3, xp)), (xst_meeting, .inl (cI, 15, .inl (fun _ => 0))), (xf_rivals, .inl (cI, 15, .inl (fun _ => 0)))]) (w1 := [(xf_sources, .inl (cJ, 15, .inr (.inl (fun _ => 0))))]) hP hD [1] [0, 2, 3, 4, 5, 6] rfl rfl (by decide) (by decide) hk1 hFc hP1 hD1
  have hP : va_P (dC, dI) classes [(oSf, .inr (6, (xf.set 6 (.int 0)))), (oWa, .inr (5, xw)), (oSt, .inr (4, xs_)), (oP1, .inr (3, xp)), (xst_meeting, .inl (cI, 15, .inl (fun _ => 0))), (xf_rivals, .inl (cI, 15, .inl (fun _ => 0))), (xf_sources, .inl (cJ, 15, .inr (.inl (fun _ => 0))))] H := hP
  have hD : va_D A [(oSf, .inr (6, (xf.set 6 (.int 0)))), (oWa, .inr (5, xw)), (oSt, .inr (4, xs_)), (oP1, .inr (3, xp)), (xst_meeting, .inl (cI, 15, .inl (fun _ => 0))), (xf_rivals, .inl (cI, 15, .inl (fun _ => 0))), (xf_sources, .inl (cJ, 15, .inr (.inl (fun _ => 0))))] := hD
  refine lv_aload_n hx hb d_Sf_isSafe_13 rfl (lv_at hl 0 rfl) ?_
  refine va_get (D := (dC, dI)) (ci := 6) (v := .ref oWa) (C := R_Sf) (T := F_Sf) (N := 10) hx hb hts (fun w h => List.mem_cons_of_mem _ (in_Sf w h)) hown hK.1 hP 0 rfl rfl 1 (by decide) (hts _ (List.mem_cons_of_mem _ mw_283)) (fun _ h9 => h9) g2_1 d_Sf_isSafe_14 ?_
  refine lv_aload_n hx hb d_Sf_isSafe_17 rfl (lv_at hl 0 rfl) ?_
  refine va_get (D := (dC, dI)) (ci := 6) (v := .ref xf_sources) (C := R_Sf) (T := F_Sf) (N := 10) hx hb hts (fun w h => List.mem_cons_of_mem _ (in_Sf w h)) hown hK.1 hP 0 rfl rfl 2 (by decide) (hts _ (List.mem_cons_of_mem _ mw_284)) (fun _ h9 => h9) g2_2 d_Sf_isSafe_18 ?_
  have hPc := hP.sub (ws' := [(oWa, .inr (5, xw)), (oSt, .inr (4, xs_)), (oP1, .inr (3, xp))]) [1, 2, 3] rfl
  have hDc := hD.sub (ws' := [(oWa, .inr (5, xw)), (oSt, .inr (4, xs_)), (oP1, .inr (3, xp))]) [1, 2, 3] (by decide) rfl
  have hFc := pu_free hS hA
  refine va_callv (va_runV (C := R_Wa) (As := [.ref xf_sources]) (rest := []) ⟨hx, hb, hml, hown, hts⟩ (c_Wa_addSources l dC dI cI cB cZ cJ oWa oSt oP1 xf_sources xw hwa_stock hwa_count xs_ hst_plant xp hxp_things H.size) (cwV 1 hts (tb_V mw_1097 mw_1098 mw_1099 mw_7 mw_1100) rfl rfl rfl ⟨rfl, by decide +kernel, by decide +kernel, by decide +kernel⟩ ⟨(Nat.le_of_ble_eq_true rfl), (Nat.le_of_ble_eq_true rfl)⟩) ⟨pw_blind, va_recv (q := (R_Wa, F_Wa, 18)) hK.1 hP (ci := 5) (q0 := 1) rfl rfl, pw_pre hPc hK hDc⟩ rfl rfl hl.1 rfl (lv_room (Nat.le_of_ble_eq_true rfl)) d_Sf_isSafe_21 ⟨(Nat.le_of_ble_eq_true rfl), (Nat.le_of_ble_eq_true rfl)⟩) hS (fun q _ h => hFc q h) hFc (fun u t H locs ht hvm hw hB hz1 hk1 hS => ?_)
  have hP := pu_kept hP hk1
  refine lv_aload_n hx hb d_Sf_isSafe_24 rfl (lv_at hl 0 rfl) ?_
  have hPc := hP.sub (ws' := [(oSf, .inr (6, (xf.set 6 (.int 0)))), (oSt, .inr (4, xs_)), (oP1, .inr (3, xp)), (xf_sources, .inl (cJ, 15, .inr (.inl (fun _ => 0)))), (xst_meeting, .inl (cI, 15, .inl (fun _ => 0))), (xf_rivals, .inl (cI, 15, .inl (fun _ => 0)))]) [0, 2, 3, 6, 4, 5] rfl
  have hDc := hD.sub (ws' := [(oSf, .inr (6, (xf.set 6 (.int 0)))), (oSt, .inr (4, xs_)), (oP1, .inr (3, xp)), (xf_sources, .inl (cJ, 15, .inr (.inl (fun _ => 0)))), (xst_meeting, .inl (cI, 15, .inl (fun _ => 0))), (xf_rivals, .inl (cI, 15, .inl (fun _ => 0)))]) [0, 2, 3, 6, 4, 5] (by decide) rfl
  have hFc := va_free (wc := [(oSf, .inr (6, (xf.set 6 (.int 0)))), (oSt, .inr (4, xs_)), (oP1, .inr (3, xp)), (xf_sources, .inl (cJ, 15, .inr (.inl (fun _ => 0)))), (xst_meeting, .inl (cI, 15, .inl (fun _ => 0))), (xf_rivals, .inl (cI, 15, .inl (fun _ => 0)))]) hD hS hA [0, 2, 3, 6, 4, 5] rfl
  refine va_calli (va_runV (C := R_Sf) (As := []) (rest := []) ⟨hx, hb, hml, hown, hts⟩ (c_Sf_findRivals l dC dI cI cB cZ cJ oSf oSt oP1 xf_sources xst_meeting xf_rivals ((xf.set 6 (.int 0))) g2_0 g2_2 g2_3 xs_ hst_plant hst_meeting xp hxp_things hxp_pipes H.size) (cwV 0 hts (tb_V mw_1101 mw_1103 sl_48 mw_8 mw_1104) rfl rfl rfl ⟨rfl, by decide +kernel, by decide +kernel, by decide +kernel⟩ ⟨(Nat.le_of_ble_eq_true rfl), (Nat.le_of_ble_eq_true rfl)⟩) ⟨pw_blind, va_recv (q := (R_Sf, F_Sf, 10)) hK.1 hP (ci := 6) (q0 := 0) rfl rfl, pw_pre hPc hK hDc⟩ rfl rfl hl.1 rfl (lv_room (Nat.le_of_ble_eq_true rfl)) d_Sf_isSafe_25 ⟨(Nat.le_of_ble_eq_true rfl), (Nat.le_of_ble_eq_true rfl)⟩) hS (fun q _ h => hFc q h) hFc (fun r u t H locs ht hvm hw hB hz1 hk1 hS => ?_)
  obtain ⟨f25_3_xf_rivals, k25_3_oSf_0, k25_3_oSf_2, k25_3_oSf_3, k25_3_oSt_0, k25_3_oSt_9, k25_3_oP1_0, k25_3_oP1_1, hP1, hD1⟩ := hB
  rw [ht] at hP1
  obtain ⟨hP, hD⟩ := va_join (wr := [(oWa, .inr (5, xw))]) (w1 := [(oSf, .inr (6, (xf.set 6 (.int 0)))), (oSt, .inr (4, xs_)), (oP1, .inr (3, xp)), (xf_sources, .inl (cJ, 15, .inr (.inl (fun _ => 0)))), (xst_meeting, .inl (cI, 15, .inl (fun _ => 0))), (xf_rivals, .inl (cI, 15, .inl f25_3_xf_rivals))]) hP hD [0, 2, 3, 6, 4, 5] [1] rfl rfl (by decide) (by decide) hk1 hFc hP1 hD1
  have hP : va_P (dC, dI) classes [(oWa, .inr (5, xw)), (oSf, .inr (6, (xf.set 6 (.int 0)))), (oSt, .inr (4, xs_)), (oP1, .inr (3, xp)), (xf_sources, .inl (cJ, 15, .inr (.inl (fun _ => 0)))), (xst_meeting, .inl (cI, 15, .inl (fun _ => 0))), (xf_rivals, .inl (cI, 15, .inl f25_3_xf_rivals))] H := hP
  have hD : va_D A [(oWa, .inr (5, xw)), (oSf, .inr (6, (xf.set 6 (.int 0)))), (oSt, .inr (4, xs_)), (oP1, .inr (3, xp)), (xf_sources, .inl (cJ, 15, .inr (.inl (fun _ => 0)))), (xst_meeting, .inl (cI, 15, .inl (fun _ => 0))), (xf_rivals, .inl (cI, 15, .inl f25_3_xf_rivals))] := hD
  obtain rfl : r = 0 := hw
  refine lv_if_ne (tgt := 33) hx hb d_Sf_isSafe_28 (by decide) (fun h => absurd rfl h) (fun _ => ?_)
  refine lv_iconst (v := 1) hx hb d_Sf_isSafe_31 (by decide) ?_
  have hP := hP.sub (ws' := [(oSf, .inr (6, (xf.set 6 (.int 0)))), (xf_sources, .inl (cJ, 15, .inr (.inl (fun _ => 0)))), (oWa, .inr (5, xw)), (oSt, .inr (4, xs_)), (oP1, .inr (3, xp)), (xst_meeting, .inl (cI, 15, .inl (fun _ => 0))), (xf_rivals, .inl (cI, 15, .inl f25_3_xf_rivals))]) [1, 4, 0, 2, 3, 5, 6] rfl
  have hD := hD.sub (ws' := [(oSf, .inr (6, (xf.set 6 (.int 0)))), (xf_sources, .inl (cJ, 15, .inr (.inl (fun _ => 0)))), (oWa, .inr (5, xw)), (oSt, .inr (4, xs_)), (oP1, .inr (3, xp)), (xst_meeting, .inl (cI, 15, .inl (fun _ => 0))), (xf_rivals, .inl (cI, 15, .inl f25_3_xf_rivals))]) [1, 4, 0, 2, 3, 5, 6] (by decide) rfl
  exact W.zret (v := 1) (ty := .boolean) hx hb hr (by decide) (fun t ht hW => ⟨⟨_, (), rfl, (rfl), ⟨(xf.set 6 (.int 0)), f25_3_xf_rivals, g2_0, g2_1, g2_2, g2_3, g2_6, hwa_stock, hwa_count, hst_plant, hst_meeting, hxp_things, hxp_pipes, by rw [ht]; exact hP, hD⟩⟩, hS.F ht⟩) hS.2.2 d_Sf_isSafe_32
theorem d_Bh_danger_0 : decode b_Bh_danger 0 = .ok (.aload_n 0, 1) := by decide +kernel
theorem d_Bh_danger_1 : decode b_Bh_danger 1 = .ok (.getfield 44, 3) := by decide +kernel
theorem d_Bh_danger_4 : decode b_Bh_danger 4 = .ok (.invokevirtual 218, 3) := by decide +kernel
theorem d_Bh_danger_7 : decode b_Bh_danger 7 = .ok (.istore_n 2, 1) := by decide +kernel
theorem d_Bh_danger_8 : decode b_Bh_danger 8 = .ok (.iload_n 1, 1) := by decide +kernel
theorem d_Bh_danger_9 : decode b_Bh_danger 9 = .ok (.ifCond .ne 11, 3) := by decide +kernel
theorem d_Bh_danger_12 : decode b_Bh_danger 12 = .ok (.aload_n 0, 1) := by decide +kernel
theorem d_Bh_danger_13 : decode b_Bh_danger 13 = .ok (.getfield 44, 3) := by decide +kernel
theorem d_Bh_danger_16 : decode b_Bh_danger 16 = .ok (.getfield 359, 3) := by decide +kernel
theorem d_Bh_danger_19 : decode b_Bh_danger 19 = .ok (.ireturn, 1) := by decide +kernel
theorem d_Bh_danger_20 : decode b_Bh_danger 20 = .ok (.iload_n 2, 1) := by decide +kernel
theorem d_Bh_danger_21 : decode b_Bh_danger 21 = .ok (.ifCond .eq 5, 3) := by decide +kernel
theorem d_Bh_danger_24 : decode b_Bh_danger 24 = .ok (.iconst (-1), 1) := by decide +kernel
theorem d_Bh_danger_25 : decode b_Bh_danger 25 = .ok (.ireturn, 1) := by decide +kernel
def fn_Bh_danger (wh : Int32) : Int32 := (if wh = 0 then 0 else (-1))
set_option maxHeartbeats 4000000 in
set_option maxRecDepth 100000 in
theorem c_Bh_danger (l : Launch) (dC : Nat → ClassId) (dI : Nat → Nat → Nat) (cI cB cZ cJ : ClassId) (wh : Int32) (oB : Nat) (oSf : Nat) (xf_sources : Nat) (oWa : Nat) (oSt : Nat) (oP1 : Nat) (xst_meeting : Nat) (xf_rivals : Nat) (xb : List Value) (hb_safety : xb[4]? = some (.ref oSf)) (xf : List Value) (hsf_stock : xf[0]? = some (.ref oSt)) (hsf_ways : xf[1]? = some (.ref oWa)) (hsf_sources : xf[2]? = some (.ref xf_sources)) (hsf_rivals : xf[3]? = some (.ref xf_rivals)) (hsf_failure : xf[6]? = some (.int 0)) (xw : List Value) (hwa_stock : xw[0]? = some (.ref oSt)) (hwa_count : xw[1]? = some (.int 0)) (xs_ : List Value) (hst_plant : xs_[0]? = some (.ref oP1)) (hst_meeting : xs_[9]? = some (.ref xst_meeting)) (xp : List Value) (hxp_things : xp[0]? = some (.int 0)) (hxp_pipes : xp[1]? = some (.int 0)) (sz : Nat) : Met l y_Bh_danger w_Bh_danger ({ frames := 2, cells := 0, slots := 0, locals := 50 }) (va_Pc [.ref oB, .int wh] (PW dC dI cI cB cZ cJ [(oB, .inr (0, xb)), (oSf, .inr (6, xf)), (xf_sources, .inl (cJ, 15, .inr (.inl (fun _ => 0)))), (oWa, .inr (5, xw)), (oSt, .inr (4, xs_)), (oP1, .inr (3, xp)), (xst_meeting, .inl (cI, 15, .inl (fun _ => 0))), (xf_rivals, .inl (cI, 15, .inl (fun _ => 0)))] sz)) (va_Qi (fun (r : Int32) (_ : Unit) => r = fn_Bh_danger wh) (fun _ _ => True) (va_A [(oB, .inr (0, xb)), (oSf, .inr (6, xf)), (xf_sources, .inl (cJ, 15, .inr (.inl (fun _ => 0)))), (oWa, .inr (5, xw)), (oSt, .inr (4, xs_)), (oP1, .inr (3, xp)), (xst_meeting, .inl (cI, 15, .inl (fun _ => 0))), (xf_rivals, .inl (cI, 15, .inl (fun _ => 0)))] sz)) 0 0 (va_A [(oB, .inr (0, xb)), (oSf, .inr (6, xf)), (xf_sources, .inl (cJ, 15, .inr (.inl (fun _ => 0)))), (oWa, .inr (5, xw)), (oSt, .inr (4, xs_)), (oP1, .inr (3, xp)), (xst_meeting, .inl (cI, 15, .inl (fun _ => 0))), (xf_rivals, .inl (cI, 15, .inl (fun _ => 0)))] sz) := by
  refine Met.ofW (cc := b_Bh_danger) (maxL := 3) (ret := (some .int)) (by decide) rfl ?_
  intro p e s m args below meth c s₁ B hml hv
  obtain ⟨rfl, hsz, hP, hK, hD⟩ := hv
  have hx := B.exec
  have hb := B.bytes
  have hr := B.returns
  have hts := atoms_spec (ws := w_Bh_danger) B.pre
  have hown : s.vm.findClass R_Bh = some m.cls := findClass_of_methodNamed B.named
  have hlocks := B.notSynchronized
  subst hsz
  have hD := hD.self (sz := s.heap.size)
  generalize hAe : va_A [(oB, .inr (0, xb)), (oSf, .inr (6, xf)), (xf_sources, .inl (cJ, 15, .inr (.inl (fun _ => 0)))), (oWa, .inr (5, xw)), (oSt, .inr (4, xs_)), (oP1, .inr (3, xp)), (xst_meeting, .inl (cI, 15, .inl (fun _ => 0))), (xf_rivals, .inl (cI, 15, .inl (fun _ => 0)))] s.heap.size = A at hD ⊢
  have hA : ∀ q : Nat, s.heap.size ≤ q → A q := fun q h => by rw [← hAe]; exact Or.inr h
  have hS : va_S A s.heap s.heap [] := va_S.rf
  have hP : va_P (dC, dI) classes [(oB, .inr (0, xb)), (oSf, .inr (6, xf)), (xf_sources, .inl (cJ, 15, .inr (.inl (fun _ => 0)))), (oWa, .inr (5, xw)), (oSt, .inr (4, xs_)), (oP1, .inr (3, xp)), (xst_meeting, .inl (cI, 15, .inl (fun _ => 0))), (xf_rivals, .inl (cI, 15, .inl (fun _ => 0)))] s.heap := hP
  have hl := lv_entry ([.ref oB, .int wh]) (n := 3) (Nat.le_of_ble_eq_true rfl)
  rw [lg_entry_eq]
  generalize (lg_sl ([.ref oB, .int wh]) ++ List.replicate (3 - (lg_sl ([.ref oB, .int wh])).length) Slot.unset).toArray = ls at hl ⊢
  have hl : lv_has ls 3 [(0, .ref oB), (1, .int wh)] := hl
  refine lv_aload_n hx hb d_Bh_danger_0 rfl (lv_at hl 0 rfl) ?_
  refine va_get (D := (dC, dI)) (ci := 0) (v := .ref oSf) (C := R_Bh) (T := F_Bh) (N := 16) hx hb hts (fun w h => List.mem_cons_of_mem _ (in_Bh w h)) hown hK.1 hP 0 rfl rfl 4 (by decide) (hts _ (List.mem_cons_of_mem _ mw_688)) (fun _ h9 => h9) hb_safety d_Bh_danger_1 ?_
  have hPc := hP.sub (ws' := [(oSf, .inr (6, xf)), (xf_sources, .inl (cJ, 15, .inr (.inl (fun _ => 0)))), (oWa, .inr (5, xw)), (oSt, .inr (4, xs_)), (oP1, .inr (3, xp)), (xst_meeting, .inl (cI, 15, .inl (fun _ => 0))), (xf_rivals, .inl (cI, 15, .inl (fun _ => 0)))]) [1, 2, 3, 4, 5, 6, 7] rfl
  have hDc := hD.sub (ws' := [(oSf, .inr (6, xf)), (xf_sources, .inl (cJ, 15, .inr (.inl (fun _ => 0)))), (oWa, .inr (5, xw)), (oSt, .inr (4, xs_)), (oP1, .inr (3, xp)), (xst_meeting, .inl (cI, 15, .inl (fun _ => 0))), (xf_rivals, .inl (cI, 15, .inl (fun _ => 0)))]) [1, 2, 3, 4, 5, 6, 7] (by decide) rfl
  have hFc := va_free (wc := [(oSf, .inr (6, xf)), (xf_sources, .inl (cJ, 15, .inr (.inl (fun _ => 0)))), (oWa, .inr (5, xw)), (oSt, .inr (4, xs_)), (oP1, .inr (3, xp)), (xst_meeting, .inl (cI, 15, .inl (fun _ => 0))), (xf_rivals, .inl (cI, 15, .inl (fun _ => 0)))]) hD hS hA [1, 2, 3, 4, 5, 6, 7] rfl
  refine va_calli (va_runV (C := R_Sf) (As := []) (rest := []) ⟨hx, hb, hml, hown, hts⟩ (c_Sf_isSafe l dC dI cI cB cZ cJ oSf xf_sources oWa oSt oP1 xst_meeting xf_rivals xf hsf_stock hsf_ways hsf_sources hsf_rivals hsf_failure xw hwa_stock hwa_count xs_ hst_plant hst_meeting xp hxp_things hxp_pipes s.heap.size) (cwV 0 hts (tb_V mw_1092 mw_1093 mw_1094 mw_8 mw_1095) rfl rfl rfl ⟨rfl, by decide +kernel, by decide +kernel, by decide +kernel⟩ ⟨(Nat.le_of_ble_eq_true rfl), (Nat.le_of_ble_eq_true rfl)⟩) ⟨pw_blind, va_recv (q := (R_Sf, F_Sf, 10)) hK.1 hP (ci := 6) (q0 := 1) rfl rfl, pw_pre hPc hK hDc⟩ rfl rfl hl.1 rfl (lv_room (Nat.le_of_ble_eq_true rfl)) d_Bh_danger_4 ⟨(Nat.le_of_ble_eq_true rfl), (Nat.le_of_ble_eq_true rfl)⟩) hS (fun q _ h => hFc q h) hFc (fun r u t H locs ht hvm hw hB hz1 hk1 hS => ?_)
  obtain ⟨s4_1_oSf, f4_1_xf_rivals, k4_1_oSf_0, k4_1_oSf_1, k4_1_oSf_2, k4_1_oSf_3, k4_1_oSf_6, k4_1_oWa_0, k4_1_oWa_1, k4_1_oSt_0, k4_1_oSt_9, k4_1_oP1_0, k4_1_oP1_1, hP1, hD1⟩ := hB
  rw [ht] at hP1
  obtain ⟨hP, hD⟩ := va_join (wr := [(oB, .inr (0, xb))]) (w1 := [(oSf, .inr (6, s4_1_oSf)), (xf_sources, .inl (cJ, 15, .inr (.inl (fun _ => 0)))), (oWa, .inr (5, xw)), (oSt, .inr (4, xs_)), (oP1, .inr (3, xp)), (xst_meeting, .inl (cI, 15, .inl (fun _ => 0))), (xf_rivals, .inl (cI, 15, .inl f4_1_xf_rivals))]) hP hD [1, 2, 3, 4, 5, 6, 7] [0] rfl rfl (by decide) (by decide) hk1 hFc hP1 hD1
  have hP : va_P (dC, dI) classes [(oB, .inr (0, xb)), (oSf, .inr (6, s4_1_oSf)), (xf_sources, .inl (cJ, 15, .inr (.inl (fun _ => 0)))), (oWa, .inr (5, xw)), (oSt, .inr (4, xs_)), (oP1, .inr (3, xp)), (xst_meeting, .inl (cI, 15, .inl (fun _ => 0))), (xf_rivals, .inl (cI, 15, .inl f4_1_xf_rivals))] H := hP
  have hD : va_D A [(oB, .inr (0, xb)), (oSf, .inr (6, s4_1_oSf)), (xf_sources, .inl (cJ, 15, .inr (.inl (fun _ => 0)))), (oWa, .inr (5, xw)), (oSt, .inr (4, xs_)), (oP1, .inr (3, xp)), (xst_meeting, .inl (cI, 15, .inl (fun _ => 0))), (xf_rivals, .inl (cI, 15, .inl f4_1_xf_rivals))] := hD
  obtain rfl : r = 1 := hw
  refine lv_istore_n hx hb d_Bh_danger_7 rfl hl (by decide) rfl (fun ls hl => ?_)
  have hl : lv_has ls 3 [(2, .int 1), (0, .ref oB), (1, .int wh)] := hl
  refine lv_iload_n hx hb d_Bh_danger_8 rfl (lv_at hl 2 rfl) ?_
  refine lv_if_ne (tgt := 20) hx hb d_Bh_danger_9 (by decide) (fun h9 => ?_) (fun h9 => ?_)
  · refine lv_iload_n hx hb d_Bh_danger_20 rfl (lv_at hl 0 rfl) ?_
    refine lv_if_eq (tgt := 26) hx hb d_Bh_danger_21 (by decide) (fun h => absurd h (by decide)) (fun _ => ?_)
    refine lv_iconst (v := (-1)) hx hb d_Bh_danger_24 (by decide) ?_
    exact W.iret (v := (-1)) hx hb hr (fun t ht hW => ⟨⟨_, (), rfl, (by unfold fn_Bh_danger; rw [if_neg h9]), trivial⟩, hS.F ht⟩) hS.2.2 d_Bh_danger_25
  · refine lv_aload_n hx hb d_Bh_danger_12 rfl (lv_at hl 1 rfl) ?_
    refine va_get (D := (dC, dI)) (ci := 0) (v := .ref oSf) (C := R_Bh) (T := F_Bh) (N := 16) hx hb hts (fun w h => List.mem_cons_of_mem _ (in_Bh w h)) hown hK.1 hP 0 rfl rfl 4 (by decide) (hts _ (List.mem_cons_of_mem _ mw_688)) (fun _ h9 => h9) hb_safety d_Bh_danger_13 ?_
    refine va_get (D := (dC, dI)) (ci := 6) (v := .int 0) (C := R_Sf) (T := F_Sf) (N := 10) hx hb hts (fun w h => List.mem_cons_of_mem _ (in_Sf w h)) hown hK.1 hP 1 rfl rfl 6 (by decide) (hts _ (List.mem_cons_of_mem _ mw_289)) (fun _ h9 => h9) k4_1_oSf_6 d_Bh_danger_16 ?_
    exact W.iret (v := 0) hx hb hr (fun t ht hW => ⟨⟨_, (), rfl, (by unfold fn_Bh_danger; rw [if_pos h9]), trivial⟩, hS.F ht⟩) hS.2.2 d_Bh_danger_19
