theorem mw_1513 : (.methodLink "BreweryHouseLaw" 109 y_Bh_state : Cond) ∈ lw_gd := tb_mem (i := 1513) (by decide +kernel) (by decide +kernel)
theorem mw_1514 : (.instanceMethod y_Bh_state : Cond) ∈ lw_gd := tb_mem (i := 1514) (by decide +kernel) (by decide +kernel)
theorem mw_1515 : (.selects "BreweryHouse" y_Bh_state y_Bh_state : Cond) ∈ lw_gd := tb_mem (i := 1515) (by decide +kernel) (by decide +kernel)
theorem mw_1516 : (.code y_Bh_state b_Bh_state 1 (some .int) : Cond) ∈ lw_gd := tb_mem (i := 1516) (by decide +kernel) (by decide +kernel)
theorem mw_1517 : (.methodLink "BreweryHouseLaw" 114 y_Bh_value : Cond) ∈ lw_gd := tb_mem (i := 1517) (by decide +kernel) (by decide +kernel)
theorem mw_1518 : (.instanceMethod y_Bh_value : Cond) ∈ lw_gd := tb_mem (i := 1518) (by decide +kernel) (by decide +kernel)
theorem mw_1519 : (.selects "BreweryHouse" y_Bh_value y_Bh_value : Cond) ∈ lw_gd := tb_mem (i := 1519) (by decide +kernel) (by decide +kernel)
theorem mw_1520 : (.code y_Bh_value b_Bh_value 2 (some .long) : Cond) ∈ lw_gd := tb_mem (i := 1520) (by decide +kernel) (by decide +kernel)
theorem mw_1522 : (.methodLink "BreweryHouseLaw" 119 y_Bh_still : Cond) ∈ lw_gd := tb_mem (i := 1522) (by decide +kernel) (by decide +kernel)
theorem mw_1523 : (.instanceMethod y_Bh_still : Cond) ∈ lw_gd := tb_mem (i := 1523) (by decide +kernel) (by decide +kernel)
theorem mw_1524 : (.selects "BreweryHouse" y_Bh_still y_Bh_still : Cond) ∈ lw_gd := tb_mem (i := 1524) (by decide +kernel) (by decide +kernel)
theorem mw_1525 : (.code y_Bh_still b_Bh_still 2 (some .int) : Cond) ∈ lw_gd := tb_mem (i := 1525) (by decide +kernel) (by decide +kernel)
theorem mw_1531 : (.methodLink "BreweryHouseLaw" 123 y_Bh_alarm : Cond) ∈ lw_gd := tb_mem (i := 1531) (by decide +kernel) (by decide +kernel)
theorem mw_1532 : (.instanceMethod y_Bh_alarm : Cond) ∈ lw_gd := tb_mem (i := 1532) (by decide +kernel) (by decide +kernel)
theorem mw_1533 : (.selects "BreweryHouse" y_Bh_alarm y_Bh_alarm : Cond) ∈ lw_gd := tb_mem (i := 1533) (by decide +kernel) (by decide +kernel)
theorem mw_1534 : (.code y_Bh_alarm b_Bh_alarm 3 (some .int) : Cond) ∈ lw_gd := tb_mem (i := 1534) (by decide +kernel) (by decide +kernel)
theorem mw_1539 : (.methodLink "BreweryHouseLaw" 127 y_Bh_way : Cond) ∈ lw_gd := tb_mem (i := 1539) (by decide +kernel) (by decide +kernel)
theorem mw_1540 : (.instanceMethod y_Bh_way : Cond) ∈ lw_gd := tb_mem (i := 1540) (by decide +kernel) (by decide +kernel)
theorem mw_1541 : (.selects "BreweryHouse" y_Bh_way y_Bh_way : Cond) ∈ lw_gd := tb_mem (i := 1541) (by decide +kernel) (by decide +kernel)
theorem mw_1542 : (.code y_Bh_way b_Bh_way 3 (some .int) : Cond) ∈ lw_gd := tb_mem (i := 1542) (by decide +kernel) (by decide +kernel)
theorem mw_1547 : (.methodLink "BreweryHouseLaw" 131 y_Bh_space : Cond) ∈ lw_gd := tb_mem (i := 1547) (by decide +kernel) (by decide +kernel)
theorem mw_1548 : (.instanceMethod y_Bh_space : Cond) ∈ lw_gd := tb_mem (i := 1548) (by decide +kernel) (by decide +kernel)
theorem mw_1549 : (.selects "BreweryHouse" y_Bh_space y_Bh_space : Cond) ∈ lw_gd := tb_mem (i := 1549) (by decide +kernel) (by decide +kernel)
theorem mw_1550 : (.code y_Bh_space b_Bh_space 3 (some .int) : Cond) ∈ lw_gd := tb_mem (i := 1550) (by decide +kernel) (by decide +kernel)
theorem mw_1555 : (.methodLink "BreweryHouseLaw" 135 y_Bh_danger : Cond) ∈ lw_gd := tb_mem (i := 1555) (by decide +kernel) (by decide +kernel)
theorem mw_1556 : (.instanceMethod y_Bh_danger : Cond) ∈ lw_gd := tb_mem (i := 1556) (by decide +kernel) (by decide +kernel)
theorem mw_1557 : (.selects "BreweryHouse" y_Bh_danger y_Bh_danger : Cond) ∈ lw_gd := tb_mem (i := 1557) (by decide +kernel) (by decide +kernel)
theorem mw_1558 : (.code y_Bh_danger b_Bh_danger 3 (some .int) : Cond) ∈ lw_gd := tb_mem (i := 1558) (by decide +kernel) (by decide +kernel)
theorem mw_1559 : (.methodLink "BreweryHouseLaw" 139 y_Bh_write : Cond) ∈ lw_gd := tb_mem (i := 1559) (by decide +kernel) (by decide +kernel)
theorem mw_1560 : (.instanceMethod y_Bh_write : Cond) ∈ lw_gd := tb_mem (i := 1560) (by decide +kernel) (by decide +kernel)
theorem mw_1561 : (.selects "BreweryHouse" y_Bh_write y_Bh_write : Cond) ∈ lw_gd := tb_mem (i := 1561) (by decide +kernel) (by decide +kernel)
theorem mw_1562 : (.code y_Bh_write b_Bh_write 2 (some .int) : Cond) ∈ lw_gd := tb_mem (i := 1562) (by decide +kernel) (by decide +kernel)
theorem mw_1563 : (.methodLink "BreweryHouseLaw" 143 y_Bh_second : Cond) ∈ lw_gd := tb_mem (i := 1563) (by decide +kernel) (by decide +kernel)
theorem mw_1564 : (.instanceMethod y_Bh_second : Cond) ∈ lw_gd := tb_mem (i := 1564) (by decide +kernel) (by decide +kernel)
theorem mw_1565 : (.selects "BreweryHouse" y_Bh_second y_Bh_second : Cond) ∈ lw_gd := tb_mem (i := 1565) (by decide +kernel) (by decide +kernel)
theorem mw_1566 : (.code y_Bh_second b_Bh_second 1 (some .int) : Cond) ∈ lw_gd := tb_mem (i := 1566) (by decide +kernel) (by decide +kernel)
theorem mw_2347 : (.methodLink "BreweryHouseLaw" 142 y_Mo_write : Cond) ∈ lw_gd := tb_mem (i := 2347) (by decide +kernel) (by decide +kernel)
theorem mw_2348 : (.instanceMethod y_Mo_write : Cond) ∈ lw_gd := tb_mem (i := 2348) (by decide +kernel) (by decide +kernel)
theorem mw_2349 : (.selects "BreweryHouseModel" y_Mo_write y_Mo_write : Cond) ∈ lw_gd := tb_mem (i := 2349) (by decide +kernel) (by decide +kernel)
theorem mw_2350 : (.code y_Mo_write b_Mo_write 3 (some .int) : Cond) ∈ lw_gd := tb_mem (i := 2350) (by decide +kernel) (by decide +kernel)
theorem mw_2365 : (.methodLink "BreweryHouseLaw" 138 y_Mo_danger : Cond) ∈ lw_gd := tb_mem (i := 2365) (by decide +kernel) (by decide +kernel)
theorem mw_2366 : (.instanceMethod y_Mo_danger : Cond) ∈ lw_gd := tb_mem (i := 2366) (by decide +kernel) (by decide +kernel)
theorem mw_2367 : (.selects "BreweryHouseModel" y_Mo_danger y_Mo_danger : Cond) ∈ lw_gd := tb_mem (i := 2367) (by decide +kernel) (by decide +kernel)
theorem mw_2368 : (.code y_Mo_danger b_Mo_danger 2 (some .int) : Cond) ∈ lw_gd := tb_mem (i := 2368) (by decide +kernel) (by decide +kernel)
theorem mw_2404 : (.methodLink "BreweryHouseLaw" 130 y_Mo_way : Cond) ∈ lw_gd := tb_mem (i := 2404) (by decide +kernel) (by decide +kernel)
theorem mw_2405 : (.instanceMethod y_Mo_way : Cond) ∈ lw_gd := tb_mem (i := 2405) (by decide +kernel) (by decide +kernel)
theorem mw_2406 : (.selects "BreweryHouseModel" y_Mo_way y_Mo_way : Cond) ∈ lw_gd := tb_mem (i := 2406) (by decide +kernel) (by decide +kernel)
theorem mw_2407 : (.code y_Mo_way b_Mo_way 3 (some .int) : Cond) ∈ lw_gd := tb_mem (i := 2407) (by decide +kernel) (by decide +kernel)
theorem mw_2408 : (.methodLink "BreweryHouseLaw" 134 y_Mo_space : Cond) ∈ lw_gd := tb_mem (i := 2408) (by decide +kernel) (by decide +kernel)
theorem mw_2409 : (.instanceMethod y_Mo_space : Cond) ∈ lw_gd := tb_mem (i := 2409) (by decide +kernel) (by decide +kernel)
theorem mw_2410 : (.selects "BreweryHouseModel" y_Mo_space y_Mo_space : Cond) ∈ lw_gd := tb_mem (i := 2410) (by decide +kernel) (by decide +kernel)
theorem mw_2411 : (.code y_Mo_space b_Mo_space 3 (some .int) : Cond) ∈ lw_gd := tb_mem (i := 2411) (by decide +kernel) (by decide +kernel)
theorem mw_2541 : (.methodLink "BreweryHouseLaw" 118 y_Mo_value : Cond) ∈ lw_gd := tb_mem (i := 2541) (by decide +kernel) (by decide +kernel)
theorem mw_2542 : (.instanceMethod y_Mo_value : Cond) ∈ lw_gd := tb_mem (i := 2542) (by decide +kernel) (by decide +kernel)
theorem mw_2543 : (.selects "BreweryHouseModel" y_Mo_value y_Mo_value : Cond) ∈ lw_gd := tb_mem (i := 2543) (by decide +kernel) (by decide +kernel)
theorem mw_2544 : (.code y_Mo_value b_Mo_value 2 (some .long) : Cond) ∈ lw_gd := tb_mem (i := 2544) (by decide +kernel) (by decide +kernel)
theorem mw_2683 : (.methodLink "BreweryHouseLaw" 113 y_Mo_state : Cond) ∈ lw_gd := tb_mem (i := 2683) (by decide +kernel) (by decide +kernel)
theorem mw_2684 : (.instanceMethod y_Mo_state : Cond) ∈ lw_gd := tb_mem (i := 2684) (by decide +kernel) (by decide +kernel)
theorem mw_2685 : (.selects "BreweryHouseModel" y_Mo_state y_Mo_state : Cond) ∈ lw_gd := tb_mem (i := 2685) (by decide +kernel) (by decide +kernel)
theorem mw_2686 : (.code y_Mo_state b_Mo_state 1 (some .int) : Cond) ∈ lw_gd := tb_mem (i := 2686) (by decide +kernel) (by decide +kernel)
theorem mw_2687 : (.methodLink "BreweryHouseLaw" 122 y_Mo_still : Cond) ∈ lw_gd := tb_mem (i := 2687) (by decide +kernel) (by decide +kernel)
theorem mw_2688 : (.instanceMethod y_Mo_still : Cond) ∈ lw_gd := tb_mem (i := 2688) (by decide +kernel) (by decide +kernel)
theorem mw_2689 : (.selects "BreweryHouseModel" y_Mo_still y_Mo_still : Cond) ∈ lw_gd := tb_mem (i := 2689) (by decide +kernel) (by decide +kernel)
theorem mw_2690 : (.code y_Mo_still b_Mo_still 3 (some .int) : Cond) ∈ lw_gd := tb_mem (i := 2690) (by decide +kernel) (by decide +kernel)
theorem mw_2691 : (.methodLink "BreweryHouseLaw" 126 y_Mo_alarm : Cond) ∈ lw_gd := tb_mem (i := 2691) (by decide +kernel) (by decide +kernel)
theorem mw_2692 : (.instanceMethod y_Mo_alarm : Cond) ∈ lw_gd := tb_mem (i := 2692) (by decide +kernel) (by decide +kernel)
theorem mw_2693 : (.selects "BreweryHouseModel" y_Mo_alarm y_Mo_alarm : Cond) ∈ lw_gd := tb_mem (i := 2693) (by decide +kernel) (by decide +kernel)
theorem mw_2694 : (.code y_Mo_alarm b_Mo_alarm 3 (some .int) : Cond) ∈ lw_gd := tb_mem (i := 2694) (by decide +kernel) (by decide +kernel)
theorem mw_2695 : (.methodLink "BreweryHouseLaw" 146 y_Mo_second : Cond) ∈ lw_gd := tb_mem (i := 2695) (by decide +kernel) (by decide +kernel)
theorem mw_2696 : (.instanceMethod y_Mo_second : Cond) ∈ lw_gd := tb_mem (i := 2696) (by decide +kernel) (by decide +kernel)
theorem mw_2697 : (.selects "BreweryHouseModel" y_Mo_second y_Mo_second : Cond) ∈ lw_gd := tb_mem (i := 2697) (by decide +kernel) (by decide +kernel)
theorem mw_2698 : (.code y_Mo_second b_Mo_second 1 (some .int) : Cond) ∈ lw_gd := tb_mem (i := 2698) (by decide +kernel) (by decide +kernel)
theorem d_Lw_law_990 : decode code 990 = .ok (.aload_n 1, 1) := dk_0 a_Lw_law_990 (dko_43 _)
theorem d_Lw_law_991 : decode code 991 = .ok (.invokevirtual 109, 3) := dk_U2 a_Lw_law_991 (dko_182 _) rfl
theorem d_Lw_law_994 : decode code 994 = .ok (.aload_n 2, 1) := dk_0 a_Lw_law_994 (dko_44 _)
theorem d_Lw_law_995 : decode code 995 = .ok (.invokevirtual 113, 3) := dk_U2 a_Lw_law_995 (dko_182 _) rfl
theorem d_Lw_law_998 : decode code 998 = .ok (.if_icmp .eq 210, 3) := dk_S2 a_Lw_law_998 (dko_159 _) (by decide +kernel)
set_option maxHeartbeats 4000000 in
set_option maxRecDepth 100000 in
theorem lk_20 {p : Program} {e : Env} {s : State} {m : MethodId} {below : List Frame} {meth : Method} {c : Code} (l : Launch) {b : Nat} {xs : Nat → Int32} {H : Heap} {locs : List Loc} {ls : Array Slot} {dC : Nat → ClassId} {dI : Nat → Nat → Nat} {cI cB cZ cJ : ClassId} {A : Nat → Prop} (hx : p.tables.exec = Jvm.exec) (hb : c.code = code) (hr : meth.sig.returnType = ret) (hml : c.maxLocals = 4) (hown : s.vm.findClass R_law = some m.cls) (hts : ∀ w ∈ (lw_w0 :: lw_gd), w.before #[Value.ref b] s = true) (hX : va_X b 6 xs s s.heap) (hbl : b < s.heap.size) (hlocks : meth.locks = false) (hK : KK dC dI cI cB cZ cJ s) (hA : ∀ q, s.heap.size ≤ q → A q) (hAf : ∀ q, A q → s.heap.size ≤ q) (hbA : ¬ A b) (oB : Nat) (oRu : Nat) (oM : Nat) (xb : List Value) (hb_run : fx xb 6 (.ref oRu)) (xn : List Value) (hru_state : fx xn 4 (.int 4)) (fm : List Value) (hm_state : fx fm 59 (.int 4)) (hP : va_P (dC, dI) classes [(oB, .inr (0, xb)), (oRu, .inr (10, xn)), (oM, .inr (12, fm))] H) (hD : va_D A [(oB, .inr (0, xb)), (oRu, .inr (10, xn)), (oM, .inr (12, fm))]) (hS : va_S A s.heap H locs) (hl : lv_has ls 4 [(3, .int 0), (2, .ref oM), (1, .ref oB), (0, .ref b)]) : W p l e room_1 s m #[Value.ref b] below meth c H locs 221 83122 (lw_Z below #[Value.ref b] s) (F0 m 990 ls []) := by
  refine lv_aload_n hx hb d_Lw_law_990 rfl (lv_at hl 2 rfl) ?_
  have hPc := hP.sub (ws' := [(oB, .inr (0, xb)), (oRu, .inr (10, xn))]) [0, 1] rfl
  have hDc := hD.sub (ws' := [(oB, .inr (0, xb)), (oRu, .inr (10, xn))]) [0, 1] (by decide) rfl
  have hFc := pu_free hS hA
  refine va_calli (va_runV (C := R_Bh) (As := []) (rest := []) ⟨hx, hb, hml, hown, hts⟩ (c_Bh_state l dC dI cI cB cZ cJ oB oRu xb hb_run xn hru_state H.size) (cwV 0 hts (tb_V mw_1513 mw_1514 mw_1515 mw_1 mw_1516) rfl rfl rfl ⟨rfl, by decide +kernel, by decide +kernel, by decide +kernel⟩ ⟨(Nat.le_of_ble_eq_true rfl), (Nat.le_of_ble_eq_true rfl)⟩) ⟨pw_blind, va_recv (q := (R_Bh, F_Bh, 16)) hK.1 hP (ci := 0) (q0 := 0) rfl rfl, pw_pre hPc hK hDc⟩ rfl rfl hl.1 rfl (lv_room (Nat.le_of_ble_eq_true rfl)) d_Lw_law_991 ⟨(Nat.le_of_ble_eq_true rfl), (Nat.le_of_ble_eq_true rfl)⟩) hS (fun q _ h => hFc q h) hFc (fun r u t H locs ht hvm hw hB hz1 hk1 hS => ?_)
  have hP := pu_kept hP hk1
  obtain rfl : r = 4 := hw
  refine lv_aload_n hx hb d_Lw_law_994 rfl (lv_at hl 1 rfl) ?_
  have hPc := hP.sub (ws' := [(oM, .inr (12, fm))]) [2] rfl
  have hDc := hD.sub (ws' := [(oM, .inr (12, fm))]) [2] (by decide) rfl
  have hFc := pu_free hS hA
  refine va_calli (va_runV (C := R_Mo) (As := []) (rest := [.int 4]) ⟨hx, hb, hml, hown, hts⟩ (c_Mo_state l dC dI cI cB cZ cJ oM fm hm_state H.size) (cwV 0 hts (tb_V mw_2683 mw_2684 mw_2685 mw_18 mw_2686) rfl rfl rfl ⟨rfl, by decide +kernel, by decide +kernel, by decide +kernel⟩ ⟨(Nat.le_of_ble_eq_true rfl), (Nat.le_of_ble_eq_true rfl)⟩) ⟨pw_blind, va_recv (q := (R_Mo, F_Mo, 87)) hK.1 hP (ci := 12) (q0 := 2) rfl rfl, pw_pre hPc hK hDc⟩ rfl rfl hl.1 rfl (lv_room (Nat.le_of_ble_eq_true rfl)) d_Lw_law_995 ⟨(Nat.le_of_ble_eq_true rfl), (Nat.le_of_ble_eq_true rfl)⟩) hS (fun q _ h => hFc q h) hFc (fun r u t H locs ht hvm hw hB hz1 hk1 hS => ?_)
  have hP := pu_kept hP hk1
  obtain rfl : r = 4 := hw
  refine lv_icmp_eq (tgt := 1208) hx hb d_Lw_law_998 (by decide) (fun _ => ?_) (fun h => absurd (by decide) h)
  refine lv_iinc (k := 0) (v := 6) hx hb d_Lw_law_1208 hl rfl (by first | rfl | decide | exact nI_1 i | exact pv_1 j hj) (by decide) rfl (fun ls hl => ?_)
  have hl : lv_has ls 4 [(3, .int 6), (2, .ref oM), (1, .ref oB), (0, .ref b)] := hl
  refine lv_goto (tgt := 18) hx hb d_Lw_law_1211 (by decide) ?_
  refine lv_iload_n hx hb d_Lw_law_18 rfl (lv_at hl 0 rfl) ?_
  refine lv_aload_n hx hb d_Lw_law_19 rfl (lv_at hl 3 rfl) ?_
  refine va_slen hx hb hX hbl hbA hS d_Lw_law_20 ?_
  refine lv_topi (fun x0 e0 => ?_)
  obtain rfl : x0 = 6 := e0.trans (by decide)
  refine lv_bipush (v := 6) hx hb d_Lw_law_21 (by decide) ?_
  refine lv_isub hx hb d_Lw_law_23 ?_
  refine lv_topi (fun x0 e0 => ?_)
  obtain rfl : x0 = 0 := e0.trans (by decide)
  refine lv_icmp_gt (tgt := 1214) hx hb d_Lw_law_24 (by decide) (fun _ => ?_) (fun h => absurd (by decide) h)
  refine lv_iconst (v := 1) hx hb d_Lw_law_1214 (by decide) ?_
  refine va_forget (fun q hq => hAf _ (hS.2.2 q hq)) ?_
  refine W.widen (k := 600000) (n := 7302250) (Nat.le_of_ble_eq_true rfl) (Nat.le_of_ble_eq_true rfl) ?_
  exact lw_ret hx hb hr hlocks d_Lw_law_1215
theorem d_Lw_law_1003 : decode code 1003 = .ok (.aload_n 1, 1) := dk_0 a_Lw_law_1003 (dko_43 _)
theorem d_Lw_law_1004 : decode code 1004 = .ok (.aload_n 0, 1) := dk_0 a_Lw_law_1004 (dko_42 _)
theorem d_Lw_law_1005 : decode code 1005 = .ok (.iload_n 3, 1) := dk_0 a_Lw_law_1005 (dko_29 _)
theorem d_Lw_law_1006 : decode code 1006 = .ok (.iconst 1, 1) := dk_0 a_Lw_law_1006 (dko_4 _)
theorem d_Lw_law_1007 : decode code 1007 = .ok (.iadd, 1) := dk_0 a_Lw_law_1007 (dko_96 _)
theorem d_Lw_law_1008 : decode code 1008 = .ok (.iaload, 1) := dk_0 a_Lw_law_1008 (dko_46 _)
theorem d_Lw_law_1009 : decode code 1009 = .ok (.invokevirtual 114, 3) := dk_U2 a_Lw_law_1009 (dko_182 _) rfl
theorem d_Lw_law_1012 : decode code 1012 = .ok (.aload_n 2, 1) := dk_0 a_Lw_law_1012 (dko_44 _)
theorem d_Lw_law_1013 : decode code 1013 = .ok (.aload_n 0, 1) := dk_0 a_Lw_law_1013 (dko_42 _)
theorem d_Lw_law_1014 : decode code 1014 = .ok (.iload_n 3, 1) := dk_0 a_Lw_law_1014 (dko_29 _)
theorem d_Lw_law_1015 : decode code 1015 = .ok (.iconst 1, 1) := dk_0 a_Lw_law_1015 (dko_4 _)
theorem d_Lw_law_1016 : decode code 1016 = .ok (.iadd, 1) := dk_0 a_Lw_law_1016 (dko_96 _)
theorem d_Lw_law_1017 : decode code 1017 = .ok (.iaload, 1) := dk_0 a_Lw_law_1017 (dko_46 _)
theorem d_Lw_law_1018 : decode code 1018 = .ok (.invokevirtual 118, 3) := dk_U2 a_Lw_law_1018 (dko_182 _) rfl
theorem d_Lw_law_1021 : decode code 1021 = .ok (.lcmp, 1) := dk_0 a_Lw_law_1021 (dko_148 _)
theorem d_Lw_law_1022 : decode code 1022 = .ok (.ifCond .eq 186, 3) := dk_S2 a_Lw_law_1022 (dko_153 _) (by decide +kernel)
set_option maxHeartbeats 4000000 in
set_option maxRecDepth 100000 in
theorem lk_21 {p : Program} {e : Env} {s : State} {m : MethodId} {below : List Frame} {meth : Method} {c : Code} (l : Launch) {b : Nat} {xs : Nat → Int32} {H : Heap} {locs : List Loc} {ls : Array Slot} {dC : Nat → ClassId} {dI : Nat → Nat → Nat} {cI cB cZ cJ : ClassId} {A : Nat → Prop} (hx : p.tables.exec = Jvm.exec) (hb : c.code = code) (hr : meth.sig.returnType = ret) (hml : c.maxLocals = 4) (hown : s.vm.findClass R_law = some m.cls) (hts : ∀ w ∈ (lw_w0 :: lw_gd), w.before #[Value.ref b] s = true) (hX : va_X b 6 xs s s.heap) (hbl : b < s.heap.size) (hlocks : meth.locks = false) (hK : KK dC dI cI cB cZ cJ s) (hA : ∀ q, s.heap.size ≤ q → A q) (hAf : ∀ q, A q → s.heap.size ≤ q) (hbA : ¬ A b) (oB : Nat) (oRu : Nat) (oG1 : Nat) (oM : Nat) (oT : Nat) (xb : List Value) (hb_run : fx xb 6 (.ref oRu)) (xn : List Value) (hru_program : fx xn 3 (.ref oG1)) (xg : List Value) (hxg_names : fx xg 10 (.int 0)) (fm : List Value) (hm_program : fx fm 2 (.ref oT)) (ft : List Value) (ht_nameCount : fx ft 32 (.int 0)) (hP : va_P (dC, dI) classes [(oB, .inr (0, xb)), (oRu, .inr (10, xn)), (oG1, .inr (8, xg)), (oM, .inr (12, fm)), (oT, .inr (13, ft))] H) (hD : va_D A [(oB, .inr (0, xb)), (oRu, .inr (10, xn)), (oG1, .inr (8, xg)), (oM, .inr (12, fm)), (oT, .inr (13, ft))]) (hS : va_S A s.heap H locs) (hl : lv_has ls 4 [(3, .int 0), (2, .ref oM), (1, .ref oB), (0, .ref b)]) : W p l e room_1 s m #[Value.ref b] below meth c H locs 221 83122 (lw_Z below #[Value.ref b] s) (F0 m 1003 ls []) := by
  refine lv_aload_n hx hb d_Lw_law_1003 rfl (lv_at hl 2 rfl) ?_
  refine lv_aload_n hx hb d_Lw_law_1004 rfl (lv_at hl 3 rfl) ?_
  refine lv_iload_n hx hb d_Lw_law_1005 rfl (lv_at hl 0 rfl) ?_
  refine lv_iconst (v := 1) hx hb d_Lw_law_1006 (by decide) ?_
  refine lv_iadd hx hb d_Lw_law_1007 ?_
  refine lv_topi (fun x0 e0 => ?_)
  obtain rfl : x0 = 1 := e0.trans (by decide)
  refine va_sld hx hb hX hbl hbA hS (vp_in_iff.mpr (by decide)) d_Lw_law_1008 ?_
  refine lv_topi (fun x0 e0 => ?_)
  obtain rfl : x0 = xs 1 := e0
  have hPc := hP.sub (ws' := [(oB, .inr (0, xb)), (oRu, .inr (10, xn)), (oG1, .inr (8, xg))]) [0, 1, 2] rfl
  have hDc := hD.sub (ws' := [(oB, .inr (0, xb)), (oRu, .inr (10, xn)), (oG1, .inr (8, xg))]) [0, 1, 2] (by decide) rfl
  have hFc := pu_free hS hA
  refine va_calll (va_runV (C := R_Bh) (As := [.int (xs 1)]) (rest := []) ⟨hx, hb, hml, hown, hts⟩ (c_Bh_value l dC dI cI cB cZ cJ (xs 1) oB oRu oG1 xb hb_run xn hru_program xg hxg_names H.size) (cwV 1 hts (tb_V mw_1517 mw_1518 mw_1519 mw_1 mw_1520) rfl rfl rfl ⟨rfl, by decide +kernel, by decide +kernel, by decide +kernel⟩ ⟨(Nat.le_of_ble_eq_true rfl), (Nat.le_of_ble_eq_true rfl)⟩) ⟨pw_blind, va_recv (q := (R_Bh, F_Bh, 16)) hK.1 hP (ci := 0) (q0 := 0) rfl rfl, pw_pre hPc hK hDc⟩ rfl rfl hl.1 rfl (lv_room (Nat.le_of_ble_eq_true rfl)) d_Lw_law_1009 ⟨(Nat.le_of_ble_eq_true rfl), (Nat.le_of_ble_eq_true rfl)⟩) hS (fun q _ h => hFc q h) hFc (fun r u t H locs ht hvm hw hB hz1 hk1 hS => ?_)
  have hP := pu_kept hP hk1
  obtain rfl : r = 0 := hw
  refine lv_aload_n hx hb d_Lw_law_1012 rfl (lv_at hl 1 rfl) ?_
  refine lv_aload_n hx hb d_Lw_law_1013 rfl (lv_at hl 3 rfl) ?_
  refine lv_iload_n hx hb d_Lw_law_1014 rfl (lv_at hl 0 rfl) ?_
  refine lv_iconst (v := 1) hx hb d_Lw_law_1015 (by decide) ?_
  refine lv_iadd hx hb d_Lw_law_1016 ?_
  refine lv_topi (fun x0 e0 => ?_)
  obtain rfl : x0 = 1 := e0.trans (by decide)
  refine va_sld hx hb hX hbl hbA hS (vp_in_iff.mpr (by decide)) d_Lw_law_1017 ?_
  refine lv_topi (fun x0 e0 => ?_)
  obtain rfl : x0 = xs 1 := e0
  have hPc := hP.sub (ws' := [(oM, .inr (12, fm)), (oT, .inr (13, ft))]) [3, 4] rfl
  have hDc := hD.sub (ws' := [(oM, .inr (12, fm)), (oT, .inr (13, ft))]) [3, 4] (by decide) rfl
  have hFc := pu_free hS hA
  refine va_calll (va_runV (C := R_Mo) (As := [.int (xs 1)]) (rest := [.long 0]) ⟨hx, hb, hml, hown, hts⟩ (c_Mo_value l dC dI cI cB cZ cJ (xs 1) oM oT fm hm_program ft ht_nameCount H.size) (cwV 1 hts (tb_V mw_2541 mw_2542 mw_2543 mw_18 mw_2544) rfl rfl rfl ⟨rfl, by decide +kernel, by decide +kernel, by decide +kernel⟩ ⟨(Nat.le_of_ble_eq_true rfl), (Nat.le_of_ble_eq_true rfl)⟩) ⟨pw_blind, va_recv (q := (R_Mo, F_Mo, 87)) hK.1 hP (ci := 12) (q0 := 3) rfl rfl, pw_pre hPc hK hDc⟩ rfl rfl hl.1 rfl (lv_room (Nat.le_of_ble_eq_true rfl)) d_Lw_law_1018 ⟨(Nat.le_of_ble_eq_true rfl), (Nat.le_of_ble_eq_true rfl)⟩) hS (fun q _ h => hFc q h) hFc (fun r u t H locs ht hvm hw hB hz1 hk1 hS => ?_)
  have hP := pu_kept hP hk1
  obtain rfl : r = 0 := hw
  refine W.lcmp hx hb d_Lw_law_1021 ?_
  refine lv_topi (fun x0 e0 => ?_)
  obtain rfl : x0 = 0 := e0.trans (by decide)
  refine lv_if_eq (tgt := 1208) hx hb d_Lw_law_1022 (by decide) (fun _ => ?_) (fun h => absurd (by decide) h)
  refine lv_iinc (k := 0) (v := 6) hx hb d_Lw_law_1208 hl rfl (by first | rfl | decide | exact nI_1 i | exact pv_1 j hj) (by decide) rfl (fun ls hl => ?_)
  have hl : lv_has ls 4 [(3, .int 6), (2, .ref oM), (1, .ref oB), (0, .ref b)] := hl
  refine lv_goto (tgt := 18) hx hb d_Lw_law_1211 (by decide) ?_
  refine lv_iload_n hx hb d_Lw_law_18 rfl (lv_at hl 0 rfl) ?_
  refine lv_aload_n hx hb d_Lw_law_19 rfl (lv_at hl 3 rfl) ?_
  refine va_slen hx hb hX hbl hbA hS d_Lw_law_20 ?_
  refine lv_topi (fun x0 e0 => ?_)
  obtain rfl : x0 = 6 := e0.trans (by decide)
  refine lv_bipush (v := 6) hx hb d_Lw_law_21 (by decide) ?_
  refine lv_isub hx hb d_Lw_law_23 ?_
  refine lv_topi (fun x0 e0 => ?_)
  obtain rfl : x0 = 0 := e0.trans (by decide)
  refine lv_icmp_gt (tgt := 1214) hx hb d_Lw_law_24 (by decide) (fun _ => ?_) (fun h => absurd (by decide) h)
  refine lv_iconst (v := 1) hx hb d_Lw_law_1214 (by decide) ?_
  refine va_forget (fun q hq => hAf _ (hS.2.2 q hq)) ?_
  refine W.widen (k := 600000) (n := 7302250) (Nat.le_of_ble_eq_true rfl) (Nat.le_of_ble_eq_true rfl) ?_
  exact lw_ret hx hb hr hlocks d_Lw_law_1215
theorem d_Lw_law_1027 : decode code 1027 = .ok (.aload_n 1, 1) := dk_0 a_Lw_law_1027 (dko_43 _)
theorem d_Lw_law_1028 : decode code 1028 = .ok (.aload_n 0, 1) := dk_0 a_Lw_law_1028 (dko_42 _)
theorem d_Lw_law_1029 : decode code 1029 = .ok (.iload_n 3, 1) := dk_0 a_Lw_law_1029 (dko_29 _)
theorem d_Lw_law_1030 : decode code 1030 = .ok (.iconst 1, 1) := dk_0 a_Lw_law_1030 (dko_4 _)
theorem d_Lw_law_1031 : decode code 1031 = .ok (.iadd, 1) := dk_0 a_Lw_law_1031 (dko_96 _)
theorem d_Lw_law_1032 : decode code 1032 = .ok (.iaload, 1) := dk_0 a_Lw_law_1032 (dko_46 _)
theorem d_Lw_law_1033 : decode code 1033 = .ok (.invokevirtual 119, 3) := dk_U2 a_Lw_law_1033 (dko_182 _) rfl
theorem d_Lw_law_1036 : decode code 1036 = .ok (.aload_n 2, 1) := dk_0 a_Lw_law_1036 (dko_44 _)
theorem d_Lw_law_1037 : decode code 1037 = .ok (.aload_n 0, 1) := dk_0 a_Lw_law_1037 (dko_42 _)
theorem d_Lw_law_1038 : decode code 1038 = .ok (.iload_n 3, 1) := dk_0 a_Lw_law_1038 (dko_29 _)
theorem d_Lw_law_1039 : decode code 1039 = .ok (.iconst 1, 1) := dk_0 a_Lw_law_1039 (dko_4 _)
theorem d_Lw_law_1040 : decode code 1040 = .ok (.iadd, 1) := dk_0 a_Lw_law_1040 (dko_96 _)
theorem d_Lw_law_1041 : decode code 1041 = .ok (.iaload, 1) := dk_0 a_Lw_law_1041 (dko_46 _)
theorem d_Lw_law_1042 : decode code 1042 = .ok (.invokevirtual 122, 3) := dk_U2 a_Lw_law_1042 (dko_182 _) rfl
theorem d_Lw_law_1045 : decode code 1045 = .ok (.if_icmp .eq 163, 3) := dk_S2 a_Lw_law_1045 (dko_159 _) (by decide +kernel)
set_option maxHeartbeats 4000000 in
set_option maxRecDepth 100000 in
theorem lk_22 {p : Program} {e : Env} {s : State} {m : MethodId} {below : List Frame} {meth : Method} {c : Code} (l : Launch) {b : Nat} {xs : Nat → Int32} {H : Heap} {locs : List Loc} {ls : Array Slot} {dC : Nat → ClassId} {dI : Nat → Nat → Nat} {cI cB cZ cJ : ClassId} {A : Nat → Prop} (hx : p.tables.exec = Jvm.exec) (hb : c.code = code) (hr : meth.sig.returnType = ret) (hml : c.maxLocals = 4) (hown : s.vm.findClass R_law = some m.cls) (hts : ∀ w ∈ (lw_w0 :: lw_gd), w.before #[Value.ref b] s = true) (hX : va_X b 6 xs s s.heap) (hbl : b < s.heap.size) (hlocks : meth.locks = false) (hK : KK dC dI cI cB cZ cJ s) (hA : ∀ q, s.heap.size ≤ q → A q) (hAf : ∀ q, A q → s.heap.size ≤ q) (hbA : ¬ A b) (oB : Nat) (oRu : Nat) (oM : Nat) (xb : List Value) (hb_run : fx xb 6 (.ref oRu)) (xn : List Value) (hru_state : fx xn 4 (.int 4)) (hru_skipped : fx xn 15 (.int 0)) (fm : List Value) (hm_state : fx fm 59 (.int 4)) (hm_left : fx fm 77 (.int 0)) (hP : va_P (dC, dI) classes [(oB, .inr (0, xb)), (oRu, .inr (10, xn)), (oM, .inr (12, fm))] H) (hD : va_D A [(oB, .inr (0, xb)), (oRu, .inr (10, xn)), (oM, .inr (12, fm))]) (hS : va_S A s.heap H locs) (hl : lv_has ls 4 [(3, .int 0), (2, .ref oM), (1, .ref oB), (0, .ref b)]) : W p l e room_1 s m #[Value.ref b] below meth c H locs 221 83122 (lw_Z below #[Value.ref b] s) (F0 m 1027 ls []) := by
  refine lv_aload_n hx hb d_Lw_law_1027 rfl (lv_at hl 2 rfl) ?_
  refine lv_aload_n hx hb d_Lw_law_1028 rfl (lv_at hl 3 rfl) ?_
  refine lv_iload_n hx hb d_Lw_law_1029 rfl (lv_at hl 0 rfl) ?_
  refine lv_iconst (v := 1) hx hb d_Lw_law_1030 (by decide) ?_
  refine lv_iadd hx hb d_Lw_law_1031 ?_
  refine lv_topi (fun x0 e0 => ?_)
  obtain rfl : x0 = 1 := e0.trans (by decide)
  refine va_sld hx hb hX hbl hbA hS (vp_in_iff.mpr (by decide)) d_Lw_law_1032 ?_
  refine lv_topi (fun x0 e0 => ?_)
  obtain rfl : x0 = xs 1 := e0
  have hPc := hP.sub (ws' := [(oB, .inr (0, xb)), (oRu, .inr (10, xn))]) [0, 1] rfl
  have hDc := hD.sub (ws' := [(oB, .inr (0, xb)), (oRu, .inr (10, xn))]) [0, 1] (by decide) rfl
  have hFc := va_free (wc := [(oB, .inr (0, xb)), (oRu, .inr (10, xn))]) hD hS hA [0, 1] rfl
  refine va_calli (va_runV (C := R_Bh) (As := [.int (xs 1)]) (rest := []) ⟨hx, hb, hml, hown, hts⟩ (c_Bh_still l dC dI cI cB cZ cJ (xs 1) oB oRu xb hb_run xn hru_state hru_skipped H.size) (cwV 1 hts (tb_V mw_1522 mw_1523 mw_1524 mw_1 mw_1525) rfl rfl rfl ⟨rfl, by decide +kernel, by decide +kernel, by decide +kernel⟩ ⟨(Nat.le_of_ble_eq_true rfl), (Nat.le_of_ble_eq_true rfl)⟩) ⟨pw_blind, va_recv (q := (R_Bh, F_Bh, 16)) hK.1 hP (ci := 0) (q0 := 0) rfl rfl, pw_pre hPc hK hDc⟩ rfl rfl hl.1 rfl (lv_room (Nat.le_of_ble_eq_true rfl)) d_Lw_law_1033 ⟨(Nat.le_of_ble_eq_true rfl), (Nat.le_of_ble_eq_true rfl)⟩) hS (fun q _ h => hFc q h) hFc (fun r u t H locs ht hvm hw hB hz1 hk1 hS => ?_)
  obtain ⟨hP, hD⟩ := va_join (wr := [(oM, .inr (12, fm))]) (w1 := []) hP hD [0, 1] [2] rfl rfl (by decide) (by decide) hk1 hFc wn_P wn_D
  have hP : va_P (dC, dI) classes [(oM, .inr (12, fm))] H := hP
  have hD : va_D A [(oM, .inr (12, fm))] := hD
  obtain rfl : r = (-1) := hw
  refine lv_aload_n hx hb d_Lw_law_1036 rfl (lv_at hl 1 rfl) ?_
  refine lv_aload_n hx hb d_Lw_law_1037 rfl (lv_at hl 3 rfl) ?_
  refine lv_iload_n hx hb d_Lw_law_1038 rfl (lv_at hl 0 rfl) ?_
  refine lv_iconst (v := 1) hx hb d_Lw_law_1039 (by decide) ?_
  refine lv_iadd hx hb d_Lw_law_1040 ?_
  refine lv_topi (fun x0 e0 => ?_)
  obtain rfl : x0 = 1 := e0.trans (by decide)
  refine va_sld hx hb hX hbl hbA hS (vp_in_iff.mpr (by decide)) d_Lw_law_1041 ?_
  refine lv_topi (fun x0 e0 => ?_)
  obtain rfl : x0 = xs 1 := e0
  have hPc := hP.sub (ws' := [(oM, .inr (12, fm))]) [0] rfl
  have hDc := hD.sub (ws' := [(oM, .inr (12, fm))]) [0] (by decide) rfl
  have hFc := va_free (wc := [(oM, .inr (12, fm))]) hD hS hA [0] rfl
  refine va_calli (va_runV (C := R_Mo) (As := [.int (xs 1)]) (rest := [.int (-1)]) ⟨hx, hb, hml, hown, hts⟩ (c_Mo_still l dC dI cI cB cZ cJ (xs 1) oM fm hm_state hm_left H.size) (cwV 1 hts (tb_V mw_2687 mw_2688 mw_2689 mw_18 mw_2690) rfl rfl rfl ⟨rfl, by decide +kernel, by decide +kernel, by decide +kernel⟩ ⟨(Nat.le_of_ble_eq_true rfl), (Nat.le_of_ble_eq_true rfl)⟩) ⟨pw_blind, va_recv (q := (R_Mo, F_Mo, 87)) hK.1 hP (ci := 12) (q0 := 0) rfl rfl, pw_pre hPc hK hDc⟩ rfl rfl hl.1 rfl (lv_room (Nat.le_of_ble_eq_true rfl)) d_Lw_law_1042 ⟨(Nat.le_of_ble_eq_true rfl), (Nat.le_of_ble_eq_true rfl)⟩) hS (fun q _ h => hFc q h) hFc (fun r u t H locs ht hvm hw hB hz1 hk1 hS => ?_)
  obtain ⟨hP, hD⟩ := va_join (wr := []) (w1 := []) hP hD [0] [] rfl rfl (by decide) (by decide) hk1 hFc wn_P wn_D
  have hP : va_P (dC, dI) classes [] H := hP
  have hD : va_D A [] := hD
  obtain rfl : r = (-1) := hw
  refine lv_icmp_eq (tgt := 1208) hx hb d_Lw_law_1045 (by decide) (fun _ => ?_) (fun h => absurd (by decide) h)
  refine lv_iinc (k := 0) (v := 6) hx hb d_Lw_law_1208 hl rfl (by first | rfl | decide | exact nI_1 i | exact pv_1 j hj) (by decide) rfl (fun ls hl => ?_)
  have hl : lv_has ls 4 [(3, .int 6), (2, .ref oM), (1, .ref oB), (0, .ref b)] := hl
  refine lv_goto (tgt := 18) hx hb d_Lw_law_1211 (by decide) ?_
  refine lv_iload_n hx hb d_Lw_law_18 rfl (lv_at hl 0 rfl) ?_
  refine lv_aload_n hx hb d_Lw_law_19 rfl (lv_at hl 3 rfl) ?_
  refine va_slen hx hb hX hbl hbA hS d_Lw_law_20 ?_
  refine lv_topi (fun x0 e0 => ?_)
  obtain rfl : x0 = 6 := e0.trans (by decide)
  refine lv_bipush (v := 6) hx hb d_Lw_law_21 (by decide) ?_
  refine lv_isub hx hb d_Lw_law_23 ?_
  refine lv_topi (fun x0 e0 => ?_)
  obtain rfl : x0 = 0 := e0.trans (by decide)
  refine lv_icmp_gt (tgt := 1214) hx hb d_Lw_law_24 (by decide) (fun _ => ?_) (fun h => absurd (by decide) h)
  refine lv_iconst (v := 1) hx hb d_Lw_law_1214 (by decide) ?_
  refine va_forget (fun q hq => hAf _ (hS.2.2 q hq)) ?_
  refine W.widen (k := 600000) (n := 7302250) (Nat.le_of_ble_eq_true rfl) (Nat.le_of_ble_eq_true rfl) ?_
  exact lw_ret hx hb hr hlocks d_Lw_law_1215
theorem d_Lw_law_1050 : decode code 1050 = .ok (.aload_n 1, 1) := dk_0 a_Lw_law_1050 (dko_43 _)
theorem d_Lw_law_1051 : decode code 1051 = .ok (.aload_n 0, 1) := dk_0 a_Lw_law_1051 (dko_42 _)
theorem d_Lw_law_1052 : decode code 1052 = .ok (.iload_n 3, 1) := dk_0 a_Lw_law_1052 (dko_29 _)
theorem d_Lw_law_1053 : decode code 1053 = .ok (.iconst 1, 1) := dk_0 a_Lw_law_1053 (dko_4 _)
theorem d_Lw_law_1054 : decode code 1054 = .ok (.iadd, 1) := dk_0 a_Lw_law_1054 (dko_96 _)
theorem d_Lw_law_1055 : decode code 1055 = .ok (.iaload, 1) := dk_0 a_Lw_law_1055 (dko_46 _)
theorem d_Lw_law_1056 : decode code 1056 = .ok (.aload_n 0, 1) := dk_0 a_Lw_law_1056 (dko_42 _)
theorem d_Lw_law_1057 : decode code 1057 = .ok (.iload_n 3, 1) := dk_0 a_Lw_law_1057 (dko_29 _)
theorem d_Lw_law_1058 : decode code 1058 = .ok (.iconst 2, 1) := dk_0 a_Lw_law_1058 (dko_5 _)
theorem d_Lw_law_1059 : decode code 1059 = .ok (.iadd, 1) := dk_0 a_Lw_law_1059 (dko_96 _)
theorem d_Lw_law_1060 : decode code 1060 = .ok (.iaload, 1) := dk_0 a_Lw_law_1060 (dko_46 _)
theorem d_Lw_law_1061 : decode code 1061 = .ok (.invokevirtual 123, 3) := dk_U2 a_Lw_law_1061 (dko_182 _) rfl
theorem d_Lw_law_1064 : decode code 1064 = .ok (.aload_n 2, 1) := dk_0 a_Lw_law_1064 (dko_44 _)
theorem d_Lw_law_1065 : decode code 1065 = .ok (.aload_n 0, 1) := dk_0 a_Lw_law_1065 (dko_42 _)
theorem d_Lw_law_1066 : decode code 1066 = .ok (.iload_n 3, 1) := dk_0 a_Lw_law_1066 (dko_29 _)
theorem d_Lw_law_1067 : decode code 1067 = .ok (.iconst 1, 1) := dk_0 a_Lw_law_1067 (dko_4 _)
theorem d_Lw_law_1068 : decode code 1068 = .ok (.iadd, 1) := dk_0 a_Lw_law_1068 (dko_96 _)
theorem d_Lw_law_1069 : decode code 1069 = .ok (.iaload, 1) := dk_0 a_Lw_law_1069 (dko_46 _)
theorem d_Lw_law_1070 : decode code 1070 = .ok (.aload_n 0, 1) := dk_0 a_Lw_law_1070 (dko_42 _)
theorem d_Lw_law_1071 : decode code 1071 = .ok (.iload_n 3, 1) := dk_0 a_Lw_law_1071 (dko_29 _)
theorem d_Lw_law_1072 : decode code 1072 = .ok (.iconst 2, 1) := dk_0 a_Lw_law_1072 (dko_5 _)
theorem d_Lw_law_1073 : decode code 1073 = .ok (.iadd, 1) := dk_0 a_Lw_law_1073 (dko_96 _)
theorem d_Lw_law_1074 : decode code 1074 = .ok (.iaload, 1) := dk_0 a_Lw_law_1074 (dko_46 _)
theorem d_Lw_law_1075 : decode code 1075 = .ok (.invokevirtual 126, 3) := dk_U2 a_Lw_law_1075 (dko_182 _) rfl
theorem d_Lw_law_1078 : decode code 1078 = .ok (.if_icmp .eq 130, 3) := dk_S2 a_Lw_law_1078 (dko_159 _) (by decide +kernel)
set_option maxHeartbeats 4000000 in
set_option maxRecDepth 100000 in
theorem lk_23 {p : Program} {e : Env} {s : State} {m : MethodId} {below : List Frame} {meth : Method} {c : Code} (l : Launch) {b : Nat} {xs : Nat → Int32} {H : Heap} {locs : List Loc} {ls : Array Slot} {dC : Nat → ClassId} {dI : Nat → Nat → Nat} {cI cB cZ cJ : ClassId} {A : Nat → Prop} (hx : p.tables.exec = Jvm.exec) (hb : c.code = code) (hr : meth.sig.returnType = ret) (hml : c.maxLocals = 4) (hown : s.vm.findClass R_law = some m.cls) (hts : ∀ w ∈ (lw_w0 :: lw_gd), w.before #[Value.ref b] s = true) (hX : va_X b 6 xs s s.heap) (hbl : b < s.heap.size) (hlocks : meth.locks = false) (hK : KK dC dI cI cB cZ cJ s) (hA : ∀ q, s.heap.size ≤ q → A q) (hAf : ∀ q, A q → s.heap.size ≤ q) (hbA : ¬ A b) (oB : Nat) (oAl : Nat) (oM : Nat) (xb : List Value) (hb_alarms : fx xb 1 (.ref oAl)) (xa : List Value) (hal_count : fx xa 0 (.int 0)) (fm : List Value) (hm_alarms : fx fm 79 (.int 0)) (hP : va_P (dC, dI) classes [(oB, .inr (0, xb)), (oAl, .inr (2, xa)), (oM, .inr (12, fm))] H) (hD : va_D A [(oB, .inr (0, xb)), (oAl, .inr (2, xa)), (oM, .inr (12, fm))]) (hS : va_S A s.heap H locs) (hl : lv_has ls 4 [(3, .int 0), (2, .ref oM), (1, .ref oB), (0, .ref b)]) : W p l e room_1 s m #[Value.ref b] below meth c H locs 221 83122 (lw_Z below #[Value.ref b] s) (F0 m 1050 ls []) := by
  refine lv_aload_n hx hb d_Lw_law_1050 rfl (lv_at hl 2 rfl) ?_
  refine lv_aload_n hx hb d_Lw_law_1051 rfl (lv_at hl 3 rfl) ?_
  refine lv_iload_n hx hb d_Lw_law_1052 rfl (lv_at hl 0 rfl) ?_
  refine lv_iconst (v := 1) hx hb d_Lw_law_1053 (by decide) ?_
  refine lv_iadd hx hb d_Lw_law_1054 ?_
  refine lv_topi (fun x0 e0 => ?_)
  obtain rfl : x0 = 1 := e0.trans (by decide)
  refine va_sld hx hb hX hbl hbA hS (vp_in_iff.mpr (by decide)) d_Lw_law_1055 ?_
  refine lv_topi (fun x0 e0 => ?_)
  obtain rfl : x0 = xs 1 := e0
  refine lv_aload_n hx hb d_Lw_law_1056 rfl (lv_at hl 3 rfl) ?_
  refine lv_iload_n hx hb d_Lw_law_1057 rfl (lv_at hl 0 rfl) ?_
  refine lv_iconst (v := 2) hx hb d_Lw_law_1058 (by decide) ?_
  refine lv_iadd hx hb d_Lw_law_1059 ?_
  refine lv_topi (fun x0 e0 => ?_)
  obtain rfl : x0 = 2 := e0.trans (by decide)
  refine va_sld hx hb hX hbl hbA hS (vp_in_iff.mpr (by decide)) d_Lw_law_1060 ?_
  refine lv_topi (fun x0 e0 => ?_)
  obtain rfl : x0 = xs 2 := e0
  have hPc := hP.sub (ws' := [(oB, .inr (0, xb)), (oAl, .inr (2, xa))]) [0, 1] rfl
  have hDc := hD.sub (ws' := [(oB, .inr (0, xb)), (oAl, .inr (2, xa))]) [0, 1] (by decide) rfl
  have hFc := pu_free hS hA
  refine va_calli (va_runV (C := R_Bh) (As := [.int (xs 1), .int (xs 2)]) (rest := []) ⟨hx, hb, hml, hown, hts⟩ (c_Bh_alarm l dC dI cI cB cZ cJ (xs 1) (xs 2) oB oAl xb hb_alarms xa hal_count H.size) (cwV 2 hts (tb_V mw_1531 mw_1532 mw_1533 mw_1 mw_1534) rfl rfl rfl ⟨rfl, by decide +kernel, by decide +kernel, by decide +kernel⟩ ⟨(Nat.le_of_ble_eq_true rfl), (Nat.le_of_ble_eq_true rfl)⟩) ⟨pw_blind, va_recv (q := (R_Bh, F_Bh, 16)) hK.1 hP (ci := 0) (q0 := 0) rfl rfl, pw_pre hPc hK hDc⟩ rfl rfl hl.1 rfl (lv_room (Nat.le_of_ble_eq_true rfl)) d_Lw_law_1061 ⟨(Nat.le_of_ble_eq_true rfl), (Nat.le_of_ble_eq_true rfl)⟩) hS (fun q _ h => hFc q h) hFc (fun r u t H locs ht hvm hw hB hz1 hk1 hS => ?_)
  have hP := pu_kept hP hk1
  obtain rfl : r = (-1) := hw
  refine lv_aload_n hx hb d_Lw_law_1064 rfl (lv_at hl 1 rfl) ?_
  refine lv_aload_n hx hb d_Lw_law_1065 rfl (lv_at hl 3 rfl) ?_
  refine lv_iload_n hx hb d_Lw_law_1066 rfl (lv_at hl 0 rfl) ?_
  refine lv_iconst (v := 1) hx hb d_Lw_law_1067 (by decide) ?_
  refine lv_iadd hx hb d_Lw_law_1068 ?_
  refine lv_topi (fun x0 e0 => ?_)
  obtain rfl : x0 = 1 := e0.trans (by decide)
  refine va_sld hx hb hX hbl hbA hS (vp_in_iff.mpr (by decide)) d_Lw_law_1069 ?_
  refine lv_topi (fun x0 e0 => ?_)
  obtain rfl : x0 = xs 1 := e0
  refine lv_aload_n hx hb d_Lw_law_1070 rfl (lv_at hl 3 rfl) ?_
  refine lv_iload_n hx hb d_Lw_law_1071 rfl (lv_at hl 0 rfl) ?_
  refine lv_iconst (v := 2) hx hb d_Lw_law_1072 (by decide) ?_
  refine lv_iadd hx hb d_Lw_law_1073 ?_
  refine lv_topi (fun x0 e0 => ?_)
  obtain rfl : x0 = 2 := e0.trans (by decide)
  refine va_sld hx hb hX hbl hbA hS (vp_in_iff.mpr (by decide)) d_Lw_law_1074 ?_
  refine lv_topi (fun x0 e0 => ?_)
  obtain rfl : x0 = xs 2 := e0
  have hPc := hP.sub (ws' := [(oM, .inr (12, fm))]) [2] rfl
  have hDc := hD.sub (ws' := [(oM, .inr (12, fm))]) [2] (by decide) rfl
  have hFc := pu_free hS hA
  refine va_calli (va_runV (C := R_Mo) (As := [.int (xs 1), .int (xs 2)]) (rest := [.int (-1)]) ⟨hx, hb, hml, hown, hts⟩ (c_Mo_alarm l dC dI cI cB cZ cJ (xs 1) (xs 2) oM fm hm_alarms H.size) (cwV 2 hts (tb_V mw_2691 mw_2692 mw_2693 mw_18 mw_2694) rfl rfl rfl ⟨rfl, by decide +kernel, by decide +kernel, by decide +kernel⟩ ⟨(Nat.le_of_ble_eq_true rfl), (Nat.le_of_ble_eq_true rfl)⟩) ⟨pw_blind, va_recv (q := (R_Mo, F_Mo, 87)) hK.1 hP (ci := 12) (q0 := 2) rfl rfl, pw_pre hPc hK hDc⟩ rfl rfl hl.1 rfl (lv_room (Nat.le_of_ble_eq_true rfl)) d_Lw_law_1075 ⟨(Nat.le_of_ble_eq_true rfl), (Nat.le_of_ble_eq_true rfl)⟩) hS (fun q _ h => hFc q h) hFc (fun r u t H locs ht hvm hw hB hz1 hk1 hS => ?_)
  have hP := pu_kept hP hk1
  obtain rfl : r = (-1) := hw
  refine lv_icmp_eq (tgt := 1208) hx hb d_Lw_law_1078 (by decide) (fun _ => ?_) (fun h => absurd (by decide) h)
  refine lv_iinc (k := 0) (v := 6) hx hb d_Lw_law_1208 hl rfl (by first | rfl | decide | exact nI_1 i | exact pv_1 j hj) (by decide) rfl (fun ls hl => ?_)
  have hl : lv_has ls 4 [(3, .int 6), (2, .ref oM), (1, .ref oB), (0, .ref b)] := hl
  refine lv_goto (tgt := 18) hx hb d_Lw_law_1211 (by decide) ?_
  refine lv_iload_n hx hb d_Lw_law_18 rfl (lv_at hl 0 rfl) ?_
  refine lv_aload_n hx hb d_Lw_law_19 rfl (lv_at hl 3 rfl) ?_
  refine va_slen hx hb hX hbl hbA hS d_Lw_law_20 ?_
  refine lv_topi (fun x0 e0 => ?_)
  obtain rfl : x0 = 6 := e0.trans (by decide)
  refine lv_bipush (v := 6) hx hb d_Lw_law_21 (by decide) ?_
  refine lv_isub hx hb d_Lw_law_23 ?_
  refine lv_topi (fun x0 e0 => ?_)
  obtain rfl : x0 = 0 := e0.trans (by decide)
  refine lv_icmp_gt (tgt := 1214) hx hb d_Lw_law_24 (by decide) (fun _ => ?_) (fun h => absurd (by decide) h)
  refine lv_iconst (v := 1) hx hb d_Lw_law_1214 (by decide) ?_
  refine va_forget (fun q hq => hAf _ (hS.2.2 q hq)) ?_
  refine W.widen (k := 600000) (n := 7302250) (Nat.le_of_ble_eq_true rfl) (Nat.le_of_ble_eq_true rfl) ?_
  exact lw_ret hx hb hr hlocks d_Lw_law_1215
theorem d_Lw_law_1083 : decode code 1083 = .ok (.aload_n 1, 1) := dk_0 a_Lw_law_1083 (dko_43 _)
theorem d_Lw_law_1084 : decode code 1084 = .ok (.aload_n 0, 1) := dk_0 a_Lw_law_1084 (dko_42 _)
theorem d_Lw_law_1085 : decode code 1085 = .ok (.iload_n 3, 1) := dk_0 a_Lw_law_1085 (dko_29 _)
theorem d_Lw_law_1086 : decode code 1086 = .ok (.iconst 1, 1) := dk_0 a_Lw_law_1086 (dko_4 _)
theorem d_Lw_law_1087 : decode code 1087 = .ok (.iadd, 1) := dk_0 a_Lw_law_1087 (dko_96 _)
theorem d_Lw_law_1088 : decode code 1088 = .ok (.iaload, 1) := dk_0 a_Lw_law_1088 (dko_46 _)
theorem d_Lw_law_1089 : decode code 1089 = .ok (.aload_n 0, 1) := dk_0 a_Lw_law_1089 (dko_42 _)
theorem d_Lw_law_1090 : decode code 1090 = .ok (.iload_n 3, 1) := dk_0 a_Lw_law_1090 (dko_29 _)
theorem d_Lw_law_1091 : decode code 1091 = .ok (.iconst 2, 1) := dk_0 a_Lw_law_1091 (dko_5 _)
theorem d_Lw_law_1092 : decode code 1092 = .ok (.iadd, 1) := dk_0 a_Lw_law_1092 (dko_96 _)
theorem d_Lw_law_1093 : decode code 1093 = .ok (.iaload, 1) := dk_0 a_Lw_law_1093 (dko_46 _)
theorem d_Lw_law_1094 : decode code 1094 = .ok (.invokevirtual 127, 3) := dk_U2 a_Lw_law_1094 (dko_182 _) rfl
theorem d_Lw_law_1097 : decode code 1097 = .ok (.aload_n 2, 1) := dk_0 a_Lw_law_1097 (dko_44 _)
theorem d_Lw_law_1098 : decode code 1098 = .ok (.aload_n 0, 1) := dk_0 a_Lw_law_1098 (dko_42 _)
theorem d_Lw_law_1099 : decode code 1099 = .ok (.iload_n 3, 1) := dk_0 a_Lw_law_1099 (dko_29 _)
theorem d_Lw_law_1100 : decode code 1100 = .ok (.iconst 1, 1) := dk_0 a_Lw_law_1100 (dko_4 _)
theorem d_Lw_law_1101 : decode code 1101 = .ok (.iadd, 1) := dk_0 a_Lw_law_1101 (dko_96 _)
theorem d_Lw_law_1102 : decode code 1102 = .ok (.iaload, 1) := dk_0 a_Lw_law_1102 (dko_46 _)
theorem d_Lw_law_1103 : decode code 1103 = .ok (.aload_n 0, 1) := dk_0 a_Lw_law_1103 (dko_42 _)
theorem d_Lw_law_1104 : decode code 1104 = .ok (.iload_n 3, 1) := dk_0 a_Lw_law_1104 (dko_29 _)
theorem d_Lw_law_1105 : decode code 1105 = .ok (.iconst 2, 1) := dk_0 a_Lw_law_1105 (dko_5 _)
theorem d_Lw_law_1106 : decode code 1106 = .ok (.iadd, 1) := dk_0 a_Lw_law_1106 (dko_96 _)
theorem d_Lw_law_1107 : decode code 1107 = .ok (.iaload, 1) := dk_0 a_Lw_law_1107 (dko_46 _)
theorem d_Lw_law_1108 : decode code 1108 = .ok (.invokevirtual 130, 3) := dk_U2 a_Lw_law_1108 (dko_182 _) rfl
theorem d_Lw_law_1111 : decode code 1111 = .ok (.if_icmp .eq 97, 3) := dk_S2 a_Lw_law_1111 (dko_159 _) (by decide +kernel)
set_option maxHeartbeats 4000000 in
set_option maxRecDepth 100000 in
theorem lk_24 {p : Program} {e : Env} {s : State} {m : MethodId} {below : List Frame} {meth : Method} {c : Code} (l : Launch) {b : Nat} {xs : Nat → Int32} {H : Heap} {locs : List Loc} {ls : Array Slot} {dC : Nat → ClassId} {dI : Nat → Nat → Nat} {cI cB cZ cJ : ClassId} {A : Nat → Prop} (hx : p.tables.exec = Jvm.exec) (hb : c.code = code) (hr : meth.sig.returnType = ret) (hml : c.maxLocals = 4) (hown : s.vm.findClass R_law = some m.cls) (hts : ∀ w ∈ (lw_w0 :: lw_gd), w.before #[Value.ref b] s = true) (hX : va_X b 6 xs s s.heap) (hbl : b < s.heap.size) (hlocks : meth.locks = false) (hK : KK dC dI cI cB cZ cJ s) (hA : ∀ q, s.heap.size ≤ q → A q) (hAf : ∀ q, A q → s.heap.size ≤ q) (hbA : ¬ A b) (oB : Nat) (oWa : Nat) (oM : Nat) (xb : List Value) (hb_ways : fx xb 3 (.ref oWa)) (xw : List Value) (hwa_count : fx xw 1 (.int 0)) (fm : List Value) (hm_ways : fx fm 26 (.int 0)) (hP : va_P (dC, dI) classes [(oB, .inr (0, xb)), (oWa, .inr (5, xw)), (oM, .inr (12, fm))] H) (hD : va_D A [(oB, .inr (0, xb)), (oWa, .inr (5, xw)), (oM, .inr (12, fm))]) (hS : va_S A s.heap H locs) (hl : lv_has ls 4 [(3, .int 0), (2, .ref oM), (1, .ref oB), (0, .ref b)]) : W p l e room_1 s m #[Value.ref b] below meth c H locs 221 83122 (lw_Z below #[Value.ref b] s) (F0 m 1083 ls []) := by
  refine lv_aload_n hx hb d_Lw_law_1083 rfl (lv_at hl 2 rfl) ?_
  refine lv_aload_n hx hb d_Lw_law_1084 rfl (lv_at hl 3 rfl) ?_
  refine lv_iload_n hx hb d_Lw_law_1085 rfl (lv_at hl 0 rfl) ?_
  refine lv_iconst (v := 1) hx hb d_Lw_law_1086 (by decide) ?_
  refine lv_iadd hx hb d_Lw_law_1087 ?_
  refine lv_topi (fun x0 e0 => ?_)
  obtain rfl : x0 = 1 := e0.trans (by decide)
  refine va_sld hx hb hX hbl hbA hS (vp_in_iff.mpr (by decide)) d_Lw_law_1088 ?_
  refine lv_topi (fun x0 e0 => ?_)
  obtain rfl : x0 = xs 1 := e0
  refine lv_aload_n hx hb d_Lw_law_1089 rfl (lv_at hl 3 rfl) ?_
  refine lv_iload_n hx hb d_Lw_law_1090 rfl (lv_at hl 0 rfl) ?_
  refine lv_iconst (v := 2) hx hb d_Lw_law_1091 (by decide) ?_
  refine lv_iadd hx hb d_Lw_law_1092 ?_
  refine lv_topi (fun x0 e0 => ?_)
  obtain rfl : x0 = 2 := e0.trans (by decide)
  refine va_sld hx hb hX hbl hbA hS (vp_in_iff.mpr (by decide)) d_Lw_law_1093 ?_
  refine lv_topi (fun x0 e0 => ?_)
  obtain rfl : x0 = xs 2 := e0
  have hPc := hP.sub (ws' := [(oB, .inr (0, xb)), (oWa, .inr (5, xw))]) [0, 1] rfl
  have hDc := hD.sub (ws' := [(oB, .inr (0, xb)), (oWa, .inr (5, xw))]) [0, 1] (by decide) rfl
  have hFc := pu_free hS hA
  refine va_calli (va_runV (C := R_Bh) (As := [.int (xs 1), .int (xs 2)]) (rest := []) ⟨hx, hb, hml, hown, hts⟩ (c_Bh_way l dC dI cI cB cZ cJ (xs 1) (xs 2) oB oWa xb hb_ways xw hwa_count H.size) (cwV 2 hts (tb_V mw_1539 mw_1540 mw_1541 mw_1 mw_1542) rfl rfl rfl ⟨rfl, by decide +kernel, by decide +kernel, by decide +kernel⟩ ⟨(Nat.le_of_ble_eq_true rfl), (Nat.le_of_ble_eq_true rfl)⟩) ⟨pw_blind, va_recv (q := (R_Bh, F_Bh, 16)) hK.1 hP (ci := 0) (q0 := 0) rfl rfl, pw_pre hPc hK hDc⟩ rfl rfl hl.1 rfl (lv_room (Nat.le_of_ble_eq_true rfl)) d_Lw_law_1094 ⟨(Nat.le_of_ble_eq_true rfl), (Nat.le_of_ble_eq_true rfl)⟩) hS (fun q _ h => hFc q h) hFc (fun r u t H locs ht hvm hw hB hz1 hk1 hS => ?_)
  have hP := pu_kept hP hk1
  obtain rfl : r = (-1) := hw
  refine lv_aload_n hx hb d_Lw_law_1097 rfl (lv_at hl 1 rfl) ?_
  refine lv_aload_n hx hb d_Lw_law_1098 rfl (lv_at hl 3 rfl) ?_
  refine lv_iload_n hx hb d_Lw_law_1099 rfl (lv_at hl 0 rfl) ?_
  refine lv_iconst (v := 1) hx hb d_Lw_law_1100 (by decide) ?_
  refine lv_iadd hx hb d_Lw_law_1101 ?_
  refine lv_topi (fun x0 e0 => ?_)
  obtain rfl : x0 = 1 := e0.trans (by decide)
  refine va_sld hx hb hX hbl hbA hS (vp_in_iff.mpr (by decide)) d_Lw_law_1102 ?_
  refine lv_topi (fun x0 e0 => ?_)
  obtain rfl : x0 = xs 1 := e0
  refine lv_aload_n hx hb d_Lw_law_1103 rfl (lv_at hl 3 rfl) ?_
  refine lv_iload_n hx hb d_Lw_law_1104 rfl (lv_at hl 0 rfl) ?_
  refine lv_iconst (v := 2) hx hb d_Lw_law_1105 (by decide) ?_
  refine lv_iadd hx hb d_Lw_law_1106 ?_
  refine lv_topi (fun x0 e0 => ?_)
  obtain rfl : x0 = 2 := e0.trans (by decide)
  refine va_sld hx hb hX hbl hbA hS (vp_in_iff.mpr (by decide)) d_Lw_law_1107 ?_
  refine lv_topi (fun x0 e0 => ?_)
  obtain rfl : x0 = xs 2 := e0
  have hPc := hP.sub (ws' := [(oM, .inr (12, fm))]) [2] rfl
  have hDc := hD.sub (ws' := [(oM, .inr (12, fm))]) [2] (by decide) rfl
  have hFc := pu_free hS hA
  refine va_calli (va_runV (C := R_Mo) (As := [.int (xs 1), .int (xs 2)]) (rest := [.int (-1)]) ⟨hx, hb, hml, hown, hts⟩ (c_Mo_way l dC dI cI cB cZ cJ (xs 1) (xs 2) oM fm hm_ways H.size) (cwV 2 hts (tb_V mw_2404 mw_2405 mw_2406 mw_18 mw_2407) rfl rfl rfl ⟨rfl, by decide +kernel, by decide +kernel, by decide +kernel⟩ ⟨(Nat.le_of_ble_eq_true rfl), (Nat.le_of_ble_eq_true rfl)⟩) ⟨pw_blind, va_recv (q := (R_Mo, F_Mo, 87)) hK.1 hP (ci := 12) (q0 := 2) rfl rfl, pw_pre hPc hK hDc⟩ rfl rfl hl.1 rfl (lv_room (Nat.le_of_ble_eq_true rfl)) d_Lw_law_1108 ⟨(Nat.le_of_ble_eq_true rfl), (Nat.le_of_ble_eq_true rfl)⟩) hS (fun q _ h => hFc q h) hFc (fun r u t H locs ht hvm hw hB hz1 hk1 hS => ?_)
  have hP := pu_kept hP hk1
  obtain rfl : r = (-1) := hw
  refine lv_icmp_eq (tgt := 1208) hx hb d_Lw_law_1111 (by decide) (fun _ => ?_) (fun h => absurd (by decide) h)
  refine lv_iinc (k := 0) (v := 6) hx hb d_Lw_law_1208 hl rfl (by first | rfl | decide | exact nI_1 i | exact pv_1 j hj) (by decide) rfl (fun ls hl => ?_)
  have hl : lv_has ls 4 [(3, .int 6), (2, .ref oM), (1, .ref oB), (0, .ref b)] := hl
  refine lv_goto (tgt := 18) hx hb d_Lw_law_1211 (by decide) ?_
  refine lv_iload_n hx hb d_Lw_law_18 rfl (lv_at hl 0 rfl) ?_
  refine lv_aload_n hx hb d_Lw_law_19 rfl (lv_at hl 3 rfl) ?_
  refine va_slen hx hb hX hbl hbA hS d_Lw_law_20 ?_
  refine lv_topi (fun x0 e0 => ?_)
  obtain rfl : x0 = 6 := e0.trans (by decide)
  refine lv_bipush (v := 6) hx hb d_Lw_law_21 (by decide) ?_
  refine lv_isub hx hb d_Lw_law_23 ?_
  refine lv_topi (fun x0 e0 => ?_)
  obtain rfl : x0 = 0 := e0.trans (by decide)
  refine lv_icmp_gt (tgt := 1214) hx hb d_Lw_law_24 (by decide) (fun _ => ?_) (fun h => absurd (by decide) h)
  refine lv_iconst (v := 1) hx hb d_Lw_law_1214 (by decide) ?_
  refine va_forget (fun q hq => hAf _ (hS.2.2 q hq)) ?_
  refine W.widen (k := 600000) (n := 7302250) (Nat.le_of_ble_eq_true rfl) (Nat.le_of_ble_eq_true rfl) ?_
  exact lw_ret hx hb hr hlocks d_Lw_law_1215
theorem d_Lw_law_1116 : decode code 1116 = .ok (.aload_n 1, 1) := dk_0 a_Lw_law_1116 (dko_43 _)
theorem d_Lw_law_1117 : decode code 1117 = .ok (.aload_n 0, 1) := dk_0 a_Lw_law_1117 (dko_42 _)
theorem d_Lw_law_1118 : decode code 1118 = .ok (.iload_n 3, 1) := dk_0 a_Lw_law_1118 (dko_29 _)
theorem d_Lw_law_1119 : decode code 1119 = .ok (.iconst 1, 1) := dk_0 a_Lw_law_1119 (dko_4 _)
theorem d_Lw_law_1120 : decode code 1120 = .ok (.iadd, 1) := dk_0 a_Lw_law_1120 (dko_96 _)
theorem d_Lw_law_1121 : decode code 1121 = .ok (.iaload, 1) := dk_0 a_Lw_law_1121 (dko_46 _)
theorem d_Lw_law_1122 : decode code 1122 = .ok (.aload_n 0, 1) := dk_0 a_Lw_law_1122 (dko_42 _)
theorem d_Lw_law_1123 : decode code 1123 = .ok (.iload_n 3, 1) := dk_0 a_Lw_law_1123 (dko_29 _)
theorem d_Lw_law_1124 : decode code 1124 = .ok (.iconst 2, 1) := dk_0 a_Lw_law_1124 (dko_5 _)
theorem d_Lw_law_1125 : decode code 1125 = .ok (.iadd, 1) := dk_0 a_Lw_law_1125 (dko_96 _)
theorem d_Lw_law_1126 : decode code 1126 = .ok (.iaload, 1) := dk_0 a_Lw_law_1126 (dko_46 _)
theorem d_Lw_law_1127 : decode code 1127 = .ok (.invokevirtual 131, 3) := dk_U2 a_Lw_law_1127 (dko_182 _) rfl
theorem d_Lw_law_1130 : decode code 1130 = .ok (.aload_n 2, 1) := dk_0 a_Lw_law_1130 (dko_44 _)
theorem d_Lw_law_1131 : decode code 1131 = .ok (.aload_n 0, 1) := dk_0 a_Lw_law_1131 (dko_42 _)
theorem d_Lw_law_1132 : decode code 1132 = .ok (.iload_n 3, 1) := dk_0 a_Lw_law_1132 (dko_29 _)
theorem d_Lw_law_1133 : decode code 1133 = .ok (.iconst 1, 1) := dk_0 a_Lw_law_1133 (dko_4 _)
theorem d_Lw_law_1134 : decode code 1134 = .ok (.iadd, 1) := dk_0 a_Lw_law_1134 (dko_96 _)
theorem d_Lw_law_1135 : decode code 1135 = .ok (.iaload, 1) := dk_0 a_Lw_law_1135 (dko_46 _)
theorem d_Lw_law_1136 : decode code 1136 = .ok (.aload_n 0, 1) := dk_0 a_Lw_law_1136 (dko_42 _)
theorem d_Lw_law_1137 : decode code 1137 = .ok (.iload_n 3, 1) := dk_0 a_Lw_law_1137 (dko_29 _)
theorem d_Lw_law_1138 : decode code 1138 = .ok (.iconst 2, 1) := dk_0 a_Lw_law_1138 (dko_5 _)
theorem d_Lw_law_1139 : decode code 1139 = .ok (.iadd, 1) := dk_0 a_Lw_law_1139 (dko_96 _)
theorem d_Lw_law_1140 : decode code 1140 = .ok (.iaload, 1) := dk_0 a_Lw_law_1140 (dko_46 _)
theorem d_Lw_law_1141 : decode code 1141 = .ok (.invokevirtual 134, 3) := dk_U2 a_Lw_law_1141 (dko_182 _) rfl
theorem d_Lw_law_1144 : decode code 1144 = .ok (.if_icmp .eq 64, 3) := dk_S2 a_Lw_law_1144 (dko_159 _) (by decide +kernel)
set_option maxHeartbeats 4000000 in
set_option maxRecDepth 100000 in
theorem lk_25 {p : Program} {e : Env} {s : State} {m : MethodId} {below : List Frame} {meth : Method} {c : Code} (l : Launch) {b : Nat} {xs : Nat → Int32} {H : Heap} {locs : List Loc} {ls : Array Slot} {dC : Nat → ClassId} {dI : Nat → Nat → Nat} {cI cB cZ cJ : ClassId} {A : Nat → Prop} (hx : p.tables.exec = Jvm.exec) (hb : c.code = code) (hr : meth.sig.returnType = ret) (hml : c.maxLocals = 4) (hown : s.vm.findClass R_law = some m.cls) (hts : ∀ w ∈ (lw_w0 :: lw_gd), w.before #[Value.ref b] s = true) (hX : va_X b 6 xs s s.heap) (hbl : b < s.heap.size) (hlocks : meth.locks = false) (hK : KK dC dI cI cB cZ cJ s) (hA : ∀ q, s.heap.size ≤ q → A q) (hAf : ∀ q, A q → s.heap.size ≤ q) (hbA : ¬ A b) (oB : Nat) (oSt : Nat) (oP1 : Nat) (oM : Nat) (xb : List Value) (hb_stock : fx xb 2 (.ref oSt)) (xs_ : List Value) (hst_plant : fx xs_ 0 (.ref oP1)) (xp : List Value) (hxp_things : fx xp 0 (.int 0)) (hxp_pipes : fx xp 1 (.int 0)) (fm : List Value) (hm_things : fx fm 4 (.int 0)) (hm_pipes : fx fm 11 (.int 0)) (hP : va_P (dC, dI) classes [(oB, .inr (0, xb)), (oSt, .inr (4, xs_)), (oP1, .inr (3, xp)), (oM, .inr (12, fm))] H) (hD : va_D A [(oB, .inr (0, xb)), (oSt, .inr (4, xs_)), (oP1, .inr (3, xp)), (oM, .inr (12, fm))]) (hS : va_S A s.heap H locs) (hl : lv_has ls 4 [(3, .int 0), (2, .ref oM), (1, .ref oB), (0, .ref b)]) : W p l e room_1 s m #[Value.ref b] below meth c H locs 221 83122 (lw_Z below #[Value.ref b] s) (F0 m 1116 ls []) := by
  refine lv_aload_n hx hb d_Lw_law_1116 rfl (lv_at hl 2 rfl) ?_
  refine lv_aload_n hx hb d_Lw_law_1117 rfl (lv_at hl 3 rfl) ?_
  refine lv_iload_n hx hb d_Lw_law_1118 rfl (lv_at hl 0 rfl) ?_
  refine lv_iconst (v := 1) hx hb d_Lw_law_1119 (by decide) ?_
  refine lv_iadd hx hb d_Lw_law_1120 ?_
  refine lv_topi (fun x0 e0 => ?_)
  obtain rfl : x0 = 1 := e0.trans (by decide)
  refine va_sld hx hb hX hbl hbA hS (vp_in_iff.mpr (by decide)) d_Lw_law_1121 ?_
  refine lv_topi (fun x0 e0 => ?_)
  obtain rfl : x0 = xs 1 := e0
  refine lv_aload_n hx hb d_Lw_law_1122 rfl (lv_at hl 3 rfl) ?_
  refine lv_iload_n hx hb d_Lw_law_1123 rfl (lv_at hl 0 rfl) ?_
  refine lv_iconst (v := 2) hx hb d_Lw_law_1124 (by decide) ?_
  refine lv_iadd hx hb d_Lw_law_1125 ?_
  refine lv_topi (fun x0 e0 => ?_)
  obtain rfl : x0 = 2 := e0.trans (by decide)
  refine va_sld hx hb hX hbl hbA hS (vp_in_iff.mpr (by decide)) d_Lw_law_1126 ?_
  refine lv_topi (fun x0 e0 => ?_)
  obtain rfl : x0 = xs 2 := e0
  have hPc := hP.sub (ws' := [(oB, .inr (0, xb)), (oSt, .inr (4, xs_)), (oP1, .inr (3, xp))]) [0, 1, 2] rfl
  have hDc := hD.sub (ws' := [(oB, .inr (0, xb)), (oSt, .inr (4, xs_)), (oP1, .inr (3, xp))]) [0, 1, 2] (by decide) rfl
  have hFc := pu_free hS hA
  refine va_calli (va_runV (C := R_Bh) (As := [.int (xs 1), .int (xs 2)]) (rest := []) ⟨hx, hb, hml, hown, hts⟩ (c_Bh_space l dC dI cI cB cZ cJ (xs 1) (xs 2) oB oSt oP1 xb hb_stock xs_ hst_plant xp hxp_things hxp_pipes H.size) (cwV 2 hts (tb_V mw_1547 mw_1548 mw_1549 mw_1 mw_1550) rfl rfl rfl ⟨rfl, by decide +kernel, by decide +kernel, by decide +kernel⟩ ⟨(Nat.le_of_ble_eq_true rfl), (Nat.le_of_ble_eq_true rfl)⟩) ⟨pw_blind, va_recv (q := (R_Bh, F_Bh, 16)) hK.1 hP (ci := 0) (q0 := 0) rfl rfl, pw_pre hPc hK hDc⟩ rfl rfl hl.1 rfl (lv_room (Nat.le_of_ble_eq_true rfl)) d_Lw_law_1127 ⟨(Nat.le_of_ble_eq_true rfl), (Nat.le_of_ble_eq_true rfl)⟩) hS (fun q _ h => hFc q h) hFc (fun r u t H locs ht hvm hw hB hz1 hk1 hS => ?_)
  have hP := pu_kept hP hk1
  obtain rfl : r = (-1) := hw
  refine lv_aload_n hx hb d_Lw_law_1130 rfl (lv_at hl 1 rfl) ?_
  refine lv_aload_n hx hb d_Lw_law_1131 rfl (lv_at hl 3 rfl) ?_
  refine lv_iload_n hx hb d_Lw_law_1132 rfl (lv_at hl 0 rfl) ?_
  refine lv_iconst (v := 1) hx hb d_Lw_law_1133 (by decide) ?_
  refine lv_iadd hx hb d_Lw_law_1134 ?_
  refine lv_topi (fun x0 e0 => ?_)
  obtain rfl : x0 = 1 := e0.trans (by decide)
  refine va_sld hx hb hX hbl hbA hS (vp_in_iff.mpr (by decide)) d_Lw_law_1135 ?_
  refine lv_topi (fun x0 e0 => ?_)
  obtain rfl : x0 = xs 1 := e0
  refine lv_aload_n hx hb d_Lw_law_1136 rfl (lv_at hl 3 rfl) ?_
  refine lv_iload_n hx hb d_Lw_law_1137 rfl (lv_at hl 0 rfl) ?_
  refine lv_iconst (v := 2) hx hb d_Lw_law_1138 (by decide) ?_
  refine lv_iadd hx hb d_Lw_law_1139 ?_
  refine lv_topi (fun x0 e0 => ?_)
  obtain rfl : x0 = 2 := e0.trans (by decide)
  refine va_sld hx hb hX hbl hbA hS (vp_in_iff.mpr (by decide)) d_Lw_law_1140 ?_
  refine lv_topi (fun x0 e0 => ?_)
  obtain rfl : x0 = xs 2 := e0
  have hPc := hP.sub (ws' := [(oM, .inr (12, fm))]) [3] rfl
  have hDc := hD.sub (ws' := [(oM, .inr (12, fm))]) [3] (by decide) rfl
  have hFc := pu_free hS hA
  refine va_calli (va_runV (C := R_Mo) (As := [.int (xs 1), .int (xs 2)]) (rest := [.int (-1)]) ⟨hx, hb, hml, hown, hts⟩ (c_Mo_space l dC dI cI cB cZ cJ (xs 1) (xs 2) oM fm hm_things hm_pipes H.size) (cwV 2 hts (tb_V mw_2408 mw_2409 mw_2410 mw_18 mw_2411) rfl rfl rfl ⟨rfl, by decide +kernel, by decide +kernel, by decide +kernel⟩ ⟨(Nat.le_of_ble_eq_true rfl), (Nat.le_of_ble_eq_true rfl)⟩) ⟨pw_blind, va_recv (q := (R_Mo, F_Mo, 87)) hK.1 hP (ci := 12) (q0 := 3) rfl rfl, pw_pre hPc hK hDc⟩ rfl rfl hl.1 rfl (lv_room (Nat.le_of_ble_eq_true rfl)) d_Lw_law_1141 ⟨(Nat.le_of_ble_eq_true rfl), (Nat.le_of_ble_eq_true rfl)⟩) hS (fun q _ h => hFc q h) hFc (fun r u t H locs ht hvm hw hB hz1 hk1 hS => ?_)
  have hP := pu_kept hP hk1
  obtain rfl : r = (-1) := hw
  refine lv_icmp_eq (tgt := 1208) hx hb d_Lw_law_1144 (by decide) (fun _ => ?_) (fun h => absurd (by decide) h)
  refine lv_iinc (k := 0) (v := 6) hx hb d_Lw_law_1208 hl rfl (by first | rfl | decide | exact nI_1 i | exact pv_1 j hj) (by decide) rfl (fun ls hl => ?_)
  have hl : lv_has ls 4 [(3, .int 6), (2, .ref oM), (1, .ref oB), (0, .ref b)] := hl
  refine lv_goto (tgt := 18) hx hb d_Lw_law_1211 (by decide) ?_
  refine lv_iload_n hx hb d_Lw_law_18 rfl (lv_at hl 0 rfl) ?_
  refine lv_aload_n hx hb d_Lw_law_19 rfl (lv_at hl 3 rfl) ?_
  refine va_slen hx hb hX hbl hbA hS d_Lw_law_20 ?_
  refine lv_topi (fun x0 e0 => ?_)
  obtain rfl : x0 = 6 := e0.trans (by decide)
  refine lv_bipush (v := 6) hx hb d_Lw_law_21 (by decide) ?_
  refine lv_isub hx hb d_Lw_law_23 ?_
  refine lv_topi (fun x0 e0 => ?_)
  obtain rfl : x0 = 0 := e0.trans (by decide)
  refine lv_icmp_gt (tgt := 1214) hx hb d_Lw_law_24 (by decide) (fun _ => ?_) (fun h => absurd (by decide) h)
  refine lv_iconst (v := 1) hx hb d_Lw_law_1214 (by decide) ?_
  refine va_forget (fun q hq => hAf _ (hS.2.2 q hq)) ?_
  refine W.widen (k := 600000) (n := 7302250) (Nat.le_of_ble_eq_true rfl) (Nat.le_of_ble_eq_true rfl) ?_
  exact lw_ret hx hb hr hlocks d_Lw_law_1215
theorem d_Lw_law_1149 : decode code 1149 = .ok (.aload_n 1, 1) := dk_0 a_Lw_law_1149 (dko_43 _)
theorem d_Lw_law_1150 : decode code 1150 = .ok (.aload_n 0, 1) := dk_0 a_Lw_law_1150 (dko_42 _)
theorem d_Lw_law_1151 : decode code 1151 = .ok (.iload_n 3, 1) := dk_0 a_Lw_law_1151 (dko_29 _)
theorem d_Lw_law_1152 : decode code 1152 = .ok (.iconst 1, 1) := dk_0 a_Lw_law_1152 (dko_4 _)
theorem d_Lw_law_1153 : decode code 1153 = .ok (.iadd, 1) := dk_0 a_Lw_law_1153 (dko_96 _)
theorem d_Lw_law_1154 : decode code 1154 = .ok (.iaload, 1) := dk_0 a_Lw_law_1154 (dko_46 _)
theorem d_Lw_law_1155 : decode code 1155 = .ok (.invokevirtual 135, 3) := dk_U2 a_Lw_law_1155 (dko_182 _) rfl
theorem d_Lw_law_1158 : decode code 1158 = .ok (.aload_n 2, 1) := dk_0 a_Lw_law_1158 (dko_44 _)
theorem d_Lw_law_1159 : decode code 1159 = .ok (.aload_n 0, 1) := dk_0 a_Lw_law_1159 (dko_42 _)
theorem d_Lw_law_1160 : decode code 1160 = .ok (.iload_n 3, 1) := dk_0 a_Lw_law_1160 (dko_29 _)
theorem d_Lw_law_1161 : decode code 1161 = .ok (.iconst 1, 1) := dk_0 a_Lw_law_1161 (dko_4 _)
theorem d_Lw_law_1162 : decode code 1162 = .ok (.iadd, 1) := dk_0 a_Lw_law_1162 (dko_96 _)
theorem d_Lw_law_1163 : decode code 1163 = .ok (.iaload, 1) := dk_0 a_Lw_law_1163 (dko_46 _)
theorem d_Lw_law_1164 : decode code 1164 = .ok (.invokevirtual 138, 3) := dk_U2 a_Lw_law_1164 (dko_182 _) rfl
theorem d_Lw_law_1167 : decode code 1167 = .ok (.if_icmp .eq 41, 3) := dk_S2 a_Lw_law_1167 (dko_159 _) (by decide +kernel)
set_option maxHeartbeats 4000000 in
set_option maxRecDepth 100000 in
theorem lk_26 {p : Program} {e : Env} {s : State} {m : MethodId} {below : List Frame} {meth : Method} {c : Code} (l : Launch) {b : Nat} {xs : Nat → Int32} {H : Heap} {locs : List Loc} {ls : Array Slot} {dC : Nat → ClassId} {dI : Nat → Nat → Nat} {cI cB cZ cJ : ClassId} {A : Nat → Prop} (hx : p.tables.exec = Jvm.exec) (hb : c.code = code) (hr : meth.sig.returnType = ret) (hml : c.maxLocals = 4) (hown : s.vm.findClass R_law = some m.cls) (hts : ∀ w ∈ (lw_w0 :: lw_gd), w.before #[Value.ref b] s = true) (hX : va_X b 6 xs s s.heap) (hbl : b < s.heap.size) (hlocks : meth.locks = false) (hK : KK dC dI cI cB cZ cJ s) (hA : ∀ q, s.heap.size ≤ q → A q) (hAf : ∀ q, A q → s.heap.size ≤ q) (hbA : ¬ A b) (oB : Nat) (oSf : Nat) (xf_sources : Nat) (oWa : Nat) (oSt : Nat) (oP1 : Nat) (xst_meeting : Nat) (xf_rivals : Nat) (oM : Nat) (am_floods : Nat) (xb : List Value) (hb_safety : fx xb 4 (.ref oSf)) (xf : List Value) (hsf_stock : fx xf 0 (.ref oSt)) (hsf_ways : fx xf 1 (.ref oWa)) (hsf_sources : fx xf 2 (.ref xf_sources)) (hsf_rivals : fx xf 3 (.ref xf_rivals)) (hsf_failure : fx xf 6 (.int 0)) (xw : List Value) (hwa_stock : fx xw 0 (.ref oSt)) (hwa_count : fx xw 1 (.int 0)) (xs_ : List Value) (hst_plant : fx xs_ 0 (.ref oP1)) (hst_meeting : fx xs_ 9 (.ref xst_meeting)) (xp : List Value) (hxp_things : fx xp 0 (.int 0)) (hxp_pipes : fx xp 1 (.int 0)) (fm : List Value) (hm_things : fx fm 4 (.int 0)) (hm_pipes : fx fm 11 (.int 0)) (hm_ways : fx fm 26 (.int 0)) (hm_floods : fx fm 44 (.ref am_floods)) (hP : va_P (dC, dI) classes [(oB, .inr (0, xb)), (oSf, .inr (6, xf)), (xf_sources, .inl (cJ, 15, .inr (.inl (fun _ => 0)))), (oWa, .inr (5, xw)), (oSt, .inr (4, xs_)), (oP1, .inr (3, xp)), (xst_meeting, .inl (cI, 15, .inl (fun _ => 0))), (xf_rivals, .inl (cI, 15, .inl (fun _ => 0))), (oM, .inr (12, fm)), (am_floods, .inl (cJ, 16, .inr (.inl (fun _ => 0))))] H) (hD : va_D A [(oB, .inr (0, xb)), (oSf, .inr (6, xf)), (xf_sources, .inl (cJ, 15, .inr (.inl (fun _ => 0)))), (oWa, .inr (5, xw)), (oSt, .inr (4, xs_)), (oP1, .inr (3, xp)), (xst_meeting, .inl (cI, 15, .inl (fun _ => 0))), (xf_rivals, .inl (cI, 15, .inl (fun _ => 0))), (oM, .inr (12, fm)), (am_floods, .inl (cJ, 16, .inr (.inl (fun _ => 0))))]) (hS : va_S A s.heap H locs) (hl : lv_has ls 4 [(3, .int 0), (2, .ref oM), (1, .ref oB), (0, .ref b)]) : W p l e room_1 s m #[Value.ref b] below meth c H locs 221 83122 (lw_Z below #[Value.ref b] s) (F0 m 1149 ls []) := by
  refine lv_aload_n hx hb d_Lw_law_1149 rfl (lv_at hl 2 rfl) ?_
  refine lv_aload_n hx hb d_Lw_law_1150 rfl (lv_at hl 3 rfl) ?_
  refine lv_iload_n hx hb d_Lw_law_1151 rfl (lv_at hl 0 rfl) ?_
  refine lv_iconst (v := 1) hx hb d_Lw_law_1152 (by decide) ?_
  refine lv_iadd hx hb d_Lw_law_1153 ?_
  refine lv_topi (fun x0 e0 => ?_)
  obtain rfl : x0 = 1 := e0.trans (by decide)
  refine va_sld hx hb hX hbl hbA hS (vp_in_iff.mpr (by decide)) d_Lw_law_1154 ?_
  refine lv_topi (fun x0 e0 => ?_)
  obtain rfl : x0 = xs 1 := e0
  have hPc := hP.sub (ws' := [(oB, .inr (0, xb)), (oSf, .inr (6, xf)), (xf_sources, .inl (cJ, 15, .inr (.inl (fun _ => 0)))), (oWa, .inr (5, xw)), (oSt, .inr (4, xs_)), (oP1, .inr (3, xp)), (xst_meeting, .inl (cI, 15, .inl (fun _ => 0))), (xf_rivals, .inl (cI, 15, .inl (fun _ => 0)))]) [0, 1, 2, 3, 4, 5, 6, 7] rfl
  have hDc := hD.sub (ws' := [(oB, .inr (0, xb)), (oSf, .inr (6, xf)), (xf_sources, .inl (cJ, 15, .inr (.inl (fun _ => 0)))), (oWa, .inr (5, xw)), (oSt, .inr (4, xs_)), (oP1, .inr (3, xp)), (xst_meeting, .inl (cI, 15, .inl (fun _ => 0))), (xf_rivals, .inl (cI, 15, .inl (fun _ => 0)))]) [0, 1, 2, 3, 4, 5, 6, 7] (by decide) rfl
  have hFc := va_free (wc := [(oB, .inr (0, xb)), (oSf, .inr (6, xf)), (xf_sources, .inl (cJ, 15, .inr (.inl (fun _ => 0)))), (oWa, .inr (5, xw)), (oSt, .inr (4, xs_)), (oP1, .inr (3, xp)), (xst_meeting, .inl (cI, 15, .inl (fun _ => 0))), (xf_rivals, .inl (cI, 15, .inl (fun _ => 0)))]) hD hS hA [0, 1, 2, 3, 4, 5, 6, 7] rfl
  refine va_calli (va_runV (C := R_Bh) (As := [.int (xs 1)]) (rest := []) ⟨hx, hb, hml, hown, hts⟩ (c_Bh_danger l dC dI cI cB cZ cJ (xs 1) oB oSf xf_sources oWa oSt oP1 xst_meeting xf_rivals xb hb_safety xf hsf_stock hsf_ways hsf_sources hsf_rivals hsf_failure xw hwa_stock hwa_count xs_ hst_plant hst_meeting xp hxp_things hxp_pipes H.size) (cwV 1 hts (tb_V mw_1555 mw_1556 mw_1557 mw_1 mw_1558) rfl rfl rfl ⟨rfl, by decide +kernel, by decide +kernel, by decide +kernel⟩ ⟨(Nat.le_of_ble_eq_true rfl), (Nat.le_of_ble_eq_true rfl)⟩) ⟨pw_blind, va_recv (q := (R_Bh, F_Bh, 16)) hK.1 hP (ci := 0) (q0 := 0) rfl rfl, pw_pre hPc hK hDc⟩ rfl rfl hl.1 rfl (lv_room (Nat.le_of_ble_eq_true rfl)) d_Lw_law_1155 ⟨(Nat.le_of_ble_eq_true rfl), (Nat.le_of_ble_eq_true rfl)⟩) hS (fun q _ h => hFc q h) hFc (fun r u t H locs ht hvm hw hB hz1 hk1 hS => ?_)
  obtain ⟨hP, hD⟩ := va_join (wr := [(oM, .inr (12, fm)), (am_floods, .inl (cJ, 16, .inr (.inl (fun _ => 0))))]) (w1 := []) hP hD [0, 1, 2, 3, 4, 5, 6, 7] [8, 9] rfl rfl (by decide) (by decide) hk1 hFc wn_P wn_D
  have hP : va_P (dC, dI) classes [(oM, .inr (12, fm)), (am_floods, .inl (cJ, 16, .inr (.inl (fun _ => 0))))] H := hP
  have hD : va_D A [(oM, .inr (12, fm)), (am_floods, .inl (cJ, 16, .inr (.inl (fun _ => 0))))] := hD
  obtain rfl : r = (fn_Bh_danger (xs 1)) := hw
  refine lv_aload_n hx hb d_Lw_law_1158 rfl (lv_at hl 1 rfl) ?_
  refine lv_aload_n hx hb d_Lw_law_1159 rfl (lv_at hl 3 rfl) ?_
  refine lv_iload_n hx hb d_Lw_law_1160 rfl (lv_at hl 0 rfl) ?_
  refine lv_iconst (v := 1) hx hb d_Lw_law_1161 (by decide) ?_
  refine lv_iadd hx hb d_Lw_law_1162 ?_
  refine lv_topi (fun x0 e0 => ?_)
  obtain rfl : x0 = 1 := e0.trans (by decide)
  refine va_sld hx hb hX hbl hbA hS (vp_in_iff.mpr (by decide)) d_Lw_law_1163 ?_
  refine lv_topi (fun x0 e0 => ?_)
  obtain rfl : x0 = xs 1 := e0
  have hPc := hP.sub (ws' := [(oM, .inr (12, fm)), (am_floods, .inl (cJ, 16, .inr (.inl (fun _ => 0))))]) [0, 1] rfl
  have hDc := hD.sub (ws' := [(oM, .inr (12, fm)), (am_floods, .inl (cJ, 16, .inr (.inl (fun _ => 0))))]) [0, 1] (by decide) rfl
  have hFc := va_free (wc := [(oM, .inr (12, fm)), (am_floods, .inl (cJ, 16, .inr (.inl (fun _ => 0))))]) hD hS hA [0, 1] rfl
  refine va_calli (va_runV (C := R_Mo) (As := [.int (xs 1)]) (rest := [.int ((fn_Bh_danger (xs 1)))]) ⟨hx, hb, hml, hown, hts⟩ (c_Mo_danger l dC dI cI cB cZ cJ (xs 1) oM am_floods fm hm_things hm_pipes hm_ways hm_floods H.size) (cwV 1 hts (tb_V mw_2365 mw_2366 mw_2367 mw_18 mw_2368) rfl rfl rfl ⟨rfl, by decide +kernel, by decide +kernel, by decide +kernel⟩ ⟨(Nat.le_of_ble_eq_true rfl), (Nat.le_of_ble_eq_true rfl)⟩) ⟨pw_blind, va_recv (q := (R_Mo, F_Mo, 87)) hK.1 hP (ci := 12) (q0 := 0) rfl rfl, pw_pre hPc hK hDc⟩ rfl rfl hl.1 rfl (lv_room (Nat.le_of_ble_eq_true rfl)) d_Lw_law_1164 ⟨(Nat.le_of_ble_eq_true rfl), (Nat.le_of_ble_eq_true rfl)⟩) hS (fun q _ h => hFc q h) hFc (fun r u t H locs ht hvm hw hB hz1 hk1 hS => ?_)
  obtain ⟨hP, hD⟩ := va_join (wr := []) (w1 := []) hP hD [0, 1] [] rfl rfl (by decide) (by decide) hk1 hFc wn_P wn_D
  have hP : va_P (dC, dI) classes [] H := hP
  have hD : va_D A [] := hD
  obtain rfl : r = (fn_Mo_danger (xs 1)) := hw
  refine lv_icmp_eq (tgt := 1208) hx hb d_Lw_law_1167 (by decide) (fun _ => ?_) (fun h => absurd (eq_danger (xs 1)) h)
  refine lv_iinc (k := 0) (v := 6) hx hb d_Lw_law_1208 hl rfl (by first | rfl | decide | exact nI_1 i | exact pv_1 j hj) (by decide) rfl (fun ls hl => ?_)
  have hl : lv_has ls 4 [(3, .int 6), (2, .ref oM), (1, .ref oB), (0, .ref b)] := hl
  refine lv_goto (tgt := 18) hx hb d_Lw_law_1211 (by decide) ?_
  refine lv_iload_n hx hb d_Lw_law_18 rfl (lv_at hl 0 rfl) ?_
  refine lv_aload_n hx hb d_Lw_law_19 rfl (lv_at hl 3 rfl) ?_
  refine va_slen hx hb hX hbl hbA hS d_Lw_law_20 ?_
  refine lv_topi (fun x0 e0 => ?_)
  obtain rfl : x0 = 6 := e0.trans (by decide)
  refine lv_bipush (v := 6) hx hb d_Lw_law_21 (by decide) ?_
  refine lv_isub hx hb d_Lw_law_23 ?_
  refine lv_topi (fun x0 e0 => ?_)
  obtain rfl : x0 = 0 := e0.trans (by decide)
  refine lv_icmp_gt (tgt := 1214) hx hb d_Lw_law_24 (by decide) (fun _ => ?_) (fun h => absurd (by decide) h)
  refine lv_iconst (v := 1) hx hb d_Lw_law_1214 (by decide) ?_
  refine va_forget (fun q hq => hAf _ (hS.2.2 q hq)) ?_
  refine W.widen (k := 600000) (n := 7302250) (Nat.le_of_ble_eq_true rfl) (Nat.le_of_ble_eq_true rfl) ?_
  exact lw_ret hx hb hr hlocks d_Lw_law_1215
theorem d_Lw_law_1172 : decode code 1172 = .ok (.aload_n 1, 1) := dk_0 a_Lw_law_1172 (dko_43 _)
theorem d_Lw_law_1173 : decode code 1173 = .ok (.aload_n 0, 1) := dk_0 a_Lw_law_1173 (dko_42 _)
theorem d_Lw_law_1174 : decode code 1174 = .ok (.iload_n 3, 1) := dk_0 a_Lw_law_1174 (dko_29 _)
theorem d_Lw_law_1175 : decode code 1175 = .ok (.iconst 1, 1) := dk_0 a_Lw_law_1175 (dko_4 _)
theorem d_Lw_law_1176 : decode code 1176 = .ok (.iadd, 1) := dk_0 a_Lw_law_1176 (dko_96 _)
theorem d_Lw_law_1177 : decode code 1177 = .ok (.iaload, 1) := dk_0 a_Lw_law_1177 (dko_46 _)
theorem d_Lw_law_1178 : decode code 1178 = .ok (.invokevirtual 139, 3) := dk_U2 a_Lw_law_1178 (dko_182 _) rfl
theorem d_Lw_law_1181 : decode code 1181 = .ok (.aload_n 2, 1) := dk_0 a_Lw_law_1181 (dko_44 _)
theorem d_Lw_law_1182 : decode code 1182 = .ok (.aload_n 0, 1) := dk_0 a_Lw_law_1182 (dko_42 _)
theorem d_Lw_law_1183 : decode code 1183 = .ok (.iload_n 3, 1) := dk_0 a_Lw_law_1183 (dko_29 _)
theorem d_Lw_law_1184 : decode code 1184 = .ok (.iconst 1, 1) := dk_0 a_Lw_law_1184 (dko_4 _)
theorem d_Lw_law_1185 : decode code 1185 = .ok (.iadd, 1) := dk_0 a_Lw_law_1185 (dko_96 _)
theorem d_Lw_law_1186 : decode code 1186 = .ok (.iaload, 1) := dk_0 a_Lw_law_1186 (dko_46 _)
theorem d_Lw_law_1187 : decode code 1187 = .ok (.invokevirtual 142, 3) := dk_U2 a_Lw_law_1187 (dko_182 _) rfl
theorem d_Lw_law_1190 : decode code 1190 = .ok (.if_icmp .eq 18, 3) := dk_S2 a_Lw_law_1190 (dko_159 _) (by decide +kernel)
set_option maxHeartbeats 4000000 in
set_option maxRecDepth 100000 in
theorem lk_27 {p : Program} {e : Env} {s : State} {m : MethodId} {below : List Frame} {meth : Method} {c : Code} (l : Launch) {b : Nat} {xs : Nat → Int32} {H : Heap} {locs : List Loc} {ls : Array Slot} {dC : Nat → ClassId} {dI : Nat → Nat → Nat} {cI cB cZ cJ : ClassId} {A : Nat → Prop} (hx : p.tables.exec = Jvm.exec) (hb : c.code = code) (hr : meth.sig.returnType = ret) (hml : c.maxLocals = 4) (hown : s.vm.findClass R_law = some m.cls) (hts : ∀ w ∈ (lw_w0 :: lw_gd), w.before #[Value.ref b] s = true) (hX : va_X b 6 xs s s.heap) (hbl : b < s.heap.size) (hlocks : meth.locks = false) (hK : KK dC dI cI cB cZ cJ s) (hA : ∀ q, s.heap.size ≤ q → A q) (hAf : ∀ q, A q → s.heap.size ≤ q) (hbA : ¬ A b) (oB : Nat) (oM : Nat) (xb : List Value) (hb_plantTextLength : fx xb 12 (.int 0)) (fm : List Value) (hm_things : fx fm 4 (.int 0)) (hm_pipes : fx fm 11 (.int 0)) (hm_wish : fx fm 83 (.int 0)) (hm_found : fx fm 84 (.int 0)) (hP : va_P (dC, dI) classes [(oB, .inr (0, xb)), (oM, .inr (12, fm))] H) (hD : va_D A [(oB, .inr (0, xb)), (oM, .inr (12, fm))]) (hS : va_S A s.heap H locs) (hl : lv_has ls 4 [(3, .int 0), (2, .ref oM), (1, .ref oB), (0, .ref b)]) : W p l e room_1 s m #[Value.ref b] below meth c H locs 221 83122 (lw_Z below #[Value.ref b] s) (F0 m 1172 ls []) := by
  refine lv_aload_n hx hb d_Lw_law_1172 rfl (lv_at hl 2 rfl) ?_
  refine lv_aload_n hx hb d_Lw_law_1173 rfl (lv_at hl 3 rfl) ?_
  refine lv_iload_n hx hb d_Lw_law_1174 rfl (lv_at hl 0 rfl) ?_
  refine lv_iconst (v := 1) hx hb d_Lw_law_1175 (by decide) ?_
  refine lv_iadd hx hb d_Lw_law_1176 ?_
  refine lv_topi (fun x0 e0 => ?_)
  obtain rfl : x0 = 1 := e0.trans (by decide)
  refine va_sld hx hb hX hbl hbA hS (vp_in_iff.mpr (by decide)) d_Lw_law_1177 ?_
  refine lv_topi (fun x0 e0 => ?_)
  obtain rfl : x0 = xs 1 := e0
  have hPc := hP.sub (ws' := [(oB, .inr (0, xb))]) [0] rfl
  have hDc := hD.sub (ws' := [(oB, .inr (0, xb))]) [0] (by decide) rfl
  have hFc := pu_free hS hA
  refine va_calli (va_runV (C := R_Bh) (As := [.int (xs 1)]) (rest := []) ⟨hx, hb, hml, hown, hts⟩ (c_Bh_write l dC dI cI cB cZ cJ (xs 1) oB xb hb_plantTextLength H.size) (cwV 1 hts (tb_V mw_1559 mw_1560 mw_1561 mw_1 mw_1562) rfl rfl rfl ⟨rfl, by decide +kernel, by decide +kernel, by decide +kernel⟩ ⟨(Nat.le_of_ble_eq_true rfl), (Nat.le_of_ble_eq_true rfl)⟩) ⟨pw_blind, va_recv (q := (R_Bh, F_Bh, 16)) hK.1 hP (ci := 0) (q0 := 0) rfl rfl, pw_pre hPc hK hDc⟩ rfl rfl hl.1 rfl (lv_room (Nat.le_of_ble_eq_true rfl)) d_Lw_law_1178 ⟨(Nat.le_of_ble_eq_true rfl), (Nat.le_of_ble_eq_true rfl)⟩) hS (fun q _ h => hFc q h) hFc (fun r u t H locs ht hvm hw hB hz1 hk1 hS => ?_)
  have hP := pu_kept hP hk1
  obtain rfl : r = (-1) := hw
  refine lv_aload_n hx hb d_Lw_law_1181 rfl (lv_at hl 1 rfl) ?_
  refine lv_aload_n hx hb d_Lw_law_1182 rfl (lv_at hl 3 rfl) ?_
  refine lv_iload_n hx hb d_Lw_law_1183 rfl (lv_at hl 0 rfl) ?_
  refine lv_iconst (v := 1) hx hb d_Lw_law_1184 (by decide) ?_
  refine lv_iadd hx hb d_Lw_law_1185 ?_
  refine lv_topi (fun x0 e0 => ?_)
  obtain rfl : x0 = 1 := e0.trans (by decide)
  refine va_sld hx hb hX hbl hbA hS (vp_in_iff.mpr (by decide)) d_Lw_law_1186 ?_
  refine lv_topi (fun x0 e0 => ?_)
  obtain rfl : x0 = xs 1 := e0
  have hPc := hP.sub (ws' := [(oM, .inr (12, fm))]) [1] rfl
  have hDc := hD.sub (ws' := [(oM, .inr (12, fm))]) [1] (by decide) rfl
  have hFc := va_free (wc := [(oM, .inr (12, fm))]) hD hS hA [1] rfl
  refine va_calli (va_runV (C := R_Mo) (As := [.int (xs 1)]) (rest := [.int (-1)]) ⟨hx, hb, hml, hown, hts⟩ (c_Mo_write l dC dI cI cB cZ cJ (xs 1) oM fm hm_things hm_pipes hm_wish hm_found H.size) (cwV 1 hts (tb_V mw_2347 mw_2348 mw_2349 mw_18 mw_2350) rfl rfl rfl ⟨rfl, by decide +kernel, by decide +kernel, by decide +kernel⟩ ⟨(Nat.le_of_ble_eq_true rfl), (Nat.le_of_ble_eq_true rfl)⟩) ⟨pw_blind, va_recv (q := (R_Mo, F_Mo, 87)) hK.1 hP (ci := 12) (q0 := 1) rfl rfl, pw_pre hPc hK hDc⟩ rfl rfl hl.1 rfl (lv_room (Nat.le_of_ble_eq_true rfl)) d_Lw_law_1187 ⟨(Nat.le_of_ble_eq_true rfl), (Nat.le_of_ble_eq_true rfl)⟩) hS (fun q _ h => hFc q h) hFc (fun r u t H locs ht hvm hw hB hz1 hk1 hS => ?_)
  obtain ⟨hP, hD⟩ := va_join (wr := [(oB, .inr (0, xb))]) (w1 := []) hP hD [1] [0] rfl rfl (by decide) (by decide) hk1 hFc wn_P wn_D
  have hP : va_P (dC, dI) classes [(oB, .inr (0, xb))] H := hP
  have hD : va_D A [(oB, .inr (0, xb))] := hD
  obtain rfl : r = (-1) := hw
  refine lv_icmp_eq (tgt := 1208) hx hb d_Lw_law_1190 (by decide) (fun _ => ?_) (fun h => absurd (by decide) h)
  refine lv_iinc (k := 0) (v := 6) hx hb d_Lw_law_1208 hl rfl (by first | rfl | decide | exact nI_1 i | exact pv_1 j hj) (by decide) rfl (fun ls hl => ?_)
  have hl : lv_has ls 4 [(3, .int 6), (2, .ref oM), (1, .ref oB), (0, .ref b)] := hl
  refine lv_goto (tgt := 18) hx hb d_Lw_law_1211 (by decide) ?_
  refine lv_iload_n hx hb d_Lw_law_18 rfl (lv_at hl 0 rfl) ?_
  refine lv_aload_n hx hb d_Lw_law_19 rfl (lv_at hl 3 rfl) ?_
  refine va_slen hx hb hX hbl hbA hS d_Lw_law_20 ?_
  refine lv_topi (fun x0 e0 => ?_)
  obtain rfl : x0 = 6 := e0.trans (by decide)
  refine lv_bipush (v := 6) hx hb d_Lw_law_21 (by decide) ?_
  refine lv_isub hx hb d_Lw_law_23 ?_
  refine lv_topi (fun x0 e0 => ?_)
  obtain rfl : x0 = 0 := e0.trans (by decide)
  refine lv_icmp_gt (tgt := 1214) hx hb d_Lw_law_24 (by decide) (fun _ => ?_) (fun h => absurd (by decide) h)
  refine lv_iconst (v := 1) hx hb d_Lw_law_1214 (by decide) ?_
  refine va_forget (fun q hq => hAf _ (hS.2.2 q hq)) ?_
  refine W.widen (k := 600000) (n := 7302250) (Nat.le_of_ble_eq_true rfl) (Nat.le_of_ble_eq_true rfl) ?_
  exact lw_ret hx hb hr hlocks d_Lw_law_1215
theorem d_Lw_law_1195 : decode code 1195 = .ok (.aload_n 1, 1) := dk_0 a_Lw_law_1195 (dko_43 _)
theorem d_Lw_law_1196 : decode code 1196 = .ok (.invokevirtual 143, 3) := dk_U2 a_Lw_law_1196 (dko_182 _) rfl
theorem d_Lw_law_1199 : decode code 1199 = .ok (.aload_n 2, 1) := dk_0 a_Lw_law_1199 (dko_44 _)
theorem d_Lw_law_1200 : decode code 1200 = .ok (.invokevirtual 146, 3) := dk_U2 a_Lw_law_1200 (dko_182 _) rfl
theorem d_Lw_law_1203 : decode code 1203 = .ok (.if_icmp .eq 5, 3) := dk_S2 a_Lw_law_1203 (dko_159 _) (by decide +kernel)
set_option maxHeartbeats 4000000 in
set_option maxRecDepth 100000 in
theorem lk_28 {p : Program} {e : Env} {s : State} {m : MethodId} {below : List Frame} {meth : Method} {c : Code} (l : Launch) {b : Nat} {xs : Nat → Int32} {H : Heap} {locs : List Loc} {ls : Array Slot} {dC : Nat → ClassId} {dI : Nat → Nat → Nat} {cI cB cZ cJ : ClassId} {A : Nat → Prop} (hx : p.tables.exec = Jvm.exec) (hb : c.code = code) (hr : meth.sig.returnType = ret) (hml : c.maxLocals = 4) (hown : s.vm.findClass R_law = some m.cls) (hts : ∀ w ∈ (lw_w0 :: lw_gd), w.before #[Value.ref b] s = true) (hX : va_X b 6 xs s s.heap) (hbl : b < s.heap.size) (hlocks : meth.locks = false) (hK : KK dC dI cI cB cZ cJ s) (hA : ∀ q, s.heap.size ≤ q → A q) (hAf : ∀ q, A q → s.heap.size ≤ q) (hbA : ¬ A b) (oB : Nat) (oSt : Nat) (oM : Nat) (xb : List Value) (hb_stock : fx xb 2 (.ref oSt)) (xs_ : List Value) (hst_now : fx xs_ 1 (.int 0)) (fm : List Value) (hm_now : fx fm 78 (.int 0)) (hP : va_P (dC, dI) classes [(oB, .inr (0, xb)), (oSt, .inr (4, xs_)), (oM, .inr (12, fm))] H) (hD : va_D A [(oB, .inr (0, xb)), (oSt, .inr (4, xs_)), (oM, .inr (12, fm))]) (hS : va_S A s.heap H locs) (hl : lv_has ls 4 [(3, .int 0), (2, .ref oM), (1, .ref oB), (0, .ref b)]) : W p l e room_1 s m #[Value.ref b] below meth c H locs 221 83122 (lw_Z below #[Value.ref b] s) (F0 m 1195 ls []) := by
  refine lv_aload_n hx hb d_Lw_law_1195 rfl (lv_at hl 2 rfl) ?_
  have hPc := hP.sub (ws' := [(oB, .inr (0, xb)), (oSt, .inr (4, xs_))]) [0, 1] rfl
  have hDc := hD.sub (ws' := [(oB, .inr (0, xb)), (oSt, .inr (4, xs_))]) [0, 1] (by decide) rfl
  have hFc := pu_free hS hA
  refine va_calli (va_runV (C := R_Bh) (As := []) (rest := []) ⟨hx, hb, hml, hown, hts⟩ (c_Bh_second l dC dI cI cB cZ cJ oB oSt xb hb_stock xs_ hst_now H.size) (cwV 0 hts (tb_V mw_1563 mw_1564 mw_1565 mw_1 mw_1566) rfl rfl rfl ⟨rfl, by decide +kernel, by decide +kernel, by decide +kernel⟩ ⟨(Nat.le_of_ble_eq_true rfl), (Nat.le_of_ble_eq_true rfl)⟩) ⟨pw_blind, va_recv (q := (R_Bh, F_Bh, 16)) hK.1 hP (ci := 0) (q0 := 0) rfl rfl, pw_pre hPc hK hDc⟩ rfl rfl hl.1 rfl (lv_room (Nat.le_of_ble_eq_true rfl)) d_Lw_law_1196 ⟨(Nat.le_of_ble_eq_true rfl), (Nat.le_of_ble_eq_true rfl)⟩) hS (fun q _ h => hFc q h) hFc (fun r u t H locs ht hvm hw hB hz1 hk1 hS => ?_)
  have hP := pu_kept hP hk1
  obtain rfl : r = 0 := hw
  refine lv_aload_n hx hb d_Lw_law_1199 rfl (lv_at hl 1 rfl) ?_
  have hPc := hP.sub (ws' := [(oM, .inr (12, fm))]) [2] rfl
  have hDc := hD.sub (ws' := [(oM, .inr (12, fm))]) [2] (by decide) rfl
  have hFc := pu_free hS hA
  refine va_calli (va_runV (C := R_Mo) (As := []) (rest := [.int 0]) ⟨hx, hb, hml, hown, hts⟩ (c_Mo_second l dC dI cI cB cZ cJ oM fm hm_now H.size) (cwV 0 hts (tb_V mw_2695 mw_2696 mw_2697 mw_18 mw_2698) rfl rfl rfl ⟨rfl, by decide +kernel, by decide +kernel, by decide +kernel⟩ ⟨(Nat.le_of_ble_eq_true rfl), (Nat.le_of_ble_eq_true rfl)⟩) ⟨pw_blind, va_recv (q := (R_Mo, F_Mo, 87)) hK.1 hP (ci := 12) (q0 := 2) rfl rfl, pw_pre hPc hK hDc⟩ rfl rfl hl.1 rfl (lv_room (Nat.le_of_ble_eq_true rfl)) d_Lw_law_1200 ⟨(Nat.le_of_ble_eq_true rfl), (Nat.le_of_ble_eq_true rfl)⟩) hS (fun q _ h => hFc q h) hFc (fun r u t H locs ht hvm hw hB hz1 hk1 hS => ?_)
  have hP := pu_kept hP hk1
  obtain rfl : r = 0 := hw
  refine lv_icmp_eq (tgt := 1208) hx hb d_Lw_law_1203 (by decide) (fun _ => ?_) (fun h => absurd (by decide) h)
  refine lv_iinc (k := 0) (v := 6) hx hb d_Lw_law_1208 hl rfl (by first | rfl | decide | exact nI_1 i | exact pv_1 j hj) (by decide) rfl (fun ls hl => ?_)
  have hl : lv_has ls 4 [(3, .int 6), (2, .ref oM), (1, .ref oB), (0, .ref b)] := hl
  refine lv_goto (tgt := 18) hx hb d_Lw_law_1211 (by decide) ?_
  refine lv_iload_n hx hb d_Lw_law_18 rfl (lv_at hl 0 rfl) ?_
  refine lv_aload_n hx hb d_Lw_law_19 rfl (lv_at hl 3 rfl) ?_
  refine va_slen hx hb hX hbl hbA hS d_Lw_law_20 ?_
  refine lv_topi (fun x0 e0 => ?_)
  obtain rfl : x0 = 6 := e0.trans (by decide)
  refine lv_bipush (v := 6) hx hb d_Lw_law_21 (by decide) ?_
  refine lv_isub hx hb d_Lw_law_23 ?_
  refine lv_topi (fun x0 e0 => ?_)
  obtain rfl : x0 = 0 := e0.trans (by decide)
  refine lv_icmp_gt (tgt := 1214) hx hb d_Lw_law_24 (by decide) (fun _ => ?_) (fun h => absurd (by decide) h)
  refine lv_iconst (v := 1) hx hb d_Lw_law_1214 (by decide) ?_
  refine va_forget (fun q hq => hAf _ (hS.2.2 q hq)) ?_
  refine W.widen (k := 600000) (n := 7302250) (Nat.le_of_ble_eq_true rfl) (Nat.le_of_ble_eq_true rfl) ?_
  exact lw_ret hx hb hr hlocks d_Lw_law_1215
