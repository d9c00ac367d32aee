theorem mw_1181 : (.methodLink "BreweryHouseLaw" 63 y_Bh_act : Cond) ∈ lw_gd := tb_mem (i := 1181) (by decide +kernel) (by decide +kernel)
theorem mw_1182 : (.instanceMethod y_Bh_act : Cond) ∈ lw_gd := tb_mem (i := 1182) (by decide +kernel) (by decide +kernel)
theorem mw_1183 : (.selects "BreweryHouse" y_Bh_act y_Bh_act : Cond) ∈ lw_gd := tb_mem (i := 1183) (by decide +kernel) (by decide +kernel)
theorem mw_1184 : (.code y_Bh_act b_Bh_act 3 (some .int) : Cond) ∈ lw_gd := tb_mem (i := 1184) (by decide +kernel) (by decide +kernel)
theorem mw_1293 : (.methodLink "BreweryHouseLaw" 68 y_Bh_start : Cond) ∈ lw_gd := tb_mem (i := 1293) (by decide +kernel) (by decide +kernel)
theorem mw_1294 : (.instanceMethod y_Bh_start : Cond) ∈ lw_gd := tb_mem (i := 1294) (by decide +kernel) (by decide +kernel)
theorem mw_1295 : (.selects "BreweryHouse" y_Bh_start y_Bh_start : Cond) ∈ lw_gd := tb_mem (i := 1295) (by decide +kernel) (by decide +kernel)
theorem mw_1296 : (.code y_Bh_start b_Bh_start 1 (some .boolean) : Cond) ∈ lw_gd := tb_mem (i := 1296) (by decide +kernel) (by decide +kernel)
theorem mw_1318 : (.methodLink "BreweryHouseLaw" 73 y_Bh_tick : Cond) ∈ lw_gd := tb_mem (i := 1318) (by decide +kernel) (by decide +kernel)
theorem mw_1319 : (.instanceMethod y_Bh_tick : Cond) ∈ lw_gd := tb_mem (i := 1319) (by decide +kernel) (by decide +kernel)
theorem mw_1320 : (.selects "BreweryHouse" y_Bh_tick y_Bh_tick : Cond) ∈ lw_gd := tb_mem (i := 1320) (by decide +kernel) (by decide +kernel)
theorem mw_1321 : (.code y_Bh_tick b_Bh_tick 3 (some .int) : Cond) ∈ lw_gd := tb_mem (i := 1321) (by decide +kernel) (by decide +kernel)
theorem mw_1468 : (.methodLink "BreweryHouseLaw" 77 y_Bh_answer : Cond) ∈ lw_gd := tb_mem (i := 1468) (by decide +kernel) (by decide +kernel)
theorem mw_1469 : (.instanceMethod y_Bh_answer : Cond) ∈ lw_gd := tb_mem (i := 1469) (by decide +kernel) (by decide +kernel)
theorem mw_1470 : (.selects "BreweryHouse" y_Bh_answer y_Bh_answer : Cond) ∈ lw_gd := tb_mem (i := 1470) (by decide +kernel) (by decide +kernel)
theorem mw_1471 : (.code y_Bh_answer b_Bh_answer 3 (some .boolean) : Cond) ∈ lw_gd := tb_mem (i := 1471) (by decide +kernel) (by decide +kernel)
theorem mw_1480 : (.methodLink "BreweryHouseLaw" 82 y_Bh_hold : Cond) ∈ lw_gd := tb_mem (i := 1480) (by decide +kernel) (by decide +kernel)
theorem mw_1481 : (.instanceMethod y_Bh_hold : Cond) ∈ lw_gd := tb_mem (i := 1481) (by decide +kernel) (by decide +kernel)
theorem mw_1482 : (.selects "BreweryHouse" y_Bh_hold y_Bh_hold : Cond) ∈ lw_gd := tb_mem (i := 1482) (by decide +kernel) (by decide +kernel)
theorem mw_1483 : (.code y_Bh_hold b_Bh_hold 2 (some .boolean) : Cond) ∈ lw_gd := tb_mem (i := 1483) (by decide +kernel) (by decide +kernel)
theorem mw_1484 : (.methodLink "BreweryHouseLaw" 87 y_Bh_stop : Cond) ∈ lw_gd := tb_mem (i := 1484) (by decide +kernel) (by decide +kernel)
theorem mw_1485 : (.instanceMethod y_Bh_stop : Cond) ∈ lw_gd := tb_mem (i := 1485) (by decide +kernel) (by decide +kernel)
theorem mw_1486 : (.selects "BreweryHouse" y_Bh_stop y_Bh_stop : Cond) ∈ lw_gd := tb_mem (i := 1486) (by decide +kernel) (by decide +kernel)
theorem mw_1487 : (.code y_Bh_stop b_Bh_stop 1 (some .boolean) : Cond) ∈ lw_gd := tb_mem (i := 1487) (by decide +kernel) (by decide +kernel)
theorem mw_1488 : (.methodLink "BreweryHouseLaw" 91 y_Bh_pass : Cond) ∈ lw_gd := tb_mem (i := 1488) (by decide +kernel) (by decide +kernel)
theorem mw_1489 : (.instanceMethod y_Bh_pass : Cond) ∈ lw_gd := tb_mem (i := 1489) (by decide +kernel) (by decide +kernel)
theorem mw_1490 : (.selects "BreweryHouse" y_Bh_pass y_Bh_pass : Cond) ∈ lw_gd := tb_mem (i := 1490) (by decide +kernel) (by decide +kernel)
theorem mw_1491 : (.code y_Bh_pass b_Bh_pass 5 (some .int) : Cond) ∈ lw_gd := tb_mem (i := 1491) (by decide +kernel) (by decide +kernel)
theorem mw_1499 : (.methodLink "BreweryHouseLaw" 96 y_Bh_reset : Cond) ∈ lw_gd := tb_mem (i := 1499) (by decide +kernel) (by decide +kernel)
theorem mw_1500 : (.instanceMethod y_Bh_reset : Cond) ∈ lw_gd := tb_mem (i := 1500) (by decide +kernel) (by decide +kernel)
theorem mw_1501 : (.selects "BreweryHouse" y_Bh_reset y_Bh_reset : Cond) ∈ lw_gd := tb_mem (i := 1501) (by decide +kernel) (by decide +kernel)
theorem mw_1502 : (.code y_Bh_reset b_Bh_reset 3 (some .boolean) : Cond) ∈ lw_gd := tb_mem (i := 1502) (by decide +kernel) (by decide +kernel)
theorem mw_1504 : (.methodLink "BreweryHouseLaw" 101 y_Bh_bars : Cond) ∈ lw_gd := tb_mem (i := 1504) (by decide +kernel) (by decide +kernel)
theorem mw_1505 : (.instanceMethod y_Bh_bars : Cond) ∈ lw_gd := tb_mem (i := 1505) (by decide +kernel) (by decide +kernel)
theorem mw_1506 : (.selects "BreweryHouse" y_Bh_bars y_Bh_bars : Cond) ∈ lw_gd := tb_mem (i := 1506) (by decide +kernel) (by decide +kernel)
theorem mw_1507 : (.code y_Bh_bars b_Bh_bars 2 (some .int) : Cond) ∈ lw_gd := tb_mem (i := 1507) (by decide +kernel) (by decide +kernel)
theorem mw_1509 : (.methodLink "BreweryHouseLaw" 105 y_Bh_row : Cond) ∈ lw_gd := tb_mem (i := 1509) (by decide +kernel) (by decide +kernel)
theorem mw_1510 : (.instanceMethod y_Bh_row : Cond) ∈ lw_gd := tb_mem (i := 1510) (by decide +kernel) (by decide +kernel)
theorem mw_1511 : (.selects "BreweryHouse" y_Bh_row y_Bh_row : Cond) ∈ lw_gd := tb_mem (i := 1511) (by decide +kernel) (by decide +kernel)
theorem mw_1512 : (.code y_Bh_row b_Bh_row 4 (some .int) : Cond) ∈ lw_gd := tb_mem (i := 1512) (by decide +kernel) (by decide +kernel)
theorem mw_2470 : (.methodLink "BreweryHouseLaw" 67 y_Mo_act : Cond) ∈ lw_gd := tb_mem (i := 2470) (by decide +kernel) (by decide +kernel)
theorem mw_2471 : (.instanceMethod y_Mo_act : Cond) ∈ lw_gd := tb_mem (i := 2471) (by decide +kernel) (by decide +kernel)
theorem mw_2472 : (.selects "BreweryHouseModel" y_Mo_act y_Mo_act : Cond) ∈ lw_gd := tb_mem (i := 2472) (by decide +kernel) (by decide +kernel)
theorem mw_2473 : (.code y_Mo_act b_Mo_act 3 (some .int) : Cond) ∈ lw_gd := tb_mem (i := 2473) (by decide +kernel) (by decide +kernel)
theorem mw_2545 : (.methodLink "BreweryHouseLaw" 95 y_Mo_pass : Cond) ∈ lw_gd := tb_mem (i := 2545) (by decide +kernel) (by decide +kernel)
theorem mw_2546 : (.instanceMethod y_Mo_pass : Cond) ∈ lw_gd := tb_mem (i := 2546) (by decide +kernel) (by decide +kernel)
theorem mw_2547 : (.selects "BreweryHouseModel" y_Mo_pass y_Mo_pass : Cond) ∈ lw_gd := tb_mem (i := 2547) (by decide +kernel) (by decide +kernel)
theorem mw_2548 : (.code y_Mo_pass b_Mo_pass 5 (some .int) : Cond) ∈ lw_gd := tb_mem (i := 2548) (by decide +kernel) (by decide +kernel)
theorem mw_2557 : (.methodLink "BreweryHouseLaw" 100 y_Mo_reset : Cond) ∈ lw_gd := tb_mem (i := 2557) (by decide +kernel) (by decide +kernel)
theorem mw_2558 : (.instanceMethod y_Mo_reset : Cond) ∈ lw_gd := tb_mem (i := 2558) (by decide +kernel) (by decide +kernel)
theorem mw_2559 : (.selects "BreweryHouseModel" y_Mo_reset y_Mo_reset : Cond) ∈ lw_gd := tb_mem (i := 2559) (by decide +kernel) (by decide +kernel)
theorem mw_2560 : (.code y_Mo_reset b_Mo_reset 2 (some .boolean) : Cond) ∈ lw_gd := tb_mem (i := 2560) (by decide +kernel) (by decide +kernel)
theorem mw_2565 : (.methodLink "BreweryHouseLaw" 104 y_Mo_bars : Cond) ∈ lw_gd := tb_mem (i := 2565) (by decide +kernel) (by decide +kernel)
theorem mw_2566 : (.instanceMethod y_Mo_bars : Cond) ∈ lw_gd := tb_mem (i := 2566) (by decide +kernel) (by decide +kernel)
theorem mw_2567 : (.selects "BreweryHouseModel" y_Mo_bars y_Mo_bars : Cond) ∈ lw_gd := tb_mem (i := 2567) (by decide +kernel) (by decide +kernel)
theorem mw_2568 : (.code y_Mo_bars b_Mo_bars 2 (some .int) : Cond) ∈ lw_gd := tb_mem (i := 2568) (by decide +kernel) (by decide +kernel)
theorem mw_2569 : (.methodLink "BreweryHouseLaw" 108 y_Mo_row : Cond) ∈ lw_gd := tb_mem (i := 2569) (by decide +kernel) (by decide +kernel)
theorem mw_2570 : (.instanceMethod y_Mo_row : Cond) ∈ lw_gd := tb_mem (i := 2570) (by decide +kernel) (by decide +kernel)
theorem mw_2571 : (.selects "BreweryHouseModel" y_Mo_row y_Mo_row : Cond) ∈ lw_gd := tb_mem (i := 2571) (by decide +kernel) (by decide +kernel)
theorem mw_2572 : (.code y_Mo_row b_Mo_row 3 (some .int) : Cond) ∈ lw_gd := tb_mem (i := 2572) (by decide +kernel) (by decide +kernel)
theorem mw_2574 : (.methodLink "BreweryHouseLaw" 72 y_Mo_start : Cond) ∈ lw_gd := tb_mem (i := 2574) (by decide +kernel) (by decide +kernel)
theorem mw_2575 : (.instanceMethod y_Mo_start : Cond) ∈ lw_gd := tb_mem (i := 2575) (by decide +kernel) (by decide +kernel)
theorem mw_2576 : (.selects "BreweryHouseModel" y_Mo_start y_Mo_start : Cond) ∈ lw_gd := tb_mem (i := 2576) (by decide +kernel) (by decide +kernel)
theorem mw_2577 : (.code y_Mo_start b_Mo_start 5 (some .boolean) : Cond) ∈ lw_gd := tb_mem (i := 2577) (by decide +kernel) (by decide +kernel)
theorem mw_2599 : (.methodLink "BreweryHouseLaw" 76 y_Mo_tick : Cond) ∈ lw_gd := tb_mem (i := 2599) (by decide +kernel) (by decide +kernel)
theorem mw_2600 : (.instanceMethod y_Mo_tick : Cond) ∈ lw_gd := tb_mem (i := 2600) (by decide +kernel) (by decide +kernel)
theorem mw_2601 : (.selects "BreweryHouseModel" y_Mo_tick y_Mo_tick : Cond) ∈ lw_gd := tb_mem (i := 2601) (by decide +kernel) (by decide +kernel)
theorem mw_2602 : (.code y_Mo_tick b_Mo_tick 5 (some .int) : Cond) ∈ lw_gd := tb_mem (i := 2602) (by decide +kernel) (by decide +kernel)
theorem mw_2667 : (.methodLink "BreweryHouseLaw" 81 y_Mo_answer : Cond) ∈ lw_gd := tb_mem (i := 2667) (by decide +kernel) (by decide +kernel)
theorem mw_2668 : (.instanceMethod y_Mo_answer : Cond) ∈ lw_gd := tb_mem (i := 2668) (by decide +kernel) (by decide +kernel)
theorem mw_2669 : (.selects "BreweryHouseModel" y_Mo_answer y_Mo_answer : Cond) ∈ lw_gd := tb_mem (i := 2669) (by decide +kernel) (by decide +kernel)
theorem mw_2670 : (.code y_Mo_answer b_Mo_answer 4 (some .boolean) : Cond) ∈ lw_gd := tb_mem (i := 2670) (by decide +kernel) (by decide +kernel)
theorem mw_2675 : (.methodLink "BreweryHouseLaw" 86 y_Mo_hold : Cond) ∈ lw_gd := tb_mem (i := 2675) (by decide +kernel) (by decide +kernel)
theorem mw_2676 : (.instanceMethod y_Mo_hold : Cond) ∈ lw_gd := tb_mem (i := 2676) (by decide +kernel) (by decide +kernel)
theorem mw_2677 : (.selects "BreweryHouseModel" y_Mo_hold y_Mo_hold : Cond) ∈ lw_gd := tb_mem (i := 2677) (by decide +kernel) (by decide +kernel)
theorem mw_2678 : (.code y_Mo_hold b_Mo_hold 2 (some .boolean) : Cond) ∈ lw_gd := tb_mem (i := 2678) (by decide +kernel) (by decide +kernel)
theorem mw_2679 : (.methodLink "BreweryHouseLaw" 90 y_Mo_stop : Cond) ∈ lw_gd := tb_mem (i := 2679) (by decide +kernel) (by decide +kernel)
theorem mw_2680 : (.instanceMethod y_Mo_stop : Cond) ∈ lw_gd := tb_mem (i := 2680) (by decide +kernel) (by decide +kernel)
theorem mw_2681 : (.selects "BreweryHouseModel" y_Mo_stop y_Mo_stop : Cond) ∈ lw_gd := tb_mem (i := 2681) (by decide +kernel) (by decide +kernel)
theorem mw_2682 : (.code y_Mo_stop b_Mo_stop 1 (some .boolean) : Cond) ∈ lw_gd := tb_mem (i := 2682) (by decide +kernel) (by decide +kernel)
theorem d_Lw_law_694 : decode code 694 = .ok (.aload_n 1, 1) := dk_0 a_Lw_law_694 (dko_43 _)
theorem d_Lw_law_695 : decode code 695 = .ok (.aload_n 0, 1) := dk_0 a_Lw_law_695 (dko_42 _)
theorem d_Lw_law_696 : decode code 696 = .ok (.iload_n 3, 1) := dk_0 a_Lw_law_696 (dko_29 _)
theorem d_Lw_law_697 : decode code 697 = .ok (.iconst 1, 1) := dk_0 a_Lw_law_697 (dko_4 _)
theorem d_Lw_law_698 : decode code 698 = .ok (.iadd, 1) := dk_0 a_Lw_law_698 (dko_96 _)
theorem d_Lw_law_699 : decode code 699 = .ok (.iaload, 1) := dk_0 a_Lw_law_699 (dko_46 _)
theorem d_Lw_law_700 : decode code 700 = .ok (.invokevirtual 63, 3) := dk_U2 a_Lw_law_700 (dko_182 _) rfl
theorem d_Lw_law_703 : decode code 703 = .ok (.aload_n 2, 1) := dk_0 a_Lw_law_703 (dko_44 _)
theorem d_Lw_law_704 : decode code 704 = .ok (.aload_n 0, 1) := dk_0 a_Lw_law_704 (dko_42 _)
theorem d_Lw_law_705 : decode code 705 = .ok (.iload_n 3, 1) := dk_0 a_Lw_law_705 (dko_29 _)
theorem d_Lw_law_706 : decode code 706 = .ok (.iconst 1, 1) := dk_0 a_Lw_law_706 (dko_4 _)
theorem d_Lw_law_707 : decode code 707 = .ok (.iadd, 1) := dk_0 a_Lw_law_707 (dko_96 _)
theorem d_Lw_law_708 : decode code 708 = .ok (.iaload, 1) := dk_0 a_Lw_law_708 (dko_46 _)
theorem d_Lw_law_709 : decode code 709 = .ok (.invokevirtual 67, 3) := dk_U2 a_Lw_law_709 (dko_182 _) rfl
theorem d_Lw_law_712 : decode code 712 = .ok (.if_icmp .eq 496, 3) := dk_S2 a_Lw_law_712 (dko_159 _) (by decide +kernel)
set_option maxHeartbeats 4000000 in
set_option maxRecDepth 100000 in
theorem lk_10 {p : Program} {e : Env} {s : State} {m : MethodId} {below : List Frame} {meth : Method} {c : Code} (l : Launch) {b : Nat} {xs : Nat → Int32} {H : Heap} {locs : List Loc} {ls : Array Slot} {dC : Nat → ClassId} {dI : Nat → Nat → Nat} {cI cB cZ cJ : ClassId} {A : Nat → Prop} (hx : p.tables.exec = Jvm.exec) (hb : c.code = code) (hr : meth.sig.returnType = ret) (hml : c.maxLocals = 4) (hown : s.vm.findClass R_law = some m.cls) (hts : ∀ w ∈ (lw_w0 :: lw_gd), w.before #[Value.ref b] s = true) (hX : va_X b 6 xs s s.heap) (hbl : b < s.heap.size) (hlocks : meth.locks = false) (hK : KK dC dI cI cB cZ cJ s) (hA : ∀ q, s.heap.size ≤ q → A q) (hAf : ∀ q, A q → s.heap.size ≤ q) (hbA : ¬ A b) (oB : Nat) (oAc : Nat) (xc_what : Nat) (oSt : Nat) (oAl : Nat) (xa_seconds : Nat) (xa_nodes : Nat) (xa_kinds : Nat) (oM : Nat) (am_xs : Nat) (am_ys : Nat) (am_does : Nat) (am_alarmSeconds : Nat) (am_alarmNodes : Nat) (am_alarmKinds : Nat) (xb : List Value) (hb_alarms : fx xb 1 (.ref oAl)) (hb_stock : fx xb 2 (.ref oSt)) (hb_acts : fx xb 5 (.ref oAc)) (xc : List Value) (hac_what : fx xc 4 (.ref xc_what)) (xs_ : List Value) (hst_now : fx xs_ 1 (.int 0)) (xa : List Value) (hal_count : fx xa 0 (.int 0)) (hal_seconds : fx xa 1 (.ref xa_seconds)) (hal_nodes : fx xa 2 (.ref xa_nodes)) (hal_kinds : fx xa 3 (.ref xa_kinds)) (fm : List Value) (hm_does : fx fm 49 (.ref am_does)) (hm_xs : fx fm 50 (.ref am_xs)) (hm_ys : fx fm 51 (.ref am_ys)) (hm_now : fx fm 78 (.int 0)) (hm_alarms : fx fm 79 (.int 0)) (hm_alarmSeconds : fx fm 80 (.ref am_alarmSeconds)) (hm_alarmNodes : fx fm 81 (.ref am_alarmNodes)) (hm_alarmKinds : fx fm 82 (.ref am_alarmKinds)) (hP : va_P (dC, dI) classes [(oB, .inr (0, xb)), (oAc, .inr (11, xc)), (xc_what, .inl (cI, 32, .inl ((fun _ => (-1))))), (oSt, .inr (4, xs_)), (oAl, .inr (2, xa)), (xa_seconds, .inl (cI, 200, .inl (fun _ => 0))), (xa_nodes, .inl (cI, 200, .inl (fun _ => 0))), (xa_kinds, .inl (cI, 200, .inl (fun _ => 0))), (oM, .inr (12, fm)), (am_xs, .inl (cI, 32, .inl (fun _ => 0))), (am_ys, .inl (cI, 32, .inl (fun _ => 0))), (am_does, .inl (cI, 32, .inl ((fun _ => (-1))))), (am_alarmSeconds, .inl (cI, 200, .inl (fun _ => 0))), (am_alarmNodes, .inl (cI, 200, .inl (fun _ => 0))), (am_alarmKinds, .inl (cI, 200, .inl (fun _ => 0)))] H) (hD : va_D A [(oB, .inr (0, xb)), (oAc, .inr (11, xc)), (xc_what, .inl (cI, 32, .inl ((fun _ => (-1))))), (oSt, .inr (4, xs_)), (oAl, .inr (2, xa)), (xa_seconds, .inl (cI, 200, .inl (fun _ => 0))), (xa_nodes, .inl (cI, 200, .inl (fun _ => 0))), (xa_kinds, .inl (cI, 200, .inl (fun _ => 0))), (oM, .inr (12, fm)), (am_xs, .inl (cI, 32, .inl (fun _ => 0))), (am_ys, .inl (cI, 32, .inl (fun _ => 0))), (am_does, .inl (cI, 32, .inl ((fun _ => (-1))))), (am_alarmSeconds, .inl (cI, 200, .inl (fun _ => 0))), (am_alarmNodes, .inl (cI, 200, .inl (fun _ => 0))), (am_alarmKinds, .inl (cI, 200, .inl (fun _ => 0)))]) (hS : va_S A s.heap H locs) (hl : lv_has ls 4 [(3, .int 0), (2, .ref oM), (1, .ref oB), (0, .ref b)]) : W p l e room_1 s m #[Value.ref b] below meth c H locs 221 83122 (lw_Z below #[Value.ref b] s) (F0 m 694 ls []) := by
  refine lv_aload_n hx hb d_Lw_law_694 rfl (lv_at hl 2 rfl) ?_
  refine lv_aload_n hx hb d_Lw_law_695 rfl (lv_at hl 3 rfl) ?_
  refine lv_iload_n hx hb d_Lw_law_696 rfl (lv_at hl 0 rfl) ?_
  refine lv_iconst (v := 1) hx hb d_Lw_law_697 (by decide) ?_
  refine lv_iadd hx hb d_Lw_law_698 ?_
  refine lv_topi (fun x0 e0 => ?_)
  obtain rfl : x0 = 1 := e0.trans (by decide)
  refine va_sld hx hb hX hbl hbA hS (vp_in_iff.mpr (by decide)) d_Lw_law_699 ?_
  refine lv_topi (fun x0 e0 => ?_)
  obtain rfl : x0 = xs 1 := e0
  have hPc := hP.sub (ws' := [(oB, .inr (0, xb)), (oAc, .inr (11, xc)), (xc_what, .inl (cI, 32, .inl ((fun _ => (-1))))), (oSt, .inr (4, xs_)), (oAl, .inr (2, xa)), (xa_seconds, .inl (cI, 200, .inl (fun _ => 0))), (xa_nodes, .inl (cI, 200, .inl (fun _ => 0))), (xa_kinds, .inl (cI, 200, .inl (fun _ => 0)))]) [0, 1, 2, 3, 4, 5, 6, 7] rfl
  have hDc := hD.sub (ws' := [(oB, .inr (0, xb)), (oAc, .inr (11, xc)), (xc_what, .inl (cI, 32, .inl ((fun _ => (-1))))), (oSt, .inr (4, xs_)), (oAl, .inr (2, xa)), (xa_seconds, .inl (cI, 200, .inl (fun _ => 0))), (xa_nodes, .inl (cI, 200, .inl (fun _ => 0))), (xa_kinds, .inl (cI, 200, .inl (fun _ => 0)))]) [0, 1, 2, 3, 4, 5, 6, 7] (by decide) rfl
  have hFc := va_free (wc := [(oB, .inr (0, xb)), (oAc, .inr (11, xc)), (xc_what, .inl (cI, 32, .inl ((fun _ => (-1))))), (oSt, .inr (4, xs_)), (oAl, .inr (2, xa)), (xa_seconds, .inl (cI, 200, .inl (fun _ => 0))), (xa_nodes, .inl (cI, 200, .inl (fun _ => 0))), (xa_kinds, .inl (cI, 200, .inl (fun _ => 0)))]) hD hS hA [0, 1, 2, 3, 4, 5, 6, 7] rfl
  refine va_calli (va_runV (C := R_Bh) (As := [.int (xs 1)]) (rest := []) ⟨hx, hb, hml, hown, hts⟩ (c_Bh_act l dC dI cI cB cZ cJ (xs 1) oB oAc xc_what oSt oAl xa_seconds xa_nodes xa_kinds xb hb_alarms hb_stock hb_acts xc hac_what xs_ hst_now xa hal_count hal_seconds hal_nodes hal_kinds H.size) (cwV 1 hts (tb_V mw_1181 mw_1182 mw_1183 mw_1 mw_1184) rfl rfl rfl ⟨rfl, by decide +kernel, by decide +kernel, by decide +kernel⟩ ⟨(Nat.le_of_ble_eq_true rfl), (Nat.le_of_ble_eq_true rfl)⟩) ⟨pw_blind, va_recv (q := (R_Bh, F_Bh, 16)) hK.1 hP (ci := 0) (q0 := 0) rfl rfl, pw_pre hPc hK hDc⟩ rfl rfl hl.1 rfl (lv_room (Nat.le_of_ble_eq_true rfl)) d_Lw_law_700 ⟨(Nat.le_of_ble_eq_true rfl), (Nat.le_of_ble_eq_true rfl)⟩) hS (fun q _ h => hFc q h) hFc (fun r u t H locs ht hvm hw hB hz1 hk1 hS => ?_)
  obtain ⟨hP, hD⟩ := va_join (wr := [(oM, .inr (12, fm)), (am_xs, .inl (cI, 32, .inl (fun _ => 0))), (am_ys, .inl (cI, 32, .inl (fun _ => 0))), (am_does, .inl (cI, 32, .inl ((fun _ => (-1))))), (am_alarmSeconds, .inl (cI, 200, .inl (fun _ => 0))), (am_alarmNodes, .inl (cI, 200, .inl (fun _ => 0))), (am_alarmKinds, .inl (cI, 200, .inl (fun _ => 0)))]) (w1 := []) hP hD [0, 1, 2, 3, 4, 5, 6, 7] [8, 9, 10, 11, 12, 13, 14] rfl rfl (by decide) (by decide) hk1 hFc wn_P wn_D
  have hP : va_P (dC, dI) classes [(oM, .inr (12, fm)), (am_xs, .inl (cI, 32, .inl (fun _ => 0))), (am_ys, .inl (cI, 32, .inl (fun _ => 0))), (am_does, .inl (cI, 32, .inl ((fun _ => (-1))))), (am_alarmSeconds, .inl (cI, 200, .inl (fun _ => 0))), (am_alarmNodes, .inl (cI, 200, .inl (fun _ => 0))), (am_alarmKinds, .inl (cI, 200, .inl (fun _ => 0)))] H := hP
  have hD : va_D A [(oM, .inr (12, fm)), (am_xs, .inl (cI, 32, .inl (fun _ => 0))), (am_ys, .inl (cI, 32, .inl (fun _ => 0))), (am_does, .inl (cI, 32, .inl ((fun _ => (-1))))), (am_alarmSeconds, .inl (cI, 200, .inl (fun _ => 0))), (am_alarmNodes, .inl (cI, 200, .inl (fun _ => 0))), (am_alarmKinds, .inl (cI, 200, .inl (fun _ => 0)))] := hD
  obtain rfl : r = (fn_Bh_act (xs 1)) := hw
  refine lv_aload_n hx hb d_Lw_law_703 rfl (lv_at hl 1 rfl) ?_
  refine lv_aload_n hx hb d_Lw_law_704 rfl (lv_at hl 3 rfl) ?_
  refine lv_iload_n hx hb d_Lw_law_705 rfl (lv_at hl 0 rfl) ?_
  refine lv_iconst (v := 1) hx hb d_Lw_law_706 (by decide) ?_
  refine lv_iadd hx hb d_Lw_law_707 ?_
  refine lv_topi (fun x0 e0 => ?_)
  obtain rfl : x0 = 1 := e0.trans (by decide)
  refine va_sld hx hb hX hbl hbA hS (vp_in_iff.mpr (by decide)) d_Lw_law_708 ?_
  refine lv_topi (fun x0 e0 => ?_)
  obtain rfl : x0 = xs 1 := e0
  have hPc := hP.sub (ws' := [(oM, .inr (12, fm)), (am_xs, .inl (cI, 32, .inl (fun _ => 0))), (am_ys, .inl (cI, 32, .inl (fun _ => 0))), (am_does, .inl (cI, 32, .inl ((fun _ => (-1))))), (am_alarmSeconds, .inl (cI, 200, .inl (fun _ => 0))), (am_alarmNodes, .inl (cI, 200, .inl (fun _ => 0))), (am_alarmKinds, .inl (cI, 200, .inl (fun _ => 0)))]) [0, 1, 2, 3, 4, 5, 6] rfl
  have hDc := hD.sub (ws' := [(oM, .inr (12, fm)), (am_xs, .inl (cI, 32, .inl (fun _ => 0))), (am_ys, .inl (cI, 32, .inl (fun _ => 0))), (am_does, .inl (cI, 32, .inl ((fun _ => (-1))))), (am_alarmSeconds, .inl (cI, 200, .inl (fun _ => 0))), (am_alarmNodes, .inl (cI, 200, .inl (fun _ => 0))), (am_alarmKinds, .inl (cI, 200, .inl (fun _ => 0)))]) [0, 1, 2, 3, 4, 5, 6] (by decide) rfl
  have hFc := va_free (wc := [(oM, .inr (12, fm)), (am_xs, .inl (cI, 32, .inl (fun _ => 0))), (am_ys, .inl (cI, 32, .inl (fun _ => 0))), (am_does, .inl (cI, 32, .inl ((fun _ => (-1))))), (am_alarmSeconds, .inl (cI, 200, .inl (fun _ => 0))), (am_alarmNodes, .inl (cI, 200, .inl (fun _ => 0))), (am_alarmKinds, .inl (cI, 200, .inl (fun _ => 0)))]) hD hS hA [0, 1, 2, 3, 4, 5, 6] rfl
  refine va_calli (va_runV (C := R_Mo) (As := [.int (xs 1)]) (rest := [.int ((fn_Bh_act (xs 1)))]) ⟨hx, hb, hml, hown, hts⟩ (c_Mo_act l dC dI cI cB cZ cJ (xs 1) oM am_xs am_ys am_does am_alarmSeconds am_alarmNodes am_alarmKinds fm hm_does hm_xs hm_ys hm_now hm_alarms hm_alarmSeconds hm_alarmNodes hm_alarmKinds H.size) (cwV 1 hts (tb_V mw_2470 mw_2471 mw_2472 mw_18 mw_2473) rfl rfl rfl ⟨rfl, by decide +kernel, by decide +kernel, by decide +kernel⟩ ⟨(Nat.le_of_ble_eq_true rfl), (Nat.le_of_ble_eq_true rfl)⟩) ⟨pw_blind, va_recv (q := (R_Mo, F_Mo, 87)) hK.1 hP (ci := 12) (q0 := 0) rfl rfl, pw_pre hPc hK hDc⟩ rfl rfl hl.1 rfl (lv_room (Nat.le_of_ble_eq_true rfl)) d_Lw_law_709 ⟨(Nat.le_of_ble_eq_true rfl), (Nat.le_of_ble_eq_true rfl)⟩) hS (fun q _ h => hFc q h) hFc (fun r u t H locs ht hvm hw hB hz1 hk1 hS => ?_)
  obtain ⟨hP, hD⟩ := va_join (wr := []) (w1 := []) hP hD [0, 1, 2, 3, 4, 5, 6] [] rfl rfl (by decide) (by decide) hk1 hFc wn_P wn_D
  have hP : va_P (dC, dI) classes [] H := hP
  have hD : va_D A [] := hD
  obtain rfl : r = (fn_Mo_act (xs 1)) := hw
  refine lv_icmp_eq (tgt := 1208) hx hb d_Lw_law_712 (by decide) (fun _ => ?_) (fun h => absurd (eq_act (xs 1)) h)
  refine lv_iinc (k := 0) (v := 6) hx hb d_Lw_law_1208 hl rfl (by first | rfl | decide | exact nI_1 i | exact pv_1 j hj) (by decide) rfl (fun ls hl => ?_)
  have hl : lv_has ls 4 [(3, .int 6), (2, .ref oM), (1, .ref oB), (0, .ref b)] := hl
  refine lv_goto (tgt := 18) hx hb d_Lw_law_1211 (by decide) ?_
  refine lv_iload_n hx hb d_Lw_law_18 rfl (lv_at hl 0 rfl) ?_
  refine lv_aload_n hx hb d_Lw_law_19 rfl (lv_at hl 3 rfl) ?_
  refine va_slen hx hb hX hbl hbA hS d_Lw_law_20 ?_
  refine lv_topi (fun x0 e0 => ?_)
  obtain rfl : x0 = 6 := e0.trans (by decide)
  refine lv_bipush (v := 6) hx hb d_Lw_law_21 (by decide) ?_
  refine lv_isub hx hb d_Lw_law_23 ?_
  refine lv_topi (fun x0 e0 => ?_)
  obtain rfl : x0 = 0 := e0.trans (by decide)
  refine lv_icmp_gt (tgt := 1214) hx hb d_Lw_law_24 (by decide) (fun _ => ?_) (fun h => absurd (by decide) h)
  refine lv_iconst (v := 1) hx hb d_Lw_law_1214 (by decide) ?_
  refine va_forget (fun q hq => hAf _ (hS.2.2 q hq)) ?_
  refine W.widen (k := 600000) (n := 7302250) (Nat.le_of_ble_eq_true rfl) (Nat.le_of_ble_eq_true rfl) ?_
  exact lw_ret hx hb hr hlocks d_Lw_law_1215
theorem d_Lw_law_717 : decode code 717 = .ok (.aload_n 1, 1) := dk_0 a_Lw_law_717 (dko_43 _)
theorem d_Lw_law_718 : decode code 718 = .ok (.invokevirtual 68, 3) := dk_U2 a_Lw_law_718 (dko_182 _) rfl
theorem d_Lw_law_721 : decode code 721 = .ok (.aload_n 2, 1) := dk_0 a_Lw_law_721 (dko_44 _)
theorem d_Lw_law_722 : decode code 722 = .ok (.invokevirtual 72, 3) := dk_U2 a_Lw_law_722 (dko_182 _) rfl
theorem d_Lw_law_725 : decode code 725 = .ok (.if_icmp .eq 483, 3) := dk_S2 a_Lw_law_725 (dko_159 _) (by decide +kernel)
set_option maxHeartbeats 4000000 in
set_option maxRecDepth 100000 in
theorem lk_11 {p : Program} {e : Env} {s : State} {m : MethodId} {below : List Frame} {meth : Method} {c : Code} (l : Launch) {b : Nat} {xs : Nat → Int32} {H : Heap} {locs : List Loc} {ls : Array Slot} {dC : Nat → ClassId} {dI : Nat → Nat → Nat} {cI cB cZ cJ : ClassId} {A : Nat → Prop} (hx : p.tables.exec = Jvm.exec) (hb : c.code = code) (hr : meth.sig.returnType = ret) (hml : c.maxLocals = 4) (hown : s.vm.findClass R_law = some m.cls) (hts : ∀ w ∈ (lw_w0 :: lw_gd), w.before #[Value.ref b] s = true) (hX : va_X b 6 xs s s.heap) (hbl : b < s.heap.size) (hlocks : meth.locks = false) (hK : KK dC dI cI cB cZ cJ s) (hA : ∀ q, s.heap.size ≤ q → A q) (hAf : ∀ q, A q → s.heap.size ≤ q) (hbA : ¬ A b) (oB : Nat) (oRu : Nat) (oG1 : Nat) (oM : Nat) (oT : Nat) (xb : List Value) (hb_run : fx xb 6 (.ref oRu)) (xn : List Value) (hru_program : fx xn 3 (.ref oG1)) (xg : List Value) (hxg_opening : fx xg 2 (.int (-1))) (fm : List Value) (hm_program : fx fm 2 (.ref oT)) (ft : List Value) (ht_topCount : fx ft 31 (.int 0)) (hP : va_P (dC, dI) classes [(oB, .inr (0, xb)), (oRu, .inr (10, xn)), (oG1, .inr (8, xg)), (oM, .inr (12, fm)), (oT, .inr (13, ft))] H) (hD : va_D A [(oB, .inr (0, xb)), (oRu, .inr (10, xn)), (oG1, .inr (8, xg)), (oM, .inr (12, fm)), (oT, .inr (13, ft))]) (hS : va_S A s.heap H locs) (hl : lv_has ls 4 [(3, .int 0), (2, .ref oM), (1, .ref oB), (0, .ref b)]) : W p l e room_1 s m #[Value.ref b] below meth c H locs 221 83122 (lw_Z below #[Value.ref b] s) (F0 m 717 ls []) := by
  refine lv_aload_n hx hb d_Lw_law_717 rfl (lv_at hl 2 rfl) ?_
  have hPc := hP.sub (ws' := [(oB, .inr (0, xb)), (oRu, .inr (10, xn)), (oG1, .inr (8, xg))]) [0, 1, 2] rfl
  have hDc := hD.sub (ws' := [(oB, .inr (0, xb)), (oRu, .inr (10, xn)), (oG1, .inr (8, xg))]) [0, 1, 2] (by decide) rfl
  have hFc := pu_free hS hA
  refine va_calli (va_runV (C := R_Bh) (As := []) (rest := []) ⟨hx, hb, hml, hown, hts⟩ (c_Bh_start l dC dI cI cB cZ cJ oB oRu oG1 xb hb_run xn hru_program xg hxg_opening H.size) (cwV 0 hts (tb_V mw_1293 mw_1294 mw_1295 mw_1 mw_1296) rfl rfl rfl ⟨rfl, by decide +kernel, by decide +kernel, by decide +kernel⟩ ⟨(Nat.le_of_ble_eq_true rfl), (Nat.le_of_ble_eq_true rfl)⟩) ⟨pw_blind, va_recv (q := (R_Bh, F_Bh, 16)) hK.1 hP (ci := 0) (q0 := 0) rfl rfl, pw_pre hPc hK hDc⟩ rfl rfl hl.1 rfl (lv_room (Nat.le_of_ble_eq_true rfl)) d_Lw_law_718 ⟨(Nat.le_of_ble_eq_true rfl), (Nat.le_of_ble_eq_true rfl)⟩) hS (fun q _ h => hFc q h) hFc (fun r u t H locs ht hvm hw hB hz1 hk1 hS => ?_)
  have hP := pu_kept hP hk1
  obtain rfl : r = 0 := hw
  refine lv_aload_n hx hb d_Lw_law_721 rfl (lv_at hl 1 rfl) ?_
  have hPc := hP.sub (ws' := [(oM, .inr (12, fm)), (oT, .inr (13, ft))]) [3, 4] rfl
  have hDc := hD.sub (ws' := [(oM, .inr (12, fm)), (oT, .inr (13, ft))]) [3, 4] (by decide) rfl
  have hFc := pu_free hS hA
  refine va_calli (va_runV (C := R_Mo) (As := []) (rest := [.int 0]) ⟨hx, hb, hml, hown, hts⟩ (c_Mo_start l dC dI cI cB cZ cJ oM oT fm hm_program ft ht_topCount H.size) (cwV 0 hts (tb_V mw_2574 mw_2575 mw_2576 mw_18 mw_2577) rfl rfl rfl ⟨rfl, by decide +kernel, by decide +kernel, by decide +kernel⟩ ⟨(Nat.le_of_ble_eq_true rfl), (Nat.le_of_ble_eq_true rfl)⟩) ⟨pw_blind, va_recv (q := (R_Mo, F_Mo, 87)) hK.1 hP (ci := 12) (q0 := 3) rfl rfl, pw_pre hPc hK hDc⟩ rfl rfl hl.1 rfl (lv_room (Nat.le_of_ble_eq_true rfl)) d_Lw_law_722 ⟨(Nat.le_of_ble_eq_true rfl), (Nat.le_of_ble_eq_true rfl)⟩) hS (fun q _ h => hFc q h) hFc (fun r u t H locs ht hvm hw hB hz1 hk1 hS => ?_)
  have hP := pu_kept hP hk1
  obtain rfl : r = 0 := hw
  refine lv_icmp_eq (tgt := 1208) hx hb d_Lw_law_725 (by decide) (fun _ => ?_) (fun h => absurd (by decide) h)
  refine lv_iinc (k := 0) (v := 6) hx hb d_Lw_law_1208 hl rfl (by first | rfl | decide | exact nI_1 i | exact pv_1 j hj) (by decide) rfl (fun ls hl => ?_)
  have hl : lv_has ls 4 [(3, .int 6), (2, .ref oM), (1, .ref oB), (0, .ref b)] := hl
  refine lv_goto (tgt := 18) hx hb d_Lw_law_1211 (by decide) ?_
  refine lv_iload_n hx hb d_Lw_law_18 rfl (lv_at hl 0 rfl) ?_
  refine lv_aload_n hx hb d_Lw_law_19 rfl (lv_at hl 3 rfl) ?_
  refine va_slen hx hb hX hbl hbA hS d_Lw_law_20 ?_
  refine lv_topi (fun x0 e0 => ?_)
  obtain rfl : x0 = 6 := e0.trans (by decide)
  refine lv_bipush (v := 6) hx hb d_Lw_law_21 (by decide) ?_
  refine lv_isub hx hb d_Lw_law_23 ?_
  refine lv_topi (fun x0 e0 => ?_)
  obtain rfl : x0 = 0 := e0.trans (by decide)
  refine lv_icmp_gt (tgt := 1214) hx hb d_Lw_law_24 (by decide) (fun _ => ?_) (fun h => absurd (by decide) h)
  refine lv_iconst (v := 1) hx hb d_Lw_law_1214 (by decide) ?_
  refine va_forget (fun q hq => hAf _ (hS.2.2 q hq)) ?_
  refine W.widen (k := 600000) (n := 7302250) (Nat.le_of_ble_eq_true rfl) (Nat.le_of_ble_eq_true rfl) ?_
  exact lw_ret hx hb hr hlocks d_Lw_law_1215
theorem d_Lw_law_730 : decode code 730 = .ok (.aload_n 1, 1) := dk_0 a_Lw_law_730 (dko_43 _)
theorem d_Lw_law_731 : decode code 731 = .ok (.aload_n 0, 1) := dk_0 a_Lw_law_731 (dko_42 _)
theorem d_Lw_law_732 : decode code 732 = .ok (.iload_n 3, 1) := dk_0 a_Lw_law_732 (dko_29 _)
theorem d_Lw_law_733 : decode code 733 = .ok (.iconst 1, 1) := dk_0 a_Lw_law_733 (dko_4 _)
theorem d_Lw_law_734 : decode code 734 = .ok (.iadd, 1) := dk_0 a_Lw_law_734 (dko_96 _)
theorem d_Lw_law_735 : decode code 735 = .ok (.iaload, 1) := dk_0 a_Lw_law_735 (dko_46 _)
theorem d_Lw_law_736 : decode code 736 = .ok (.invokevirtual 73, 3) := dk_U2 a_Lw_law_736 (dko_182 _) rfl
theorem d_Lw_law_739 : decode code 739 = .ok (.aload_n 2, 1) := dk_0 a_Lw_law_739 (dko_44 _)
theorem d_Lw_law_740 : decode code 740 = .ok (.aload_n 0, 1) := dk_0 a_Lw_law_740 (dko_42 _)
theorem d_Lw_law_741 : decode code 741 = .ok (.iload_n 3, 1) := dk_0 a_Lw_law_741 (dko_29 _)
theorem d_Lw_law_742 : decode code 742 = .ok (.iconst 1, 1) := dk_0 a_Lw_law_742 (dko_4 _)
theorem d_Lw_law_743 : decode code 743 = .ok (.iadd, 1) := dk_0 a_Lw_law_743 (dko_96 _)
theorem d_Lw_law_744 : decode code 744 = .ok (.iaload, 1) := dk_0 a_Lw_law_744 (dko_46 _)
theorem d_Lw_law_745 : decode code 745 = .ok (.invokevirtual 76, 3) := dk_U2 a_Lw_law_745 (dko_182 _) rfl
theorem d_Lw_law_748 : decode code 748 = .ok (.if_icmp .eq 460, 3) := dk_S2 a_Lw_law_748 (dko_159 _) (by decide +kernel)
set_option maxHeartbeats 4000000 in
set_option maxRecDepth 100000 in
theorem lk_12 {p : Program} {e : Env} {s : State} {m : MethodId} {below : List Frame} {meth : Method} {c : Code} (l : Launch) {b : Nat} {xs : Nat → Int32} {H : Heap} {locs : List Loc} {ls : Array Slot} {dC : Nat → ClassId} {dI : Nat → Nat → Nat} {cI cB cZ cJ : ClassId} {A : Nat → Prop} (hx : p.tables.exec = Jvm.exec) (hb : c.code = code) (hr : meth.sig.returnType = ret) (hml : c.maxLocals = 4) (hown : s.vm.findClass R_law = some m.cls) (hts : ∀ w ∈ (lw_w0 :: lw_gd), w.before #[Value.ref b] s = true) (hX : va_X b 6 xs s s.heap) (hbl : b < s.heap.size) (hlocks : meth.locks = false) (hK : KK dC dI cI cB cZ cJ s) (hA : ∀ q, s.heap.size ≤ q → A q) (hAf : ∀ q, A q → s.heap.size ≤ q) (hbA : ¬ A b) (oB : Nat) (oSt : Nat) (oRu : Nat) (oG1 : Nat) (xb_watchWhat : Nat) (oAc : Nat) (oR1 : Nat) (oWa : Nat) (oM : Nat) (oT : Nat) (am_watchWhat : Nat) (oR : Nat) (xb : List Value) (hb_stock : fx xb 2 (.ref oSt)) (hb_ways : fx xb 3 (.ref oWa)) (hb_acts : fx xb 5 (.ref oAc)) (hb_run : fx xb 6 (.ref oRu)) (hb_watchWhat : fx xb 13 (.ref xb_watchWhat)) (xs_ : List Value) (hst_now : fx xs_ 1 (.int 0)) (xn : List Value) (hru_program : fx xn 3 (.ref oG1)) (hru_state : fx xn 4 (.int 4)) (xg : List Value) (hxg_names : fx xg 10 (.int 0)) (xc : List Value) (hac_rows : fx xc 3 (.ref oR1)) (xr : List Value) (hxr_count : fx xr 0 (.int 0)) (hxr_conditions : fx xr 1 (.int 0)) (xw : List Value) (hwa_count : fx xw 1 (.int 0)) (fm : List Value) (hm_program : fx fm 2 (.ref oT)) (hm_interlocks : fx fm 3 (.ref oR)) (hm_ways : fx fm 26 (.int 0)) (hm_watchWhat : fx fm 55 (.ref am_watchWhat)) (hm_state : fx fm 59 (.int 4)) (hm_now : fx fm 78 (.int 0)) (ft : List Value) (ht_nameCount : fx ft 32 (.int 0)) (fr : List Value) (hr_rows : fx fr 20 (.int 0)) (hP : va_P (dC, dI) classes [(oB, .inr (0, xb)), (oSt, .inr (4, xs_)), (oRu, .inr (10, xn)), (oG1, .inr (8, xg)), (xb_watchWhat, .inl (cI, 16, .inl (fun _ => 5))), (oAc, .inr (11, xc)), (oR1, .inr (7, xr)), (oWa, .inr (5, xw)), (oM, .inr (12, fm)), (oT, .inr (13, ft)), (am_watchWhat, .inl (cI, 16, .inl ((fun _ => (-1))))), (oR, .inr (14, fr))] H) (hD : va_D A [(oB, .inr (0, xb)), (oSt, .inr (4, xs_)), (oRu, .inr (10, xn)), (oG1, .inr (8, xg)), (xb_watchWhat, .inl (cI, 16, .inl (fun _ => 5))), (oAc, .inr (11, xc)), (oR1, .inr (7, xr)), (oWa, .inr (5, xw)), (oM, .inr (12, fm)), (oT, .inr (13, ft)), (am_watchWhat, .inl (cI, 16, .inl ((fun _ => (-1))))), (oR, .inr (14, fr))]) (hS : va_S A s.heap H locs) (hl : lv_has ls 4 [(3, .int 0), (2, .ref oM), (1, .ref oB), (0, .ref b)]) : W p l e room_1 s m #[Value.ref b] below meth c H locs 221 83122 (lw_Z below #[Value.ref b] s) (F0 m 730 ls []) := by
  refine lv_aload_n hx hb d_Lw_law_730 rfl (lv_at hl 2 rfl) ?_
  refine lv_aload_n hx hb d_Lw_law_731 rfl (lv_at hl 3 rfl) ?_
  refine lv_iload_n hx hb d_Lw_law_732 rfl (lv_at hl 0 rfl) ?_
  refine lv_iconst (v := 1) hx hb d_Lw_law_733 (by decide) ?_
  refine lv_iadd hx hb d_Lw_law_734 ?_
  refine lv_topi (fun x0 e0 => ?_)
  obtain rfl : x0 = 1 := e0.trans (by decide)
  refine va_sld hx hb hX hbl hbA hS (vp_in_iff.mpr (by decide)) d_Lw_law_735 ?_
  refine lv_topi (fun x0 e0 => ?_)
  obtain rfl : x0 = xs 1 := e0
  have hPc := hP.sub (ws' := [(oB, .inr (0, xb)), (oSt, .inr (4, xs_)), (oRu, .inr (10, xn)), (oG1, .inr (8, xg)), (xb_watchWhat, .inl (cI, 16, .inl (fun _ => 5))), (oAc, .inr (11, xc)), (oR1, .inr (7, xr)), (oWa, .inr (5, xw))]) [0, 1, 2, 3, 4, 5, 6, 7] rfl
  have hDc := hD.sub (ws' := [(oB, .inr (0, xb)), (oSt, .inr (4, xs_)), (oRu, .inr (10, xn)), (oG1, .inr (8, xg)), (xb_watchWhat, .inl (cI, 16, .inl (fun _ => 5))), (oAc, .inr (11, xc)), (oR1, .inr (7, xr)), (oWa, .inr (5, xw))]) [0, 1, 2, 3, 4, 5, 6, 7] (by decide) rfl
  have hFc := va_free (wc := [(oB, .inr (0, xb)), (oSt, .inr (4, xs_)), (oRu, .inr (10, xn)), (oG1, .inr (8, xg)), (xb_watchWhat, .inl (cI, 16, .inl (fun _ => 5))), (oAc, .inr (11, xc)), (oR1, .inr (7, xr)), (oWa, .inr (5, xw))]) hD hS hA [0, 1, 2, 3, 4, 5, 6, 7] rfl
  refine va_calli (va_runV (C := R_Bh) (As := [.int (xs 1)]) (rest := []) ⟨hx, hb, hml, hown, hts⟩ (c_Bh_tick l dC dI cI cB cZ cJ (xs 1) oB oSt oRu oG1 xb_watchWhat oAc oR1 oWa xb hb_stock hb_ways hb_acts hb_run hb_watchWhat xs_ hst_now xn hru_program hru_state xg hxg_names xc hac_rows xr hxr_count hxr_conditions xw hwa_count H.size) (cwV 1 hts (tb_V mw_1318 mw_1319 mw_1320 mw_1 mw_1321) rfl rfl rfl ⟨rfl, by decide +kernel, by decide +kernel, by decide +kernel⟩ ⟨(Nat.le_of_ble_eq_true rfl), (Nat.le_of_ble_eq_true rfl)⟩) ⟨pw_blind, va_recv (q := (R_Bh, F_Bh, 16)) hK.1 hP (ci := 0) (q0 := 0) rfl rfl, pw_pre hPc hK hDc⟩ rfl rfl hl.1 rfl (lv_room (Nat.le_of_ble_eq_true rfl)) d_Lw_law_736 ⟨(Nat.le_of_ble_eq_true rfl), (Nat.le_of_ble_eq_true rfl)⟩) hS (fun q _ h => hFc q h) hFc (fun r u t H locs ht hvm hw hB hz1 hk1 hS => ?_)
  obtain ⟨hP, hD⟩ := va_join (wr := [(oM, .inr (12, fm)), (oT, .inr (13, ft)), (am_watchWhat, .inl (cI, 16, .inl ((fun _ => (-1))))), (oR, .inr (14, fr))]) (w1 := []) hP hD [0, 1, 2, 3, 4, 5, 6, 7] [8, 9, 10, 11] rfl rfl (by decide) (by decide) hk1 hFc wn_P wn_D
  have hP : va_P (dC, dI) classes [(oM, .inr (12, fm)), (oT, .inr (13, ft)), (am_watchWhat, .inl (cI, 16, .inl ((fun _ => (-1))))), (oR, .inr (14, fr))] H := hP
  have hD : va_D A [(oM, .inr (12, fm)), (oT, .inr (13, ft)), (am_watchWhat, .inl (cI, 16, .inl ((fun _ => (-1))))), (oR, .inr (14, fr))] := hD
  obtain rfl : r = (fn_Bh_tick (xs 1)) := hw
  refine lv_aload_n hx hb d_Lw_law_739 rfl (lv_at hl 1 rfl) ?_
  refine lv_aload_n hx hb d_Lw_law_740 rfl (lv_at hl 3 rfl) ?_
  refine lv_iload_n hx hb d_Lw_law_741 rfl (lv_at hl 0 rfl) ?_
  refine lv_iconst (v := 1) hx hb d_Lw_law_742 (by decide) ?_
  refine lv_iadd hx hb d_Lw_law_743 ?_
  refine lv_topi (fun x0 e0 => ?_)
  obtain rfl : x0 = 1 := e0.trans (by decide)
  refine va_sld hx hb hX hbl hbA hS (vp_in_iff.mpr (by decide)) d_Lw_law_744 ?_
  refine lv_topi (fun x0 e0 => ?_)
  obtain rfl : x0 = xs 1 := e0
  have hPc := hP.sub (ws' := [(oM, .inr (12, fm)), (oT, .inr (13, ft)), (am_watchWhat, .inl (cI, 16, .inl ((fun _ => (-1))))), (oR, .inr (14, fr))]) [0, 1, 2, 3] rfl
  have hDc := hD.sub (ws' := [(oM, .inr (12, fm)), (oT, .inr (13, ft)), (am_watchWhat, .inl (cI, 16, .inl ((fun _ => (-1))))), (oR, .inr (14, fr))]) [0, 1, 2, 3] (by decide) rfl
  have hFc := va_free (wc := [(oM, .inr (12, fm)), (oT, .inr (13, ft)), (am_watchWhat, .inl (cI, 16, .inl ((fun _ => (-1))))), (oR, .inr (14, fr))]) hD hS hA [0, 1, 2, 3] rfl
  refine va_calli (va_runV (C := R_Mo) (As := [.int (xs 1)]) (rest := [.int ((fn_Bh_tick (xs 1)))]) ⟨hx, hb, hml, hown, hts⟩ (c_Mo_tick l dC dI cI cB cZ cJ (xs 1) oM oT am_watchWhat oR fm hm_program hm_interlocks hm_ways hm_watchWhat hm_state hm_now ft ht_nameCount fr hr_rows H.size) (cwV 1 hts (tb_V mw_2599 mw_2600 mw_2601 mw_18 mw_2602) rfl rfl rfl ⟨rfl, by decide +kernel, by decide +kernel, by decide +kernel⟩ ⟨(Nat.le_of_ble_eq_true rfl), (Nat.le_of_ble_eq_true rfl)⟩) ⟨pw_blind, va_recv (q := (R_Mo, F_Mo, 87)) hK.1 hP (ci := 12) (q0 := 0) rfl rfl, pw_pre hPc hK hDc⟩ rfl rfl hl.1 rfl (lv_room (Nat.le_of_ble_eq_true rfl)) d_Lw_law_745 ⟨(Nat.le_of_ble_eq_true rfl), (Nat.le_of_ble_eq_true rfl)⟩) hS (fun q _ h => hFc q h) hFc (fun r u t H locs ht hvm hw hB hz1 hk1 hS => ?_)
  obtain ⟨hP, hD⟩ := va_join (wr := []) (w1 := []) hP hD [0, 1, 2, 3] [] rfl rfl (by decide) (by decide) hk1 hFc wn_P wn_D
  have hP : va_P (dC, dI) classes [] H := hP
  have hD : va_D A [] := hD
  obtain rfl : r = (fn_Mo_tick (xs 1)) := hw
  refine lv_icmp_eq (tgt := 1208) hx hb d_Lw_law_748 (by decide) (fun _ => ?_) (fun h => absurd (eq_tick (xs 1)) h)
  refine lv_iinc (k := 0) (v := 6) hx hb d_Lw_law_1208 hl rfl (by first | rfl | decide | exact nI_1 i | exact pv_1 j hj) (by decide) rfl (fun ls hl => ?_)
  have hl : lv_has ls 4 [(3, .int 6), (2, .ref oM), (1, .ref oB), (0, .ref b)] := hl
  refine lv_goto (tgt := 18) hx hb d_Lw_law_1211 (by decide) ?_
  refine lv_iload_n hx hb d_Lw_law_18 rfl (lv_at hl 0 rfl) ?_
  refine lv_aload_n hx hb d_Lw_law_19 rfl (lv_at hl 3 rfl) ?_
  refine va_slen hx hb hX hbl hbA hS d_Lw_law_20 ?_
  refine lv_topi (fun x0 e0 => ?_)
  obtain rfl : x0 = 6 := e0.trans (by decide)
  refine lv_bipush (v := 6) hx hb d_Lw_law_21 (by decide) ?_
  refine lv_isub hx hb d_Lw_law_23 ?_
  refine lv_topi (fun x0 e0 => ?_)
  obtain rfl : x0 = 0 := e0.trans (by decide)
  refine lv_icmp_gt (tgt := 1214) hx hb d_Lw_law_24 (by decide) (fun _ => ?_) (fun h => absurd (by decide) h)
  refine lv_iconst (v := 1) hx hb d_Lw_law_1214 (by decide) ?_
  refine va_forget (fun q hq => hAf _ (hS.2.2 q hq)) ?_
  refine W.widen (k := 600000) (n := 7302250) (Nat.le_of_ble_eq_true rfl) (Nat.le_of_ble_eq_true rfl) ?_
  exact lw_ret hx hb hr hlocks d_Lw_law_1215
theorem d_Lw_law_753 : decode code 753 = .ok (.aload_n 1, 1) := dk_0 a_Lw_law_753 (dko_43 _)
theorem d_Lw_law_754 : decode code 754 = .ok (.aload_n 0, 1) := dk_0 a_Lw_law_754 (dko_42 _)
theorem d_Lw_law_755 : decode code 755 = .ok (.iload_n 3, 1) := dk_0 a_Lw_law_755 (dko_29 _)
theorem d_Lw_law_756 : decode code 756 = .ok (.iconst 1, 1) := dk_0 a_Lw_law_756 (dko_4 _)
theorem d_Lw_law_757 : decode code 757 = .ok (.iadd, 1) := dk_0 a_Lw_law_757 (dko_96 _)
theorem d_Lw_law_758 : decode code 758 = .ok (.iaload, 1) := dk_0 a_Lw_law_758 (dko_46 _)
theorem d_Lw_law_759 : decode code 759 = .ok (.i2l, 1) := dk_0 a_Lw_law_759 (dko_133 _)
theorem d_Lw_law_760 : decode code 760 = .ok (.bipush 32, 2) := dk_S1 a_Lw_law_760 (dko_16 _) (by decide +kernel)
theorem d_Lw_law_762 : decode code 762 = .ok (.lshl, 1) := dk_0 a_Lw_law_762 (dko_121 _)
theorem d_Lw_law_763 : decode code 763 = .ok (.aload_n 0, 1) := dk_0 a_Lw_law_763 (dko_42 _)
theorem d_Lw_law_764 : decode code 764 = .ok (.iload_n 3, 1) := dk_0 a_Lw_law_764 (dko_29 _)
theorem d_Lw_law_765 : decode code 765 = .ok (.iconst 2, 1) := dk_0 a_Lw_law_765 (dko_5 _)
theorem d_Lw_law_766 : decode code 766 = .ok (.iadd, 1) := dk_0 a_Lw_law_766 (dko_96 _)
theorem d_Lw_law_767 : decode code 767 = .ok (.iaload, 1) := dk_0 a_Lw_law_767 (dko_46 _)
theorem d_Lw_law_768 : decode code 768 = .ok (.i2l, 1) := dk_0 a_Lw_law_768 (dko_133 _)
theorem d_Lw_law_769 : decode code 769 = .ok (.ldc2_w 23, 3) := dk_U2 a_Lw_law_769 (dko_20 _) rfl
theorem d_Lw_law_772 : decode code 772 = .ok (.land, 1) := dk_0 a_Lw_law_772 (dko_127 _)
theorem d_Lw_law_773 : decode code 773 = .ok (.lor, 1) := dk_0 a_Lw_law_773 (dko_129 _)
theorem d_Lw_law_774 : decode code 774 = .ok (.invokevirtual 77, 3) := dk_U2 a_Lw_law_774 (dko_182 _) rfl
theorem d_Lw_law_777 : decode code 777 = .ok (.aload_n 2, 1) := dk_0 a_Lw_law_777 (dko_44 _)
theorem d_Lw_law_778 : decode code 778 = .ok (.aload_n 0, 1) := dk_0 a_Lw_law_778 (dko_42 _)
theorem d_Lw_law_779 : decode code 779 = .ok (.iload_n 3, 1) := dk_0 a_Lw_law_779 (dko_29 _)
theorem d_Lw_law_780 : decode code 780 = .ok (.iconst 1, 1) := dk_0 a_Lw_law_780 (dko_4 _)
theorem d_Lw_law_781 : decode code 781 = .ok (.iadd, 1) := dk_0 a_Lw_law_781 (dko_96 _)
theorem d_Lw_law_782 : decode code 782 = .ok (.iaload, 1) := dk_0 a_Lw_law_782 (dko_46 _)
theorem d_Lw_law_783 : decode code 783 = .ok (.i2l, 1) := dk_0 a_Lw_law_783 (dko_133 _)
theorem d_Lw_law_784 : decode code 784 = .ok (.bipush 32, 2) := dk_S1 a_Lw_law_784 (dko_16 _) (by decide +kernel)
theorem d_Lw_law_786 : decode code 786 = .ok (.lshl, 1) := dk_0 a_Lw_law_786 (dko_121 _)
theorem d_Lw_law_787 : decode code 787 = .ok (.aload_n 0, 1) := dk_0 a_Lw_law_787 (dko_42 _)
theorem d_Lw_law_788 : decode code 788 = .ok (.iload_n 3, 1) := dk_0 a_Lw_law_788 (dko_29 _)
theorem d_Lw_law_789 : decode code 789 = .ok (.iconst 2, 1) := dk_0 a_Lw_law_789 (dko_5 _)
theorem d_Lw_law_790 : decode code 790 = .ok (.iadd, 1) := dk_0 a_Lw_law_790 (dko_96 _)
theorem d_Lw_law_791 : decode code 791 = .ok (.iaload, 1) := dk_0 a_Lw_law_791 (dko_46 _)
theorem d_Lw_law_792 : decode code 792 = .ok (.i2l, 1) := dk_0 a_Lw_law_792 (dko_133 _)
theorem d_Lw_law_793 : decode code 793 = .ok (.ldc2_w 23, 3) := dk_U2 a_Lw_law_793 (dko_20 _) rfl
theorem d_Lw_law_796 : decode code 796 = .ok (.land, 1) := dk_0 a_Lw_law_796 (dko_127 _)
theorem d_Lw_law_797 : decode code 797 = .ok (.lor, 1) := dk_0 a_Lw_law_797 (dko_129 _)
theorem d_Lw_law_798 : decode code 798 = .ok (.invokevirtual 81, 3) := dk_U2 a_Lw_law_798 (dko_182 _) rfl
theorem d_Lw_law_801 : decode code 801 = .ok (.if_icmp .eq 407, 3) := dk_S2 a_Lw_law_801 (dko_159 _) (by decide +kernel)
set_option maxHeartbeats 4000000 in
set_option maxRecDepth 100000 in
theorem lk_13 {p : Program} {e : Env} {s : State} {m : MethodId} {below : List Frame} {meth : Method} {c : Code} (l : Launch) {b : Nat} {xs : Nat → Int32} {H : Heap} {locs : List Loc} {ls : Array Slot} {dC : Nat → ClassId} {dI : Nat → Nat → Nat} {cI cB cZ cJ : ClassId} {A : Nat → Prop} (hx : p.tables.exec = Jvm.exec) (hb : c.code = code) (hr : meth.sig.returnType = ret) (hml : c.maxLocals = 4) (hown : s.vm.findClass R_law = some m.cls) (hts : ∀ w ∈ (lw_w0 :: lw_gd), w.before #[Value.ref b] s = true) (hX : va_X b 6 xs s s.heap) (hbl : b < s.heap.size) (hlocks : meth.locks = false) (hK : KK dC dI cI cB cZ cJ s) (hA : ∀ q, s.heap.size ≤ q → A q) (hAf : ∀ q, A q → s.heap.size ≤ q) (hbA : ¬ A b) (oB : Nat) (oRu : Nat) (oM : Nat) (xb : List Value) (hb_run : fx xb 6 (.ref oRu)) (xn : List Value) (hru_state : fx xn 4 (.int 4)) (hru_skipped : fx xn 15 (.int 0)) (fm : List Value) (hm_state : fx fm 59 (.int 4)) (hm_left : fx fm 77 (.int 0)) (hP : va_P (dC, dI) classes [(oB, .inr (0, xb)), (oRu, .inr (10, xn)), (oM, .inr (12, fm))] H) (hD : va_D A [(oB, .inr (0, xb)), (oRu, .inr (10, xn)), (oM, .inr (12, fm))]) (hS : va_S A s.heap H locs) (hl : lv_has ls 4 [(3, .int 0), (2, .ref oM), (1, .ref oB), (0, .ref b)]) : W p l e room_1 s m #[Value.ref b] below meth c H locs 221 83122 (lw_Z below #[Value.ref b] s) (F0 m 753 ls []) := by
  refine lv_aload_n hx hb d_Lw_law_753 rfl (lv_at hl 2 rfl) ?_
  refine lv_aload_n hx hb d_Lw_law_754 rfl (lv_at hl 3 rfl) ?_
  refine lv_iload_n hx hb d_Lw_law_755 rfl (lv_at hl 0 rfl) ?_
  refine lv_iconst (v := 1) hx hb d_Lw_law_756 (by decide) ?_
  refine lv_iadd hx hb d_Lw_law_757 ?_
  refine lv_topi (fun x0 e0 => ?_)
  obtain rfl : x0 = 1 := e0.trans (by decide)
  refine va_sld hx hb hX hbl hbA hS (vp_in_iff.mpr (by decide)) d_Lw_law_758 ?_
  refine lv_topi (fun x0 e0 => ?_)
  obtain rfl : x0 = xs 1 := e0
  refine lv_i2l hx hb d_Lw_law_759 rfl ?_
  refine lv_bipush (v := 32) hx hb d_Lw_law_760 (by decide) ?_
  refine lv_lshl hx hb d_Lw_law_762 rfl ?_
  refine lv_aload_n hx hb d_Lw_law_763 rfl (lv_at hl 3 rfl) ?_
  refine lv_iload_n hx hb d_Lw_law_764 rfl (lv_at hl 0 rfl) ?_
  refine lv_iconst (v := 2) hx hb d_Lw_law_765 (by decide) ?_
  refine lv_iadd hx hb d_Lw_law_766 ?_
  refine lv_topi (fun x0 e0 => ?_)
  obtain rfl : x0 = 2 := e0.trans (by decide)
  refine va_sld hx hb hX hbl hbA hS (vp_in_iff.mpr (by decide)) d_Lw_law_767 ?_
  refine lv_topi (fun x0 e0 => ?_)
  obtain rfl : x0 = xs 2 := e0
  refine lv_i2l hx hb d_Lw_law_768 rfl ?_
  refine lv_ldc2 (v := 4294967295) hx hb hown (hts _ (List.mem_cons_of_mem _ mw_2699)) d_Lw_law_769 ?_
  refine lv_land hx hb d_Lw_law_772 ?_
  refine lv_lor hx hb d_Lw_law_773 ?_
  have hPc := hP.sub (ws' := [(oB, .inr (0, xb)), (oRu, .inr (10, xn))]) [0, 1] rfl
  have hDc := hD.sub (ws' := [(oB, .inr (0, xb)), (oRu, .inr (10, xn))]) [0, 1] (by decide) rfl
  have hFc := va_free (wc := [(oB, .inr (0, xb)), (oRu, .inr (10, xn))]) hD hS hA [0, 1] rfl
  refine va_calli (va_runV (C := R_Bh) (As := [.long (((Int32.toInt64 (xs 1)) <<< ((32 : Int32).toInt64 &&& 63)) ||| ((Int32.toInt64 (xs 2)) &&& 4294967295))]) (rest := []) ⟨hx, hb, hml, hown, hts⟩ (c_Bh_answer l dC dI cI cB cZ cJ ((((Int32.toInt64 (xs 1)) <<< ((32 : Int32).toInt64 &&& 63)) ||| ((Int32.toInt64 (xs 2)) &&& 4294967295))) oB oRu xb hb_run xn hru_state hru_skipped H.size) (cwV 1 hts (tb_V mw_1468 mw_1469 mw_1470 mw_1 mw_1471) rfl rfl rfl ⟨rfl, by decide +kernel, by decide +kernel, by decide +kernel⟩ ⟨(Nat.le_of_ble_eq_true rfl), (Nat.le_of_ble_eq_true rfl)⟩) ⟨pw_blind, va_recv (q := (R_Bh, F_Bh, 16)) hK.1 hP (ci := 0) (q0 := 0) rfl rfl, pw_pre hPc hK hDc⟩ rfl rfl hl.1 rfl (lv_room (Nat.le_of_ble_eq_true rfl)) d_Lw_law_774 ⟨(Nat.le_of_ble_eq_true rfl), (Nat.le_of_ble_eq_true rfl)⟩) hS (fun q _ h => hFc q h) hFc (fun r u t H locs ht hvm hw hB hz1 hk1 hS => ?_)
  obtain ⟨hP, hD⟩ := va_join (wr := [(oM, .inr (12, fm))]) (w1 := []) hP hD [0, 1] [2] rfl rfl (by decide) (by decide) hk1 hFc wn_P wn_D
  have hP : va_P (dC, dI) classes [(oM, .inr (12, fm))] H := hP
  have hD : va_D A [(oM, .inr (12, fm))] := hD
  obtain rfl : r = 0 := hw
  refine lv_aload_n hx hb d_Lw_law_777 rfl (lv_at hl 1 rfl) ?_
  refine lv_aload_n hx hb d_Lw_law_778 rfl (lv_at hl 3 rfl) ?_
  refine lv_iload_n hx hb d_Lw_law_779 rfl (lv_at hl 0 rfl) ?_
  refine lv_iconst (v := 1) hx hb d_Lw_law_780 (by decide) ?_
  refine lv_iadd hx hb d_Lw_law_781 ?_
  refine lv_topi (fun x0 e0 => ?_)
  obtain rfl : x0 = 1 := e0.trans (by decide)
  refine va_sld hx hb hX hbl hbA hS (vp_in_iff.mpr (by decide)) d_Lw_law_782 ?_
  refine lv_topi (fun x0 e0 => ?_)
  obtain rfl : x0 = xs 1 := e0
  refine lv_i2l hx hb d_Lw_law_783 rfl ?_
  refine lv_bipush (v := 32) hx hb d_Lw_law_784 (by decide) ?_
  refine lv_lshl hx hb d_Lw_law_786 rfl ?_
  refine lv_aload_n hx hb d_Lw_law_787 rfl (lv_at hl 3 rfl) ?_
  refine lv_iload_n hx hb d_Lw_law_788 rfl (lv_at hl 0 rfl) ?_
  refine lv_iconst (v := 2) hx hb d_Lw_law_789 (by decide) ?_
  refine lv_iadd hx hb d_Lw_law_790 ?_
  refine lv_topi (fun x0 e0 => ?_)
  obtain rfl : x0 = 2 := e0.trans (by decide)
  refine va_sld hx hb hX hbl hbA hS (vp_in_iff.mpr (by decide)) d_Lw_law_791 ?_
  refine lv_topi (fun x0 e0 => ?_)
  obtain rfl : x0 = xs 2 := e0
  refine lv_i2l hx hb d_Lw_law_792 rfl ?_
  refine lv_ldc2 (v := 4294967295) hx hb hown (hts _ (List.mem_cons_of_mem _ mw_2699)) d_Lw_law_793 ?_
  refine lv_land hx hb d_Lw_law_796 ?_
  refine lv_lor hx hb d_Lw_law_797 ?_
  have hPc := hP.sub (ws' := [(oM, .inr (12, fm))]) [0] rfl
  have hDc := hD.sub (ws' := [(oM, .inr (12, fm))]) [0] (by decide) rfl
  have hFc := va_free (wc := [(oM, .inr (12, fm))]) hD hS hA [0] rfl
  refine va_calli (va_runV (C := R_Mo) (As := [.long (((Int32.toInt64 (xs 1)) <<< ((32 : Int32).toInt64 &&& 63)) ||| ((Int32.toInt64 (xs 2)) &&& 4294967295))]) (rest := [.int 0]) ⟨hx, hb, hml, hown, hts⟩ (c_Mo_answer l dC dI cI cB cZ cJ ((((Int32.toInt64 (xs 1)) <<< ((32 : Int32).toInt64 &&& 63)) ||| ((Int32.toInt64 (xs 2)) &&& 4294967295))) oM fm hm_state hm_left H.size) (cwV 1 hts (tb_V mw_2667 mw_2668 mw_2669 mw_18 mw_2670) rfl rfl rfl ⟨rfl, by decide +kernel, by decide +kernel, by decide +kernel⟩ ⟨(Nat.le_of_ble_eq_true rfl), (Nat.le_of_ble_eq_true rfl)⟩) ⟨pw_blind, va_recv (q := (R_Mo, F_Mo, 87)) hK.1 hP (ci := 12) (q0 := 0) rfl rfl, pw_pre hPc hK hDc⟩ rfl rfl hl.1 rfl (lv_room (Nat.le_of_ble_eq_true rfl)) d_Lw_law_798 ⟨(Nat.le_of_ble_eq_true rfl), (Nat.le_of_ble_eq_true rfl)⟩) hS (fun q _ h => hFc q h) hFc (fun r u t H locs ht hvm hw hB hz1 hk1 hS => ?_)
  obtain ⟨hP, hD⟩ := va_join (wr := []) (w1 := []) hP hD [0] [] rfl rfl (by decide) (by decide) hk1 hFc wn_P wn_D
  have hP : va_P (dC, dI) classes [] H := hP
  have hD : va_D A [] := hD
  obtain rfl : r = 0 := hw
  refine lv_icmp_eq (tgt := 1208) hx hb d_Lw_law_801 (by decide) (fun _ => ?_) (fun h => absurd (by decide) h)
  refine lv_iinc (k := 0) (v := 6) hx hb d_Lw_law_1208 hl rfl (by first | rfl | decide | exact nI_1 i | exact pv_1 j hj) (by decide) rfl (fun ls hl => ?_)
  have hl : lv_has ls 4 [(3, .int 6), (2, .ref oM), (1, .ref oB), (0, .ref b)] := hl
  refine lv_goto (tgt := 18) hx hb d_Lw_law_1211 (by decide) ?_
  refine lv_iload_n hx hb d_Lw_law_18 rfl (lv_at hl 0 rfl) ?_
  refine lv_aload_n hx hb d_Lw_law_19 rfl (lv_at hl 3 rfl) ?_
  refine va_slen hx hb hX hbl hbA hS d_Lw_law_20 ?_
  refine lv_topi (fun x0 e0 => ?_)
  obtain rfl : x0 = 6 := e0.trans (by decide)
  refine lv_bipush (v := 6) hx hb d_Lw_law_21 (by decide) ?_
  refine lv_isub hx hb d_Lw_law_23 ?_
  refine lv_topi (fun x0 e0 => ?_)
  obtain rfl : x0 = 0 := e0.trans (by decide)
  refine lv_icmp_gt (tgt := 1214) hx hb d_Lw_law_24 (by decide) (fun _ => ?_) (fun h => absurd (by decide) h)
  refine lv_iconst (v := 1) hx hb d_Lw_law_1214 (by decide) ?_
  refine va_forget (fun q hq => hAf _ (hS.2.2 q hq)) ?_
  refine W.widen (k := 600000) (n := 7302250) (Nat.le_of_ble_eq_true rfl) (Nat.le_of_ble_eq_true rfl) ?_
  exact lw_ret hx hb hr hlocks d_Lw_law_1215
theorem d_Lw_law_806 : decode code 806 = .ok (.aload_n 1, 1) := dk_0 a_Lw_law_806 (dko_43 _)
theorem d_Lw_law_807 : decode code 807 = .ok (.aload_n 0, 1) := dk_0 a_Lw_law_807 (dko_42 _)
theorem d_Lw_law_808 : decode code 808 = .ok (.iload_n 3, 1) := dk_0 a_Lw_law_808 (dko_29 _)
theorem d_Lw_law_809 : decode code 809 = .ok (.iconst 1, 1) := dk_0 a_Lw_law_809 (dko_4 _)
theorem d_Lw_law_810 : decode code 810 = .ok (.iadd, 1) := dk_0 a_Lw_law_810 (dko_96 _)
theorem d_Lw_law_811 : decode code 811 = .ok (.iaload, 1) := dk_0 a_Lw_law_811 (dko_46 _)
theorem d_Lw_law_812 : decode code 812 = .ok (.ifCond .eq 7, 3) := dk_S2 a_Lw_law_812 (dko_153 _) (by decide +kernel)
theorem d_Lw_law_815 : decode code 815 = .ok (.iconst 1, 1) := dk_0 a_Lw_law_815 (dko_4 _)
theorem d_Lw_law_816 : decode code 816 = .ok (.goto 4, 3) := dk_S2 a_Lw_law_816 (dko_167 _) (by decide +kernel)
theorem d_Lw_law_819 : decode code 819 = .ok (.iconst 0, 1) := dk_0 a_Lw_law_819 (dko_3 _)
theorem d_Lw_law_820 : decode code 820 = .ok (.invokevirtual 82, 3) := dk_U2 a_Lw_law_820 (dko_182 _) rfl
theorem d_Lw_law_823 : decode code 823 = .ok (.aload_n 2, 1) := dk_0 a_Lw_law_823 (dko_44 _)
theorem d_Lw_law_824 : decode code 824 = .ok (.aload_n 0, 1) := dk_0 a_Lw_law_824 (dko_42 _)
theorem d_Lw_law_825 : decode code 825 = .ok (.iload_n 3, 1) := dk_0 a_Lw_law_825 (dko_29 _)
theorem d_Lw_law_826 : decode code 826 = .ok (.iconst 1, 1) := dk_0 a_Lw_law_826 (dko_4 _)
theorem d_Lw_law_827 : decode code 827 = .ok (.iadd, 1) := dk_0 a_Lw_law_827 (dko_96 _)
theorem d_Lw_law_828 : decode code 828 = .ok (.iaload, 1) := dk_0 a_Lw_law_828 (dko_46 _)
theorem d_Lw_law_829 : decode code 829 = .ok (.ifCond .eq 7, 3) := dk_S2 a_Lw_law_829 (dko_153 _) (by decide +kernel)
theorem d_Lw_law_832 : decode code 832 = .ok (.iconst 1, 1) := dk_0 a_Lw_law_832 (dko_4 _)
theorem d_Lw_law_833 : decode code 833 = .ok (.goto 4, 3) := dk_S2 a_Lw_law_833 (dko_167 _) (by decide +kernel)
theorem d_Lw_law_836 : decode code 836 = .ok (.iconst 0, 1) := dk_0 a_Lw_law_836 (dko_3 _)
theorem d_Lw_law_837 : decode code 837 = .ok (.invokevirtual 86, 3) := dk_U2 a_Lw_law_837 (dko_182 _) rfl
theorem d_Lw_law_840 : decode code 840 = .ok (.if_icmp .eq 368, 3) := dk_S2 a_Lw_law_840 (dko_159 _) (by decide +kernel)
set_option maxHeartbeats 4000000 in
set_option maxRecDepth 100000 in
theorem lk_14 {p : Program} {e : Env} {s : State} {m : MethodId} {below : List Frame} {meth : Method} {c : Code} (l : Launch) {b : Nat} {xs : Nat → Int32} {H : Heap} {locs : List Loc} {ls : Array Slot} {dC : Nat → ClassId} {dI : Nat → Nat → Nat} {cI cB cZ cJ : ClassId} {A : Nat → Prop} (hx : p.tables.exec = Jvm.exec) (hb : c.code = code) (hr : meth.sig.returnType = ret) (hml : c.maxLocals = 4) (hown : s.vm.findClass R_law = some m.cls) (hts : ∀ w ∈ (lw_w0 :: lw_gd), w.before #[Value.ref b] s = true) (hX : va_X b 6 xs s s.heap) (hbl : b < s.heap.size) (hlocks : meth.locks = false) (hK : KK dC dI cI cB cZ cJ s) (hA : ∀ q, s.heap.size ≤ q → A q) (hAf : ∀ q, A q → s.heap.size ≤ q) (hbA : ¬ A b) (oB : Nat) (oRu : Nat) (oM : Nat) (xb : List Value) (hb_run : fx xb 6 (.ref oRu)) (xn : List Value) (hru_state : fx xn 4 (.int 4)) (fm : List Value) (hm_state : fx fm 59 (.int 4)) (hP : va_P (dC, dI) classes [(oB, .inr (0, xb)), (oRu, .inr (10, xn)), (oM, .inr (12, fm))] H) (hD : va_D A [(oB, .inr (0, xb)), (oRu, .inr (10, xn)), (oM, .inr (12, fm))]) (hS : va_S A s.heap H locs) (hl : lv_has ls 4 [(3, .int 0), (2, .ref oM), (1, .ref oB), (0, .ref b)]) : W p l e room_1 s m #[Value.ref b] below meth c H locs 221 83122 (lw_Z below #[Value.ref b] s) (F0 m 806 ls []) := by
  refine lv_aload_n hx hb d_Lw_law_806 rfl (lv_at hl 2 rfl) ?_
  refine lv_aload_n hx hb d_Lw_law_807 rfl (lv_at hl 3 rfl) ?_
  refine lv_iload_n hx hb d_Lw_law_808 rfl (lv_at hl 0 rfl) ?_
  refine lv_iconst (v := 1) hx hb d_Lw_law_809 (by decide) ?_
  refine lv_iadd hx hb d_Lw_law_810 ?_
  refine lv_topi (fun x0 e0 => ?_)
  obtain rfl : x0 = 1 := e0.trans (by decide)
  refine va_sld hx hb hX hbl hbA hS (vp_in_iff.mpr (by decide)) d_Lw_law_811 ?_
  refine lv_topi (fun x0 e0 => ?_)
  obtain rfl : x0 = xs 1 := e0
  refine lv_if_eq (tgt := 819) hx hb d_Lw_law_812 (by decide) (fun h812 => ?_) (fun h812 => ?_)
  · refine lv_iconst (v := 0) hx hb d_Lw_law_819 (by decide) ?_
    have hPc := hP.sub (ws' := [(oB, .inr (0, xb)), (oRu, .inr (10, xn))]) [0, 1] rfl
    have hDc := hD.sub (ws' := [(oB, .inr (0, xb)), (oRu, .inr (10, xn))]) [0, 1] (by decide) rfl
    have hFc := pu_free hS hA
    refine va_calli (va_runV (C := R_Bh) (As := [.int 0]) (rest := []) ⟨hx, hb, hml, hown, hts⟩ (c_Bh_hold l dC dI cI cB cZ cJ 0 oB oRu xb hb_run xn hru_state H.size) (cwV 1 hts (tb_V mw_1480 mw_1481 mw_1482 mw_1 mw_1483) rfl rfl rfl ⟨rfl, by decide +kernel, by decide +kernel, by decide +kernel⟩ ⟨(Nat.le_of_ble_eq_true rfl), (Nat.le_of_ble_eq_true rfl)⟩) ⟨pw_blind, va_recv (q := (R_Bh, F_Bh, 16)) hK.1 hP (ci := 0) (q0 := 0) rfl rfl, pw_pre hPc hK hDc⟩ rfl rfl hl.1 rfl (lv_room (Nat.le_of_ble_eq_true rfl)) d_Lw_law_820 ⟨(Nat.le_of_ble_eq_true rfl), (Nat.le_of_ble_eq_true rfl)⟩) hS (fun q _ h => hFc q h) hFc (fun r u t H locs ht hvm hw hB hz1 hk1 hS => ?_)
    have hP := pu_kept hP hk1
    obtain rfl : r = 0 := hw
    refine lv_aload_n hx hb d_Lw_law_823 rfl (lv_at hl 1 rfl) ?_
    refine lv_aload_n hx hb d_Lw_law_824 rfl (lv_at hl 3 rfl) ?_
    refine lv_iload_n hx hb d_Lw_law_825 rfl (lv_at hl 0 rfl) ?_
    refine lv_iconst (v := 1) hx hb d_Lw_law_826 (by decide) ?_
    refine lv_iadd hx hb d_Lw_law_827 ?_
    refine lv_topi (fun x0 e0 => ?_)
    obtain rfl : x0 = 1 := e0.trans (by decide)
    refine va_sld hx hb hX hbl hbA hS (vp_in_iff.mpr (by decide)) d_Lw_law_828 ?_
    refine lv_topi (fun x0 e0 => ?_)
    obtain rfl : x0 = xs 1 := e0
    refine lv_if_eq (tgt := 836) hx hb d_Lw_law_829 (by decide) (fun _ => ?_) (fun h => absurd h812 h)
    refine lv_iconst (v := 0) hx hb d_Lw_law_836 (by decide) ?_
    have hPc := hP.sub (ws' := [(oM, .inr (12, fm))]) [2] rfl
    have hDc := hD.sub (ws' := [(oM, .inr (12, fm))]) [2] (by decide) rfl
    have hFc := pu_free hS hA
    refine va_calli (va_runV (C := R_Mo) (As := [.int 0]) (rest := [.int 0]) ⟨hx, hb, hml, hown, hts⟩ (c_Mo_hold l dC dI cI cB cZ cJ 0 oM fm hm_state H.size) (cwV 1 hts (tb_V mw_2675 mw_2676 mw_2677 mw_18 mw_2678) rfl rfl rfl ⟨rfl, by decide +kernel, by decide +kernel, by decide +kernel⟩ ⟨(Nat.le_of_ble_eq_true rfl), (Nat.le_of_ble_eq_true rfl)⟩) ⟨pw_blind, va_recv (q := (R_Mo, F_Mo, 87)) hK.1 hP (ci := 12) (q0 := 2) rfl rfl, pw_pre hPc hK hDc⟩ rfl rfl hl.1 rfl (lv_room (Nat.le_of_ble_eq_true rfl)) d_Lw_law_837 ⟨(Nat.le_of_ble_eq_true rfl), (Nat.le_of_ble_eq_true rfl)⟩) hS (fun q _ h => hFc q h) hFc (fun r u t H locs ht hvm hw hB hz1 hk1 hS => ?_)
    have hP := pu_kept hP hk1
    obtain rfl : r = 0 := hw
    refine lv_icmp_eq (tgt := 1208) hx hb d_Lw_law_840 (by decide) (fun _ => ?_) (fun h => absurd (by decide) h)
    refine lv_iinc (k := 0) (v := 6) hx hb d_Lw_law_1208 hl rfl (by first | rfl | decide | exact nI_1 i | exact pv_1 j hj) (by decide) rfl (fun ls hl => ?_)
    have hl : lv_has ls 4 [(3, .int 6), (2, .ref oM), (1, .ref oB), (0, .ref b)] := hl
    refine lv_goto (tgt := 18) hx hb d_Lw_law_1211 (by decide) ?_
    refine lv_iload_n hx hb d_Lw_law_18 rfl (lv_at hl 0 rfl) ?_
    refine lv_aload_n hx hb d_Lw_law_19 rfl (lv_at hl 3 rfl) ?_
    refine va_slen hx hb hX hbl hbA hS d_Lw_law_20 ?_
    refine lv_topi (fun x0 e0 => ?_)
    obtain rfl : x0 = 6 := e0.trans (by decide)
    refine lv_bipush (v := 6) hx hb d_Lw_law_21 (by decide) ?_
    refine lv_isub hx hb d_Lw_law_23 ?_
    refine lv_topi (fun x0 e0 => ?_)
    obtain rfl : x0 = 0 := e0.trans (by decide)
    refine lv_icmp_gt (tgt := 1214) hx hb d_Lw_law_24 (by decide) (fun _ => ?_) (fun h => absurd (by decide) h)
    refine lv_iconst (v := 1) hx hb d_Lw_law_1214 (by decide) ?_
    refine va_forget (fun q hq => hAf _ (hS.2.2 q hq)) ?_
    refine W.widen (k := 600000) (n := 7302250) (Nat.le_of_ble_eq_true rfl) (Nat.le_of_ble_eq_true rfl) ?_
    exact lw_ret hx hb hr hlocks d_Lw_law_1215
  · refine lv_iconst (v := 1) hx hb d_Lw_law_815 (by decide) ?_
    refine lv_goto (tgt := 820) hx hb d_Lw_law_816 (by decide) ?_
    have hPc := hP.sub (ws' := [(oB, .inr (0, xb)), (oRu, .inr (10, xn))]) [0, 1] rfl
    have hDc := hD.sub (ws' := [(oB, .inr (0, xb)), (oRu, .inr (10, xn))]) [0, 1] (by decide) rfl
    have hFc := pu_free hS hA
    refine va_calli (va_runV (C := R_Bh) (As := [.int 1]) (rest := []) ⟨hx, hb, hml, hown, hts⟩ (c_Bh_hold l dC dI cI cB cZ cJ 1 oB oRu xb hb_run xn hru_state H.size) (cwV 1 hts (tb_V mw_1480 mw_1481 mw_1482 mw_1 mw_1483) rfl rfl rfl ⟨rfl, by decide +kernel, by decide +kernel, by decide +kernel⟩ ⟨(Nat.le_of_ble_eq_true rfl), (Nat.le_of_ble_eq_true rfl)⟩) ⟨pw_blind, va_recv (q := (R_Bh, F_Bh, 16)) hK.1 hP (ci := 0) (q0 := 0) rfl rfl, pw_pre hPc hK hDc⟩ rfl rfl hl.1 rfl (lv_room (Nat.le_of_ble_eq_true rfl)) d_Lw_law_820 ⟨(Nat.le_of_ble_eq_true rfl), (Nat.le_of_ble_eq_true rfl)⟩) hS (fun q _ h => hFc q h) hFc (fun r u t H locs ht hvm hw hB hz1 hk1 hS => ?_)
    have hP := pu_kept hP hk1
    obtain rfl : r = 0 := hw
    refine lv_aload_n hx hb d_Lw_law_823 rfl (lv_at hl 1 rfl) ?_
    refine lv_aload_n hx hb d_Lw_law_824 rfl (lv_at hl 3 rfl) ?_
    refine lv_iload_n hx hb d_Lw_law_825 rfl (lv_at hl 0 rfl) ?_
    refine lv_iconst (v := 1) hx hb d_Lw_law_826 (by decide) ?_
    refine lv_iadd hx hb d_Lw_law_827 ?_
    refine lv_topi (fun x0 e0 => ?_)
    obtain rfl : x0 = 1 := e0.trans (by decide)
    refine va_sld hx hb hX hbl hbA hS (vp_in_iff.mpr (by decide)) d_Lw_law_828 ?_
    refine lv_topi (fun x0 e0 => ?_)
    obtain rfl : x0 = xs 1 := e0
    refine lv_if_eq (tgt := 836) hx hb d_Lw_law_829 (by decide) (fun h => absurd h h812) (fun _ => ?_)
    refine lv_iconst (v := 1) hx hb d_Lw_law_832 (by decide) ?_
    refine lv_goto (tgt := 837) hx hb d_Lw_law_833 (by decide) ?_
    have hPc := hP.sub (ws' := [(oM, .inr (12, fm))]) [2] rfl
    have hDc := hD.sub (ws' := [(oM, .inr (12, fm))]) [2] (by decide) rfl
    have hFc := pu_free hS hA
    refine va_calli (va_runV (C := R_Mo) (As := [.int 1]) (rest := [.int 0]) ⟨hx, hb, hml, hown, hts⟩ (c_Mo_hold l dC dI cI cB cZ cJ 1 oM fm hm_state H.size) (cwV 1 hts (tb_V mw_2675 mw_2676 mw_2677 mw_18 mw_2678) rfl rfl rfl ⟨rfl, by decide +kernel, by decide +kernel, by decide +kernel⟩ ⟨(Nat.le_of_ble_eq_true rfl), (Nat.le_of_ble_eq_true rfl)⟩) ⟨pw_blind, va_recv (q := (R_Mo, F_Mo, 87)) hK.1 hP (ci := 12) (q0 := 2) rfl rfl, pw_pre hPc hK hDc⟩ rfl rfl hl.1 rfl (lv_room (Nat.le_of_ble_eq_true rfl)) d_Lw_law_837 ⟨(Nat.le_of_ble_eq_true rfl), (Nat.le_of_ble_eq_true rfl)⟩) hS (fun q _ h => hFc q h) hFc (fun r u t H locs ht hvm hw hB hz1 hk1 hS => ?_)
    have hP := pu_kept hP hk1
    obtain rfl : r = 0 := hw
    refine lv_icmp_eq (tgt := 1208) hx hb d_Lw_law_840 (by decide) (fun _ => ?_) (fun h => absurd (by decide) h)
    refine lv_iinc (k := 0) (v := 6) hx hb d_Lw_law_1208 hl rfl (by first | rfl | decide | exact nI_1 i | exact pv_1 j hj) (by decide) rfl (fun ls hl => ?_)
    have hl : lv_has ls 4 [(3, .int 6), (2, .ref oM), (1, .ref oB), (0, .ref b)] := hl
    refine lv_goto (tgt := 18) hx hb d_Lw_law_1211 (by decide) ?_
    refine lv_iload_n hx hb d_Lw_law_18 rfl (lv_at hl 0 rfl) ?_
    refine lv_aload_n hx hb d_Lw_law_19 rfl (lv_at hl 3 rfl) ?_
    refine va_slen hx hb hX hbl hbA hS d_Lw_law_20 ?_
    refine lv_topi (fun x0 e0 => ?_)
    obtain rfl : x0 = 6 := e0.trans (by decide)
    refine lv_bipush (v := 6) hx hb d_Lw_law_21 (by decide) ?_
    refine lv_isub hx hb d_Lw_law_23 ?_
    refine lv_topi (fun x0 e0 => ?_)
    obtain rfl : x0 = 0 := e0.trans (by decide)
    refine lv_icmp_gt (tgt := 1214) hx hb d_Lw_law_24 (by decide) (fun _ => ?_) (fun h => absurd (by decide) h)
    refine lv_iconst (v := 1) hx hb d_Lw_law_1214 (by decide) ?_
    refine va_forget (fun q hq => hAf _ (hS.2.2 q hq)) ?_
    refine W.widen (k := 600000) (n := 7302250) (Nat.le_of_ble_eq_true rfl) (Nat.le_of_ble_eq_true rfl) ?_
    exact lw_ret hx hb hr hlocks d_Lw_law_1215
theorem d_Lw_law_845 : decode code 845 = .ok (.aload_n 1, 1) := dk_0 a_Lw_law_845 (dko_43 _)
theorem d_Lw_law_846 : decode code 846 = .ok (.invokevirtual 87, 3) := dk_U2 a_Lw_law_846 (dko_182 _) rfl
theorem d_Lw_law_849 : decode code 849 = .ok (.aload_n 2, 1) := dk_0 a_Lw_law_849 (dko_44 _)
theorem d_Lw_law_850 : decode code 850 = .ok (.invokevirtual 90, 3) := dk_U2 a_Lw_law_850 (dko_182 _) rfl
theorem d_Lw_law_853 : decode code 853 = .ok (.if_icmp .eq 355, 3) := dk_S2 a_Lw_law_853 (dko_159 _) (by decide +kernel)
set_option maxHeartbeats 4000000 in
set_option maxRecDepth 100000 in
theorem lk_15 {p : Program} {e : Env} {s : State} {m : MethodId} {below : List Frame} {meth : Method} {c : Code} (l : Launch) {b : Nat} {xs : Nat → Int32} {H : Heap} {locs : List Loc} {ls : Array Slot} {dC : Nat → ClassId} {dI : Nat → Nat → Nat} {cI cB cZ cJ : ClassId} {A : Nat → Prop} (hx : p.tables.exec = Jvm.exec) (hb : c.code = code) (hr : meth.sig.returnType = ret) (hml : c.maxLocals = 4) (hown : s.vm.findClass R_law = some m.cls) (hts : ∀ w ∈ (lw_w0 :: lw_gd), w.before #[Value.ref b] s = true) (hX : va_X b 6 xs s s.heap) (hbl : b < s.heap.size) (hlocks : meth.locks = false) (hK : KK dC dI cI cB cZ cJ s) (hA : ∀ q, s.heap.size ≤ q → A q) (hAf : ∀ q, A q → s.heap.size ≤ q) (hbA : ¬ A b) (oB : Nat) (oRu : Nat) (oM : Nat) (xb : List Value) (hb_run : fx xb 6 (.ref oRu)) (xn : List Value) (hru_state : fx xn 4 (.int 4)) (fm : List Value) (hm_state : fx fm 59 (.int 4)) (hP : va_P (dC, dI) classes [(oB, .inr (0, xb)), (oRu, .inr (10, xn)), (oM, .inr (12, fm))] H) (hD : va_D A [(oB, .inr (0, xb)), (oRu, .inr (10, xn)), (oM, .inr (12, fm))]) (hS : va_S A s.heap H locs) (hl : lv_has ls 4 [(3, .int 0), (2, .ref oM), (1, .ref oB), (0, .ref b)]) : W p l e room_1 s m #[Value.ref b] below meth c H locs 221 83122 (lw_Z below #[Value.ref b] s) (F0 m 845 ls []) := by
  refine lv_aload_n hx hb d_Lw_law_845 rfl (lv_at hl 2 rfl) ?_
  have hPc := hP.sub (ws' := [(oB, .inr (0, xb)), (oRu, .inr (10, xn))]) [0, 1] rfl
  have hDc := hD.sub (ws' := [(oB, .inr (0, xb)), (oRu, .inr (10, xn))]) [0, 1] (by decide) rfl
  have hFc := pu_free hS hA
  refine va_calli (va_runV (C := R_Bh) (As := []) (rest := []) ⟨hx, hb, hml, hown, hts⟩ (c_Bh_stop l dC dI cI cB cZ cJ oB oRu xb hb_run xn hru_state H.size) (cwV 0 hts (tb_V mw_1484 mw_1485 mw_1486 mw_1 mw_1487) rfl rfl rfl ⟨rfl, by decide +kernel, by decide +kernel, by decide +kernel⟩ ⟨(Nat.le_of_ble_eq_true rfl), (Nat.le_of_ble_eq_true rfl)⟩) ⟨pw_blind, va_recv (q := (R_Bh, F_Bh, 16)) hK.1 hP (ci := 0) (q0 := 0) rfl rfl, pw_pre hPc hK hDc⟩ rfl rfl hl.1 rfl (lv_room (Nat.le_of_ble_eq_true rfl)) d_Lw_law_846 ⟨(Nat.le_of_ble_eq_true rfl), (Nat.le_of_ble_eq_true rfl)⟩) hS (fun q _ h => hFc q h) hFc (fun r u t H locs ht hvm hw hB hz1 hk1 hS => ?_)
  have hP := pu_kept hP hk1
  obtain rfl : r = 0 := hw
  refine lv_aload_n hx hb d_Lw_law_849 rfl (lv_at hl 1 rfl) ?_
  have hPc := hP.sub (ws' := [(oM, .inr (12, fm))]) [2] rfl
  have hDc := hD.sub (ws' := [(oM, .inr (12, fm))]) [2] (by decide) rfl
  have hFc := pu_free hS hA
  refine va_calli (va_runV (C := R_Mo) (As := []) (rest := [.int 0]) ⟨hx, hb, hml, hown, hts⟩ (c_Mo_stop l dC dI cI cB cZ cJ oM fm hm_state H.size) (cwV 0 hts (tb_V mw_2679 mw_2680 mw_2681 mw_18 mw_2682) rfl rfl rfl ⟨rfl, by decide +kernel, by decide +kernel, by decide +kernel⟩ ⟨(Nat.le_of_ble_eq_true rfl), (Nat.le_of_ble_eq_true rfl)⟩) ⟨pw_blind, va_recv (q := (R_Mo, F_Mo, 87)) hK.1 hP (ci := 12) (q0 := 2) rfl rfl, pw_pre hPc hK hDc⟩ rfl rfl hl.1 rfl (lv_room (Nat.le_of_ble_eq_true rfl)) d_Lw_law_850 ⟨(Nat.le_of_ble_eq_true rfl), (Nat.le_of_ble_eq_true rfl)⟩) hS (fun q _ h => hFc q h) hFc (fun r u t H locs ht hvm hw hB hz1 hk1 hS => ?_)
  have hP := pu_kept hP hk1
  obtain rfl : r = 0 := hw
  refine lv_icmp_eq (tgt := 1208) hx hb d_Lw_law_853 (by decide) (fun _ => ?_) (fun h => absurd (by decide) h)
  refine lv_iinc (k := 0) (v := 6) hx hb d_Lw_law_1208 hl rfl (by first | rfl | decide | exact nI_1 i | exact pv_1 j hj) (by decide) rfl (fun ls hl => ?_)
  have hl : lv_has ls 4 [(3, .int 6), (2, .ref oM), (1, .ref oB), (0, .ref b)] := hl
  refine lv_goto (tgt := 18) hx hb d_Lw_law_1211 (by decide) ?_
  refine lv_iload_n hx hb d_Lw_law_18 rfl (lv_at hl 0 rfl) ?_
  refine lv_aload_n hx hb d_Lw_law_19 rfl (lv_at hl 3 rfl) ?_
  refine va_slen hx hb hX hbl hbA hS d_Lw_law_20 ?_
  refine lv_topi (fun x0 e0 => ?_)
  obtain rfl : x0 = 6 := e0.trans (by decide)
  refine lv_bipush (v := 6) hx hb d_Lw_law_21 (by decide) ?_
  refine lv_isub hx hb d_Lw_law_23 ?_
  refine lv_topi (fun x0 e0 => ?_)
  obtain rfl : x0 = 0 := e0.trans (by decide)
  refine lv_icmp_gt (tgt := 1214) hx hb d_Lw_law_24 (by decide) (fun _ => ?_) (fun h => absurd (by decide) h)
  refine lv_iconst (v := 1) hx hb d_Lw_law_1214 (by decide) ?_
  refine va_forget (fun q hq => hAf _ (hS.2.2 q hq)) ?_
  refine W.widen (k := 600000) (n := 7302250) (Nat.le_of_ble_eq_true rfl) (Nat.le_of_ble_eq_true rfl) ?_
  exact lw_ret hx hb hr hlocks d_Lw_law_1215
theorem d_Lw_law_858 : decode code 858 = .ok (.aload_n 1, 1) := dk_0 a_Lw_law_858 (dko_43 _)
theorem d_Lw_law_859 : decode code 859 = .ok (.aload_n 0, 1) := dk_0 a_Lw_law_859 (dko_42 _)
theorem d_Lw_law_860 : decode code 860 = .ok (.iload_n 3, 1) := dk_0 a_Lw_law_860 (dko_29 _)
theorem d_Lw_law_861 : decode code 861 = .ok (.iconst 1, 1) := dk_0 a_Lw_law_861 (dko_4 _)
theorem d_Lw_law_862 : decode code 862 = .ok (.iadd, 1) := dk_0 a_Lw_law_862 (dko_96 _)
theorem d_Lw_law_863 : decode code 863 = .ok (.iaload, 1) := dk_0 a_Lw_law_863 (dko_46 _)
theorem d_Lw_law_864 : decode code 864 = .ok (.aload_n 0, 1) := dk_0 a_Lw_law_864 (dko_42 _)
theorem d_Lw_law_865 : decode code 865 = .ok (.iload_n 3, 1) := dk_0 a_Lw_law_865 (dko_29 _)
theorem d_Lw_law_866 : decode code 866 = .ok (.iconst 2, 1) := dk_0 a_Lw_law_866 (dko_5 _)
theorem d_Lw_law_867 : decode code 867 = .ok (.iadd, 1) := dk_0 a_Lw_law_867 (dko_96 _)
theorem d_Lw_law_868 : decode code 868 = .ok (.iaload, 1) := dk_0 a_Lw_law_868 (dko_46 _)
theorem d_Lw_law_869 : decode code 869 = .ok (.aload_n 0, 1) := dk_0 a_Lw_law_869 (dko_42 _)
theorem d_Lw_law_870 : decode code 870 = .ok (.iload_n 3, 1) := dk_0 a_Lw_law_870 (dko_29 _)
theorem d_Lw_law_871 : decode code 871 = .ok (.iconst 3, 1) := dk_0 a_Lw_law_871 (dko_6 _)
theorem d_Lw_law_872 : decode code 872 = .ok (.iadd, 1) := dk_0 a_Lw_law_872 (dko_96 _)
theorem d_Lw_law_873 : decode code 873 = .ok (.iaload, 1) := dk_0 a_Lw_law_873 (dko_46 _)
theorem d_Lw_law_874 : decode code 874 = .ok (.aload_n 0, 1) := dk_0 a_Lw_law_874 (dko_42 _)
theorem d_Lw_law_875 : decode code 875 = .ok (.iload_n 3, 1) := dk_0 a_Lw_law_875 (dko_29 _)
theorem d_Lw_law_876 : decode code 876 = .ok (.iconst 4, 1) := dk_0 a_Lw_law_876 (dko_7 _)
theorem d_Lw_law_877 : decode code 877 = .ok (.iadd, 1) := dk_0 a_Lw_law_877 (dko_96 _)
theorem d_Lw_law_878 : decode code 878 = .ok (.iaload, 1) := dk_0 a_Lw_law_878 (dko_46 _)
theorem d_Lw_law_879 : decode code 879 = .ok (.invokevirtual 91, 3) := dk_U2 a_Lw_law_879 (dko_182 _) rfl
theorem d_Lw_law_882 : decode code 882 = .ok (.aload_n 2, 1) := dk_0 a_Lw_law_882 (dko_44 _)
theorem d_Lw_law_883 : decode code 883 = .ok (.aload_n 0, 1) := dk_0 a_Lw_law_883 (dko_42 _)
theorem d_Lw_law_884 : decode code 884 = .ok (.iload_n 3, 1) := dk_0 a_Lw_law_884 (dko_29 _)
theorem d_Lw_law_885 : decode code 885 = .ok (.iconst 1, 1) := dk_0 a_Lw_law_885 (dko_4 _)
theorem d_Lw_law_886 : decode code 886 = .ok (.iadd, 1) := dk_0 a_Lw_law_886 (dko_96 _)
theorem d_Lw_law_887 : decode code 887 = .ok (.iaload, 1) := dk_0 a_Lw_law_887 (dko_46 _)
theorem d_Lw_law_888 : decode code 888 = .ok (.aload_n 0, 1) := dk_0 a_Lw_law_888 (dko_42 _)
theorem d_Lw_law_889 : decode code 889 = .ok (.iload_n 3, 1) := dk_0 a_Lw_law_889 (dko_29 _)
theorem d_Lw_law_890 : decode code 890 = .ok (.iconst 2, 1) := dk_0 a_Lw_law_890 (dko_5 _)
theorem d_Lw_law_891 : decode code 891 = .ok (.iadd, 1) := dk_0 a_Lw_law_891 (dko_96 _)
theorem d_Lw_law_892 : decode code 892 = .ok (.iaload, 1) := dk_0 a_Lw_law_892 (dko_46 _)
theorem d_Lw_law_893 : decode code 893 = .ok (.aload_n 0, 1) := dk_0 a_Lw_law_893 (dko_42 _)
theorem d_Lw_law_894 : decode code 894 = .ok (.iload_n 3, 1) := dk_0 a_Lw_law_894 (dko_29 _)
theorem d_Lw_law_895 : decode code 895 = .ok (.iconst 3, 1) := dk_0 a_Lw_law_895 (dko_6 _)
theorem d_Lw_law_896 : decode code 896 = .ok (.iadd, 1) := dk_0 a_Lw_law_896 (dko_96 _)
theorem d_Lw_law_897 : decode code 897 = .ok (.iaload, 1) := dk_0 a_Lw_law_897 (dko_46 _)
theorem d_Lw_law_898 : decode code 898 = .ok (.aload_n 0, 1) := dk_0 a_Lw_law_898 (dko_42 _)
theorem d_Lw_law_899 : decode code 899 = .ok (.iload_n 3, 1) := dk_0 a_Lw_law_899 (dko_29 _)
theorem d_Lw_law_900 : decode code 900 = .ok (.iconst 4, 1) := dk_0 a_Lw_law_900 (dko_7 _)
theorem d_Lw_law_901 : decode code 901 = .ok (.iadd, 1) := dk_0 a_Lw_law_901 (dko_96 _)
theorem d_Lw_law_902 : decode code 902 = .ok (.iaload, 1) := dk_0 a_Lw_law_902 (dko_46 _)
theorem d_Lw_law_903 : decode code 903 = .ok (.invokevirtual 95, 3) := dk_U2 a_Lw_law_903 (dko_182 _) rfl
theorem d_Lw_law_906 : decode code 906 = .ok (.if_icmp .eq 302, 3) := dk_S2 a_Lw_law_906 (dko_159 _) (by decide +kernel)
set_option maxHeartbeats 4000000 in
set_option maxRecDepth 100000 in
theorem lk_16 {p : Program} {e : Env} {s : State} {m : MethodId} {below : List Frame} {meth : Method} {c : Code} (l : Launch) {b : Nat} {xs : Nat → Int32} {H : Heap} {locs : List Loc} {ls : Array Slot} {dC : Nat → ClassId} {dI : Nat → Nat → Nat} {cI cB cZ cJ : ClassId} {A : Nat → Prop} (hx : p.tables.exec = Jvm.exec) (hb : c.code = code) (hr : meth.sig.returnType = ret) (hml : c.maxLocals = 4) (hown : s.vm.findClass R_law = some m.cls) (hts : ∀ w ∈ (lw_w0 :: lw_gd), w.before #[Value.ref b] s = true) (hX : va_X b 6 xs s s.heap) (hbl : b < s.heap.size) (hlocks : meth.locks = false) (hK : KK dC dI cI cB cZ cJ s) (hA : ∀ q, s.heap.size ≤ q → A q) (hAf : ∀ q, A q → s.heap.size ≤ q) (hbA : ¬ A b) (oB : Nat) (oAc : Nat) (oR1 : Nat) (oM : Nat) (oR : Nat) (xb : List Value) (hb_acts : fx xb 5 (.ref oAc)) (xc : List Value) (hac_rows : fx xc 3 (.ref oR1)) (xr : List Value) (hxr_count : fx xr 0 (.int 0)) (fm : List Value) (hm_interlocks : fx fm 3 (.ref oR)) (fr : List Value) (hr_rows : fx fr 20 (.int 0)) (hP : va_P (dC, dI) classes [(oB, .inr (0, xb)), (oAc, .inr (11, xc)), (oR1, .inr (7, xr)), (oM, .inr (12, fm)), (oR, .inr (14, fr))] H) (hD : va_D A [(oB, .inr (0, xb)), (oAc, .inr (11, xc)), (oR1, .inr (7, xr)), (oM, .inr (12, fm)), (oR, .inr (14, fr))]) (hS : va_S A s.heap H locs) (hl : lv_has ls 4 [(3, .int 0), (2, .ref oM), (1, .ref oB), (0, .ref b)]) : W p l e room_1 s m #[Value.ref b] below meth c H locs 221 83122 (lw_Z below #[Value.ref b] s) (F0 m 858 ls []) := by
  refine lv_aload_n hx hb d_Lw_law_858 rfl (lv_at hl 2 rfl) ?_
  refine lv_aload_n hx hb d_Lw_law_859 rfl (lv_at hl 3 rfl) ?_
  refine lv_iload_n hx hb d_Lw_law_860 rfl (lv_at hl 0 rfl) ?_
  refine lv_iconst (v := 1) hx hb d_Lw_law_861 (by decide) ?_
  refine lv_iadd hx hb d_Lw_law_862 ?_
  refine lv_topi (fun x0 e0 => ?_)
  obtain rfl : x0 = 1 := e0.trans (by decide)
  refine va_sld hx hb hX hbl hbA hS (vp_in_iff.mpr (by decide)) d_Lw_law_863 ?_
  refine lv_topi (fun x0 e0 => ?_)
  obtain rfl : x0 = xs 1 := e0
  refine lv_aload_n hx hb d_Lw_law_864 rfl (lv_at hl 3 rfl) ?_
  refine lv_iload_n hx hb d_Lw_law_865 rfl (lv_at hl 0 rfl) ?_
  refine lv_iconst (v := 2) hx hb d_Lw_law_866 (by decide) ?_
  refine lv_iadd hx hb d_Lw_law_867 ?_
  refine lv_topi (fun x0 e0 => ?_)
  obtain rfl : x0 = 2 := e0.trans (by decide)
  refine va_sld hx hb hX hbl hbA hS (vp_in_iff.mpr (by decide)) d_Lw_law_868 ?_
  refine lv_topi (fun x0 e0 => ?_)
  obtain rfl : x0 = xs 2 := e0
  refine lv_aload_n hx hb d_Lw_law_869 rfl (lv_at hl 3 rfl) ?_
  refine lv_iload_n hx hb d_Lw_law_870 rfl (lv_at hl 0 rfl) ?_
  refine lv_iconst (v := 3) hx hb d_Lw_law_871 (by decide) ?_
  refine lv_iadd hx hb d_Lw_law_872 ?_
  refine lv_topi (fun x0 e0 => ?_)
  obtain rfl : x0 = 3 := e0.trans (by decide)
  refine va_sld hx hb hX hbl hbA hS (vp_in_iff.mpr (by decide)) d_Lw_law_873 ?_
  refine lv_topi (fun x0 e0 => ?_)
  obtain rfl : x0 = xs 3 := e0
  refine lv_aload_n hx hb d_Lw_law_874 rfl (lv_at hl 3 rfl) ?_
  refine lv_iload_n hx hb d_Lw_law_875 rfl (lv_at hl 0 rfl) ?_
  refine lv_iconst (v := 4) hx hb d_Lw_law_876 (by decide) ?_
  refine lv_iadd hx hb d_Lw_law_877 ?_
  refine lv_topi (fun x0 e0 => ?_)
  obtain rfl : x0 = 4 := e0.trans (by decide)
  refine va_sld hx hb hX hbl hbA hS (vp_in_iff.mpr (by decide)) d_Lw_law_878 ?_
  refine lv_topi (fun x0 e0 => ?_)
  obtain rfl : x0 = xs 4 := e0
  have hPc := hP.sub (ws' := [(oB, .inr (0, xb)), (oAc, .inr (11, xc)), (oR1, .inr (7, xr))]) [0, 1, 2] rfl
  have hDc := hD.sub (ws' := [(oB, .inr (0, xb)), (oAc, .inr (11, xc)), (oR1, .inr (7, xr))]) [0, 1, 2] (by decide) rfl
  have hFc := pu_free hS hA
  refine va_calli (va_runV (C := R_Bh) (As := [.int (xs 1), .int (xs 2), .int (xs 3), .int (xs 4)]) (rest := []) ⟨hx, hb, hml, hown, hts⟩ (c_Bh_pass l dC dI cI cB cZ cJ (xs 1) (xs 2) (xs 3) (xs 4) oB oAc oR1 xb hb_acts xc hac_rows xr hxr_count H.size) (cwV 4 hts (tb_V mw_1488 mw_1489 mw_1490 mw_1 mw_1491) rfl rfl rfl ⟨rfl, by decide +kernel, by decide +kernel, by decide +kernel⟩ ⟨(Nat.le_of_ble_eq_true rfl), (Nat.le_of_ble_eq_true rfl)⟩) ⟨pw_blind, va_recv (q := (R_Bh, F_Bh, 16)) hK.1 hP (ci := 0) (q0 := 0) rfl rfl, pw_pre hPc hK hDc⟩ rfl rfl hl.1 rfl (lv_room (Nat.le_of_ble_eq_true rfl)) d_Lw_law_879 ⟨(Nat.le_of_ble_eq_true rfl), (Nat.le_of_ble_eq_true rfl)⟩) hS (fun q _ h => hFc q h) hFc (fun r u t H locs ht hvm hw hB hz1 hk1 hS => ?_)
  have hP := pu_kept hP hk1
  obtain rfl : r = (-1) := hw
  refine lv_aload_n hx hb d_Lw_law_882 rfl (lv_at hl 1 rfl) ?_
  refine lv_aload_n hx hb d_Lw_law_883 rfl (lv_at hl 3 rfl) ?_
  refine lv_iload_n hx hb d_Lw_law_884 rfl (lv_at hl 0 rfl) ?_
  refine lv_iconst (v := 1) hx hb d_Lw_law_885 (by decide) ?_
  refine lv_iadd hx hb d_Lw_law_886 ?_
  refine lv_topi (fun x0 e0 => ?_)
  obtain rfl : x0 = 1 := e0.trans (by decide)
  refine va_sld hx hb hX hbl hbA hS (vp_in_iff.mpr (by decide)) d_Lw_law_887 ?_
  refine lv_topi (fun x0 e0 => ?_)
  obtain rfl : x0 = xs 1 := e0
  refine lv_aload_n hx hb d_Lw_law_888 rfl (lv_at hl 3 rfl) ?_
  refine lv_iload_n hx hb d_Lw_law_889 rfl (lv_at hl 0 rfl) ?_
  refine lv_iconst (v := 2) hx hb d_Lw_law_890 (by decide) ?_
  refine lv_iadd hx hb d_Lw_law_891 ?_
  refine lv_topi (fun x0 e0 => ?_)
  obtain rfl : x0 = 2 := e0.trans (by decide)
  refine va_sld hx hb hX hbl hbA hS (vp_in_iff.mpr (by decide)) d_Lw_law_892 ?_
  refine lv_topi (fun x0 e0 => ?_)
  obtain rfl : x0 = xs 2 := e0
  refine lv_aload_n hx hb d_Lw_law_893 rfl (lv_at hl 3 rfl) ?_
  refine lv_iload_n hx hb d_Lw_law_894 rfl (lv_at hl 0 rfl) ?_
  refine lv_iconst (v := 3) hx hb d_Lw_law_895 (by decide) ?_
  refine lv_iadd hx hb d_Lw_law_896 ?_
  refine lv_topi (fun x0 e0 => ?_)
  obtain rfl : x0 = 3 := e0.trans (by decide)
  refine va_sld hx hb hX hbl hbA hS (vp_in_iff.mpr (by decide)) d_Lw_law_897 ?_
  refine lv_topi (fun x0 e0 => ?_)
  obtain rfl : x0 = xs 3 := e0
  refine lv_aload_n hx hb d_Lw_law_898 rfl (lv_at hl 3 rfl) ?_
  refine lv_iload_n hx hb d_Lw_law_899 rfl (lv_at hl 0 rfl) ?_
  refine lv_iconst (v := 4) hx hb d_Lw_law_900 (by decide) ?_
  refine lv_iadd hx hb d_Lw_law_901 ?_
  refine lv_topi (fun x0 e0 => ?_)
  obtain rfl : x0 = 4 := e0.trans (by decide)
  refine va_sld hx hb hX hbl hbA hS (vp_in_iff.mpr (by decide)) d_Lw_law_902 ?_
  refine lv_topi (fun x0 e0 => ?_)
  obtain rfl : x0 = xs 4 := e0
  have hPc := hP.sub (ws' := [(oM, .inr (12, fm)), (oR, .inr (14, fr))]) [3, 4] rfl
  have hDc := hD.sub (ws' := [(oM, .inr (12, fm)), (oR, .inr (14, fr))]) [3, 4] (by decide) rfl
  have hFc := pu_free hS hA
  refine va_calli (va_runV (C := R_Mo) (As := [.int (xs 1), .int (xs 2), .int (xs 3), .int (xs 4)]) (rest := [.int (-1)]) ⟨hx, hb, hml, hown, hts⟩ (c_Mo_pass l dC dI cI cB cZ cJ (xs 1) (xs 2) (xs 3) (xs 4) oM oR fm hm_interlocks fr hr_rows H.size) (cwV 4 hts (tb_V mw_2545 mw_2546 mw_2547 mw_18 mw_2548) rfl rfl rfl ⟨rfl, by decide +kernel, by decide +kernel, by decide +kernel⟩ ⟨(Nat.le_of_ble_eq_true rfl), (Nat.le_of_ble_eq_true rfl)⟩) ⟨pw_blind, va_recv (q := (R_Mo, F_Mo, 87)) hK.1 hP (ci := 12) (q0 := 3) rfl rfl, pw_pre hPc hK hDc⟩ rfl rfl hl.1 rfl (lv_room (Nat.le_of_ble_eq_true rfl)) d_Lw_law_903 ⟨(Nat.le_of_ble_eq_true rfl), (Nat.le_of_ble_eq_true rfl)⟩) hS (fun q _ h => hFc q h) hFc (fun r u t H locs ht hvm hw hB hz1 hk1 hS => ?_)
  have hP := pu_kept hP hk1
  obtain rfl : r = (-1) := hw
  refine lv_icmp_eq (tgt := 1208) hx hb d_Lw_law_906 (by decide) (fun _ => ?_) (fun h => absurd (by decide) h)
  refine lv_iinc (k := 0) (v := 6) hx hb d_Lw_law_1208 hl rfl (by first | rfl | decide | exact nI_1 i | exact pv_1 j hj) (by decide) rfl (fun ls hl => ?_)
  have hl : lv_has ls 4 [(3, .int 6), (2, .ref oM), (1, .ref oB), (0, .ref b)] := hl
  refine lv_goto (tgt := 18) hx hb d_Lw_law_1211 (by decide) ?_
  refine lv_iload_n hx hb d_Lw_law_18 rfl (lv_at hl 0 rfl) ?_
  refine lv_aload_n hx hb d_Lw_law_19 rfl (lv_at hl 3 rfl) ?_
  refine va_slen hx hb hX hbl hbA hS d_Lw_law_20 ?_
  refine lv_topi (fun x0 e0 => ?_)
  obtain rfl : x0 = 6 := e0.trans (by decide)
  refine lv_bipush (v := 6) hx hb d_Lw_law_21 (by decide) ?_
  refine lv_isub hx hb d_Lw_law_23 ?_
  refine lv_topi (fun x0 e0 => ?_)
  obtain rfl : x0 = 0 := e0.trans (by decide)
  refine lv_icmp_gt (tgt := 1214) hx hb d_Lw_law_24 (by decide) (fun _ => ?_) (fun h => absurd (by decide) h)
  refine lv_iconst (v := 1) hx hb d_Lw_law_1214 (by decide) ?_
  refine va_forget (fun q hq => hAf _ (hS.2.2 q hq)) ?_
  refine W.widen (k := 600000) (n := 7302250) (Nat.le_of_ble_eq_true rfl) (Nat.le_of_ble_eq_true rfl) ?_
  exact lw_ret hx hb hr hlocks d_Lw_law_1215
theorem d_Lw_law_911 : decode code 911 = .ok (.aload_n 1, 1) := dk_0 a_Lw_law_911 (dko_43 _)
theorem d_Lw_law_912 : decode code 912 = .ok (.aload_n 0, 1) := dk_0 a_Lw_law_912 (dko_42 _)
theorem d_Lw_law_913 : decode code 913 = .ok (.iload_n 3, 1) := dk_0 a_Lw_law_913 (dko_29 _)
theorem d_Lw_law_914 : decode code 914 = .ok (.iconst 1, 1) := dk_0 a_Lw_law_914 (dko_4 _)
theorem d_Lw_law_915 : decode code 915 = .ok (.iadd, 1) := dk_0 a_Lw_law_915 (dko_96 _)
theorem d_Lw_law_916 : decode code 916 = .ok (.iaload, 1) := dk_0 a_Lw_law_916 (dko_46 _)
theorem d_Lw_law_917 : decode code 917 = .ok (.invokevirtual 96, 3) := dk_U2 a_Lw_law_917 (dko_182 _) rfl
theorem d_Lw_law_920 : decode code 920 = .ok (.aload_n 2, 1) := dk_0 a_Lw_law_920 (dko_44 _)
theorem d_Lw_law_921 : decode code 921 = .ok (.aload_n 0, 1) := dk_0 a_Lw_law_921 (dko_42 _)
theorem d_Lw_law_922 : decode code 922 = .ok (.iload_n 3, 1) := dk_0 a_Lw_law_922 (dko_29 _)
theorem d_Lw_law_923 : decode code 923 = .ok (.iconst 1, 1) := dk_0 a_Lw_law_923 (dko_4 _)
theorem d_Lw_law_924 : decode code 924 = .ok (.iadd, 1) := dk_0 a_Lw_law_924 (dko_96 _)
theorem d_Lw_law_925 : decode code 925 = .ok (.iaload, 1) := dk_0 a_Lw_law_925 (dko_46 _)
theorem d_Lw_law_926 : decode code 926 = .ok (.invokevirtual 100, 3) := dk_U2 a_Lw_law_926 (dko_182 _) rfl
theorem d_Lw_law_929 : decode code 929 = .ok (.if_icmp .eq 279, 3) := dk_S2 a_Lw_law_929 (dko_159 _) (by decide +kernel)
set_option maxHeartbeats 4000000 in
set_option maxRecDepth 100000 in
theorem lk_17 {p : Program} {e : Env} {s : State} {m : MethodId} {below : List Frame} {meth : Method} {c : Code} (l : Launch) {b : Nat} {xs : Nat → Int32} {H : Heap} {locs : List Loc} {ls : Array Slot} {dC : Nat → ClassId} {dI : Nat → Nat → Nat} {cI cB cZ cJ : ClassId} {A : Nat → Prop} (hx : p.tables.exec = Jvm.exec) (hb : c.code = code) (hr : meth.sig.returnType = ret) (hml : c.maxLocals = 4) (hown : s.vm.findClass R_law = some m.cls) (hts : ∀ w ∈ (lw_w0 :: lw_gd), w.before #[Value.ref b] s = true) (hX : va_X b 6 xs s s.heap) (hbl : b < s.heap.size) (hlocks : meth.locks = false) (hK : KK dC dI cI cB cZ cJ s) (hA : ∀ q, s.heap.size ≤ q → A q) (hAf : ∀ q, A q → s.heap.size ≤ q) (hbA : ¬ A b) (oB : Nat) (oAc : Nat) (oR1 : Nat) (oM : Nat) (oR : Nat) (xb : List Value) (hb_acts : fx xb 5 (.ref oAc)) (xc : List Value) (hac_rows : fx xc 3 (.ref oR1)) (xr : List Value) (hxr_count : fx xr 0 (.int 0)) (fm : List Value) (hm_interlocks : fx fm 3 (.ref oR)) (fr : List Value) (hr_rows : fx fr 20 (.int 0)) (hP : va_P (dC, dI) classes [(oB, .inr (0, xb)), (oAc, .inr (11, xc)), (oR1, .inr (7, xr)), (oM, .inr (12, fm)), (oR, .inr (14, fr))] H) (hD : va_D A [(oB, .inr (0, xb)), (oAc, .inr (11, xc)), (oR1, .inr (7, xr)), (oM, .inr (12, fm)), (oR, .inr (14, fr))]) (hS : va_S A s.heap H locs) (hl : lv_has ls 4 [(3, .int 0), (2, .ref oM), (1, .ref oB), (0, .ref b)]) : W p l e room_1 s m #[Value.ref b] below meth c H locs 221 83122 (lw_Z below #[Value.ref b] s) (F0 m 911 ls []) := by
  refine lv_aload_n hx hb d_Lw_law_911 rfl (lv_at hl 2 rfl) ?_
  refine lv_aload_n hx hb d_Lw_law_912 rfl (lv_at hl 3 rfl) ?_
  refine lv_iload_n hx hb d_Lw_law_913 rfl (lv_at hl 0 rfl) ?_
  refine lv_iconst (v := 1) hx hb d_Lw_law_914 (by decide) ?_
  refine lv_iadd hx hb d_Lw_law_915 ?_
  refine lv_topi (fun x0 e0 => ?_)
  obtain rfl : x0 = 1 := e0.trans (by decide)
  refine va_sld hx hb hX hbl hbA hS (vp_in_iff.mpr (by decide)) d_Lw_law_916 ?_
  refine lv_topi (fun x0 e0 => ?_)
  obtain rfl : x0 = xs 1 := e0
  have hPc := hP.sub (ws' := [(oB, .inr (0, xb)), (oAc, .inr (11, xc)), (oR1, .inr (7, xr))]) [0, 1, 2] rfl
  have hDc := hD.sub (ws' := [(oB, .inr (0, xb)), (oAc, .inr (11, xc)), (oR1, .inr (7, xr))]) [0, 1, 2] (by decide) rfl
  have hFc := pu_free hS hA
  refine va_calli (va_runV (C := R_Bh) (As := [.int (xs 1)]) (rest := []) ⟨hx, hb, hml, hown, hts⟩ (c_Bh_reset l dC dI cI cB cZ cJ (xs 1) oB oAc oR1 xb hb_acts xc hac_rows xr hxr_count H.size) (cwV 1 hts (tb_V mw_1499 mw_1500 mw_1501 mw_1 mw_1502) rfl rfl rfl ⟨rfl, by decide +kernel, by decide +kernel, by decide +kernel⟩ ⟨(Nat.le_of_ble_eq_true rfl), (Nat.le_of_ble_eq_true rfl)⟩) ⟨pw_blind, va_recv (q := (R_Bh, F_Bh, 16)) hK.1 hP (ci := 0) (q0 := 0) rfl rfl, pw_pre hPc hK hDc⟩ rfl rfl hl.1 rfl (lv_room (Nat.le_of_ble_eq_true rfl)) d_Lw_law_917 ⟨(Nat.le_of_ble_eq_true rfl), (Nat.le_of_ble_eq_true rfl)⟩) hS (fun q _ h => hFc q h) hFc (fun r u t H locs ht hvm hw hB hz1 hk1 hS => ?_)
  have hP := pu_kept hP hk1
  obtain rfl : r = 0 := hw
  refine lv_aload_n hx hb d_Lw_law_920 rfl (lv_at hl 1 rfl) ?_
  refine lv_aload_n hx hb d_Lw_law_921 rfl (lv_at hl 3 rfl) ?_
  refine lv_iload_n hx hb d_Lw_law_922 rfl (lv_at hl 0 rfl) ?_
  refine lv_iconst (v := 1) hx hb d_Lw_law_923 (by decide) ?_
  refine lv_iadd hx hb d_Lw_law_924 ?_
  refine lv_topi (fun x0 e0 => ?_)
  obtain rfl : x0 = 1 := e0.trans (by decide)
  refine va_sld hx hb hX hbl hbA hS (vp_in_iff.mpr (by decide)) d_Lw_law_925 ?_
  refine lv_topi (fun x0 e0 => ?_)
  obtain rfl : x0 = xs 1 := e0
  have hPc := hP.sub (ws' := [(oM, .inr (12, fm)), (oR, .inr (14, fr))]) [3, 4] rfl
  have hDc := hD.sub (ws' := [(oM, .inr (12, fm)), (oR, .inr (14, fr))]) [3, 4] (by decide) rfl
  have hFc := pu_free hS hA
  refine va_calli (va_runV (C := R_Mo) (As := [.int (xs 1)]) (rest := [.int 0]) ⟨hx, hb, hml, hown, hts⟩ (c_Mo_reset l dC dI cI cB cZ cJ (xs 1) oM oR fm hm_interlocks fr hr_rows H.size) (cwV 1 hts (tb_V mw_2557 mw_2558 mw_2559 mw_18 mw_2560) rfl rfl rfl ⟨rfl, by decide +kernel, by decide +kernel, by decide +kernel⟩ ⟨(Nat.le_of_ble_eq_true rfl), (Nat.le_of_ble_eq_true rfl)⟩) ⟨pw_blind, va_recv (q := (R_Mo, F_Mo, 87)) hK.1 hP (ci := 12) (q0 := 3) rfl rfl, pw_pre hPc hK hDc⟩ rfl rfl hl.1 rfl (lv_room (Nat.le_of_ble_eq_true rfl)) d_Lw_law_926 ⟨(Nat.le_of_ble_eq_true rfl), (Nat.le_of_ble_eq_true rfl)⟩) hS (fun q _ h => hFc q h) hFc (fun r u t H locs ht hvm hw hB hz1 hk1 hS => ?_)
  have hP := pu_kept hP hk1
  obtain rfl : r = 0 := hw
  refine lv_icmp_eq (tgt := 1208) hx hb d_Lw_law_929 (by decide) (fun _ => ?_) (fun h => absurd (by decide) h)
  refine lv_iinc (k := 0) (v := 6) hx hb d_Lw_law_1208 hl rfl (by first | rfl | decide | exact nI_1 i | exact pv_1 j hj) (by decide) rfl (fun ls hl => ?_)
  have hl : lv_has ls 4 [(3, .int 6), (2, .ref oM), (1, .ref oB), (0, .ref b)] := hl
  refine lv_goto (tgt := 18) hx hb d_Lw_law_1211 (by decide) ?_
  refine lv_iload_n hx hb d_Lw_law_18 rfl (lv_at hl 0 rfl) ?_
  refine lv_aload_n hx hb d_Lw_law_19 rfl (lv_at hl 3 rfl) ?_
  refine va_slen hx hb hX hbl hbA hS d_Lw_law_20 ?_
  refine lv_topi (fun x0 e0 => ?_)
  obtain rfl : x0 = 6 := e0.trans (by decide)
  refine lv_bipush (v := 6) hx hb d_Lw_law_21 (by decide) ?_
  refine lv_isub hx hb d_Lw_law_23 ?_
  refine lv_topi (fun x0 e0 => ?_)
  obtain rfl : x0 = 0 := e0.trans (by decide)
  refine lv_icmp_gt (tgt := 1214) hx hb d_Lw_law_24 (by decide) (fun _ => ?_) (fun h => absurd (by decide) h)
  refine lv_iconst (v := 1) hx hb d_Lw_law_1214 (by decide) ?_
  refine va_forget (fun q hq => hAf _ (hS.2.2 q hq)) ?_
  refine W.widen (k := 600000) (n := 7302250) (Nat.le_of_ble_eq_true rfl) (Nat.le_of_ble_eq_true rfl) ?_
  exact lw_ret hx hb hr hlocks d_Lw_law_1215
theorem d_Lw_law_934 : decode code 934 = .ok (.aload_n 1, 1) := dk_0 a_Lw_law_934 (dko_43 _)
theorem d_Lw_law_935 : decode code 935 = .ok (.aload_n 0, 1) := dk_0 a_Lw_law_935 (dko_42 _)
theorem d_Lw_law_936 : decode code 936 = .ok (.iload_n 3, 1) := dk_0 a_Lw_law_936 (dko_29 _)
theorem d_Lw_law_937 : decode code 937 = .ok (.iconst 1, 1) := dk_0 a_Lw_law_937 (dko_4 _)
theorem d_Lw_law_938 : decode code 938 = .ok (.iadd, 1) := dk_0 a_Lw_law_938 (dko_96 _)
theorem d_Lw_law_939 : decode code 939 = .ok (.iaload, 1) := dk_0 a_Lw_law_939 (dko_46 _)
theorem d_Lw_law_940 : decode code 940 = .ok (.invokevirtual 101, 3) := dk_U2 a_Lw_law_940 (dko_182 _) rfl
theorem d_Lw_law_943 : decode code 943 = .ok (.aload_n 2, 1) := dk_0 a_Lw_law_943 (dko_44 _)
theorem d_Lw_law_944 : decode code 944 = .ok (.aload_n 0, 1) := dk_0 a_Lw_law_944 (dko_42 _)
theorem d_Lw_law_945 : decode code 945 = .ok (.iload_n 3, 1) := dk_0 a_Lw_law_945 (dko_29 _)
theorem d_Lw_law_946 : decode code 946 = .ok (.iconst 1, 1) := dk_0 a_Lw_law_946 (dko_4 _)
theorem d_Lw_law_947 : decode code 947 = .ok (.iadd, 1) := dk_0 a_Lw_law_947 (dko_96 _)
theorem d_Lw_law_948 : decode code 948 = .ok (.iaload, 1) := dk_0 a_Lw_law_948 (dko_46 _)
theorem d_Lw_law_949 : decode code 949 = .ok (.invokevirtual 104, 3) := dk_U2 a_Lw_law_949 (dko_182 _) rfl
theorem d_Lw_law_952 : decode code 952 = .ok (.if_icmp .eq 256, 3) := dk_S2 a_Lw_law_952 (dko_159 _) (by decide +kernel)
set_option maxHeartbeats 4000000 in
set_option maxRecDepth 100000 in
theorem lk_18 {p : Program} {e : Env} {s : State} {m : MethodId} {below : List Frame} {meth : Method} {c : Code} (l : Launch) {b : Nat} {xs : Nat → Int32} {H : Heap} {locs : List Loc} {ls : Array Slot} {dC : Nat → ClassId} {dI : Nat → Nat → Nat} {cI cB cZ cJ : ClassId} {A : Nat → Prop} (hx : p.tables.exec = Jvm.exec) (hb : c.code = code) (hr : meth.sig.returnType = ret) (hml : c.maxLocals = 4) (hown : s.vm.findClass R_law = some m.cls) (hts : ∀ w ∈ (lw_w0 :: lw_gd), w.before #[Value.ref b] s = true) (hX : va_X b 6 xs s s.heap) (hbl : b < s.heap.size) (hlocks : meth.locks = false) (hK : KK dC dI cI cB cZ cJ s) (hA : ∀ q, s.heap.size ≤ q → A q) (hAf : ∀ q, A q → s.heap.size ≤ q) (hbA : ¬ A b) (oB : Nat) (oAc : Nat) (oR1 : Nat) (oM : Nat) (oR : Nat) (xb : List Value) (hb_acts : fx xb 5 (.ref oAc)) (xc : List Value) (hac_rows : fx xc 3 (.ref oR1)) (xr : List Value) (hxr_count : fx xr 0 (.int 0)) (fm : List Value) (hm_interlocks : fx fm 3 (.ref oR)) (fr : List Value) (hr_rows : fx fr 20 (.int 0)) (hP : va_P (dC, dI) classes [(oB, .inr (0, xb)), (oAc, .inr (11, xc)), (oR1, .inr (7, xr)), (oM, .inr (12, fm)), (oR, .inr (14, fr))] H) (hD : va_D A [(oB, .inr (0, xb)), (oAc, .inr (11, xc)), (oR1, .inr (7, xr)), (oM, .inr (12, fm)), (oR, .inr (14, fr))]) (hS : va_S A s.heap H locs) (hl : lv_has ls 4 [(3, .int 0), (2, .ref oM), (1, .ref oB), (0, .ref b)]) : W p l e room_1 s m #[Value.ref b] below meth c H locs 221 83122 (lw_Z below #[Value.ref b] s) (F0 m 934 ls []) := by
  refine lv_aload_n hx hb d_Lw_law_934 rfl (lv_at hl 2 rfl) ?_
  refine lv_aload_n hx hb d_Lw_law_935 rfl (lv_at hl 3 rfl) ?_
  refine lv_iload_n hx hb d_Lw_law_936 rfl (lv_at hl 0 rfl) ?_
  refine lv_iconst (v := 1) hx hb d_Lw_law_937 (by decide) ?_
  refine lv_iadd hx hb d_Lw_law_938 ?_
  refine lv_topi (fun x0 e0 => ?_)
  obtain rfl : x0 = 1 := e0.trans (by decide)
  refine va_sld hx hb hX hbl hbA hS (vp_in_iff.mpr (by decide)) d_Lw_law_939 ?_
  refine lv_topi (fun x0 e0 => ?_)
  obtain rfl : x0 = xs 1 := e0
  have hPc := hP.sub (ws' := [(oB, .inr (0, xb)), (oAc, .inr (11, xc)), (oR1, .inr (7, xr))]) [0, 1, 2] rfl
  have hDc := hD.sub (ws' := [(oB, .inr (0, xb)), (oAc, .inr (11, xc)), (oR1, .inr (7, xr))]) [0, 1, 2] (by decide) rfl
  have hFc := pu_free hS hA
  refine va_calli (va_runV (C := R_Bh) (As := [.int (xs 1)]) (rest := []) ⟨hx, hb, hml, hown, hts⟩ (c_Bh_bars l dC dI cI cB cZ cJ (xs 1) oB oAc oR1 xb hb_acts xc hac_rows xr hxr_count H.size) (cwV 1 hts (tb_V mw_1504 mw_1505 mw_1506 mw_1 mw_1507) rfl rfl rfl ⟨rfl, by decide +kernel, by decide +kernel, by decide +kernel⟩ ⟨(Nat.le_of_ble_eq_true rfl), (Nat.le_of_ble_eq_true rfl)⟩) ⟨pw_blind, va_recv (q := (R_Bh, F_Bh, 16)) hK.1 hP (ci := 0) (q0 := 0) rfl rfl, pw_pre hPc hK hDc⟩ rfl rfl hl.1 rfl (lv_room (Nat.le_of_ble_eq_true rfl)) d_Lw_law_940 ⟨(Nat.le_of_ble_eq_true rfl), (Nat.le_of_ble_eq_true rfl)⟩) hS (fun q _ h => hFc q h) hFc (fun r u t H locs ht hvm hw hB hz1 hk1 hS => ?_)
  have hP := pu_kept hP hk1
  obtain rfl : r = (fn_Bh_bars (xs 1)) := hw
  refine lv_aload_n hx hb d_Lw_law_943 rfl (lv_at hl 1 rfl) ?_
  refine lv_aload_n hx hb d_Lw_law_944 rfl (lv_at hl 3 rfl) ?_
  refine lv_iload_n hx hb d_Lw_law_945 rfl (lv_at hl 0 rfl) ?_
  refine lv_iconst (v := 1) hx hb d_Lw_law_946 (by decide) ?_
  refine lv_iadd hx hb d_Lw_law_947 ?_
  refine lv_topi (fun x0 e0 => ?_)
  obtain rfl : x0 = 1 := e0.trans (by decide)
  refine va_sld hx hb hX hbl hbA hS (vp_in_iff.mpr (by decide)) d_Lw_law_948 ?_
  refine lv_topi (fun x0 e0 => ?_)
  obtain rfl : x0 = xs 1 := e0
  have hPc := hP.sub (ws' := [(oM, .inr (12, fm)), (oR, .inr (14, fr))]) [3, 4] rfl
  have hDc := hD.sub (ws' := [(oM, .inr (12, fm)), (oR, .inr (14, fr))]) [3, 4] (by decide) rfl
  have hFc := pu_free hS hA
  refine va_calli (va_runV (C := R_Mo) (As := [.int (xs 1)]) (rest := [.int ((fn_Bh_bars (xs 1)))]) ⟨hx, hb, hml, hown, hts⟩ (c_Mo_bars l dC dI cI cB cZ cJ (xs 1) oM oR fm hm_interlocks fr hr_rows H.size) (cwV 1 hts (tb_V mw_2565 mw_2566 mw_2567 mw_18 mw_2568) rfl rfl rfl ⟨rfl, by decide +kernel, by decide +kernel, by decide +kernel⟩ ⟨(Nat.le_of_ble_eq_true rfl), (Nat.le_of_ble_eq_true rfl)⟩) ⟨pw_blind, va_recv (q := (R_Mo, F_Mo, 87)) hK.1 hP (ci := 12) (q0 := 3) rfl rfl, pw_pre hPc hK hDc⟩ rfl rfl hl.1 rfl (lv_room (Nat.le_of_ble_eq_true rfl)) d_Lw_law_949 ⟨(Nat.le_of_ble_eq_true rfl), (Nat.le_of_ble_eq_true rfl)⟩) hS (fun q _ h => hFc q h) hFc (fun r u t H locs ht hvm hw hB hz1 hk1 hS => ?_)
  have hP := pu_kept hP hk1
  obtain rfl : r = fn_Mr_act1 (xs 1) := hw
  refine lv_icmp_eq (tgt := 1208) hx hb d_Lw_law_952 (by decide) (fun _ => ?_) (fun h => absurd (eq_bars (xs 1)) h)
  refine lv_iinc (k := 0) (v := 6) hx hb d_Lw_law_1208 hl rfl (by first | rfl | decide | exact nI_1 i | exact pv_1 j hj) (by decide) rfl (fun ls hl => ?_)
  have hl : lv_has ls 4 [(3, .int 6), (2, .ref oM), (1, .ref oB), (0, .ref b)] := hl
  refine lv_goto (tgt := 18) hx hb d_Lw_law_1211 (by decide) ?_
  refine lv_iload_n hx hb d_Lw_law_18 rfl (lv_at hl 0 rfl) ?_
  refine lv_aload_n hx hb d_Lw_law_19 rfl (lv_at hl 3 rfl) ?_
  refine va_slen hx hb hX hbl hbA hS d_Lw_law_20 ?_
  refine lv_topi (fun x0 e0 => ?_)
  obtain rfl : x0 = 6 := e0.trans (by decide)
  refine lv_bipush (v := 6) hx hb d_Lw_law_21 (by decide) ?_
  refine lv_isub hx hb d_Lw_law_23 ?_
  refine lv_topi (fun x0 e0 => ?_)
  obtain rfl : x0 = 0 := e0.trans (by decide)
  refine lv_icmp_gt (tgt := 1214) hx hb d_Lw_law_24 (by decide) (fun _ => ?_) (fun h => absurd (by decide) h)
  refine lv_iconst (v := 1) hx hb d_Lw_law_1214 (by decide) ?_
  refine va_forget (fun q hq => hAf _ (hS.2.2 q hq)) ?_
  refine W.widen (k := 600000) (n := 7302250) (Nat.le_of_ble_eq_true rfl) (Nat.le_of_ble_eq_true rfl) ?_
  exact lw_ret hx hb hr hlocks d_Lw_law_1215
theorem d_Lw_law_957 : decode code 957 = .ok (.aload_n 1, 1) := dk_0 a_Lw_law_957 (dko_43 _)
theorem d_Lw_law_958 : decode code 958 = .ok (.aload_n 0, 1) := dk_0 a_Lw_law_958 (dko_42 _)
theorem d_Lw_law_959 : decode code 959 = .ok (.iload_n 3, 1) := dk_0 a_Lw_law_959 (dko_29 _)
theorem d_Lw_law_960 : decode code 960 = .ok (.iconst 1, 1) := dk_0 a_Lw_law_960 (dko_4 _)
theorem d_Lw_law_961 : decode code 961 = .ok (.iadd, 1) := dk_0 a_Lw_law_961 (dko_96 _)
theorem d_Lw_law_962 : decode code 962 = .ok (.iaload, 1) := dk_0 a_Lw_law_962 (dko_46 _)
theorem d_Lw_law_963 : decode code 963 = .ok (.aload_n 0, 1) := dk_0 a_Lw_law_963 (dko_42 _)
theorem d_Lw_law_964 : decode code 964 = .ok (.iload_n 3, 1) := dk_0 a_Lw_law_964 (dko_29 _)
theorem d_Lw_law_965 : decode code 965 = .ok (.iconst 2, 1) := dk_0 a_Lw_law_965 (dko_5 _)
theorem d_Lw_law_966 : decode code 966 = .ok (.iadd, 1) := dk_0 a_Lw_law_966 (dko_96 _)
theorem d_Lw_law_967 : decode code 967 = .ok (.iaload, 1) := dk_0 a_Lw_law_967 (dko_46 _)
theorem d_Lw_law_968 : decode code 968 = .ok (.invokevirtual 105, 3) := dk_U2 a_Lw_law_968 (dko_182 _) rfl
theorem d_Lw_law_971 : decode code 971 = .ok (.aload_n 2, 1) := dk_0 a_Lw_law_971 (dko_44 _)
theorem d_Lw_law_972 : decode code 972 = .ok (.aload_n 0, 1) := dk_0 a_Lw_law_972 (dko_42 _)
theorem d_Lw_law_973 : decode code 973 = .ok (.iload_n 3, 1) := dk_0 a_Lw_law_973 (dko_29 _)
theorem d_Lw_law_974 : decode code 974 = .ok (.iconst 1, 1) := dk_0 a_Lw_law_974 (dko_4 _)
theorem d_Lw_law_975 : decode code 975 = .ok (.iadd, 1) := dk_0 a_Lw_law_975 (dko_96 _)
theorem d_Lw_law_976 : decode code 976 = .ok (.iaload, 1) := dk_0 a_Lw_law_976 (dko_46 _)
theorem d_Lw_law_977 : decode code 977 = .ok (.aload_n 0, 1) := dk_0 a_Lw_law_977 (dko_42 _)
theorem d_Lw_law_978 : decode code 978 = .ok (.iload_n 3, 1) := dk_0 a_Lw_law_978 (dko_29 _)
theorem d_Lw_law_979 : decode code 979 = .ok (.iconst 2, 1) := dk_0 a_Lw_law_979 (dko_5 _)
theorem d_Lw_law_980 : decode code 980 = .ok (.iadd, 1) := dk_0 a_Lw_law_980 (dko_96 _)
theorem d_Lw_law_981 : decode code 981 = .ok (.iaload, 1) := dk_0 a_Lw_law_981 (dko_46 _)
theorem d_Lw_law_982 : decode code 982 = .ok (.invokevirtual 108, 3) := dk_U2 a_Lw_law_982 (dko_182 _) rfl
theorem d_Lw_law_985 : decode code 985 = .ok (.if_icmp .eq 223, 3) := dk_S2 a_Lw_law_985 (dko_159 _) (by decide +kernel)
set_option maxHeartbeats 4000000 in
set_option maxRecDepth 100000 in
theorem lk_19 {p : Program} {e : Env} {s : State} {m : MethodId} {below : List Frame} {meth : Method} {c : Code} (l : Launch) {b : Nat} {xs : Nat → Int32} {H : Heap} {locs : List Loc} {ls : Array Slot} {dC : Nat → ClassId} {dI : Nat → Nat → Nat} {cI cB cZ cJ : ClassId} {A : Nat → Prop} (hx : p.tables.exec = Jvm.exec) (hb : c.code = code) (hr : meth.sig.returnType = ret) (hml : c.maxLocals = 4) (hown : s.vm.findClass R_law = some m.cls) (hts : ∀ w ∈ (lw_w0 :: lw_gd), w.before #[Value.ref b] s = true) (hX : va_X b 6 xs s s.heap) (hbl : b < s.heap.size) (hlocks : meth.locks = false) (hK : KK dC dI cI cB cZ cJ s) (hA : ∀ q, s.heap.size ≤ q → A q) (hAf : ∀ q, A q → s.heap.size ≤ q) (hbA : ¬ A b) (oB : Nat) (oAc : Nat) (oR1 : Nat) (oM : Nat) (oR : Nat) (xb : List Value) (hb_acts : fx xb 5 (.ref oAc)) (xc : List Value) (hac_rows : fx xc 3 (.ref oR1)) (xr : List Value) (hxr_count : fx xr 0 (.int 0)) (fm : List Value) (hm_interlocks : fx fm 3 (.ref oR)) (fr : List Value) (hr_rows : fx fr 20 (.int 0)) (hP : va_P (dC, dI) classes [(oB, .inr (0, xb)), (oAc, .inr (11, xc)), (oR1, .inr (7, xr)), (oM, .inr (12, fm)), (oR, .inr (14, fr))] H) (hD : va_D A [(oB, .inr (0, xb)), (oAc, .inr (11, xc)), (oR1, .inr (7, xr)), (oM, .inr (12, fm)), (oR, .inr (14, fr))]) (hS : va_S A s.heap H locs) (hl : lv_has ls 4 [(3, .int 0), (2, .ref oM), (1, .ref oB), (0, .ref b)]) : W p l e room_1 s m #[Value.ref b] below meth c H locs 221 83122 (lw_Z below #[Value.ref b] s) (F0 m 957 ls []) := by
  refine lv_aload_n hx hb d_Lw_law_957 rfl (lv_at hl 2 rfl) ?_
  refine lv_aload_n hx hb d_Lw_law_958 rfl (lv_at hl 3 rfl) ?_
  refine lv_iload_n hx hb d_Lw_law_959 rfl (lv_at hl 0 rfl) ?_
  refine lv_iconst (v := 1) hx hb d_Lw_law_960 (by decide) ?_
  refine lv_iadd hx hb d_Lw_law_961 ?_
  refine lv_topi (fun x0 e0 => ?_)
  obtain rfl : x0 = 1 := e0.trans (by decide)
  refine va_sld hx hb hX hbl hbA hS (vp_in_iff.mpr (by decide)) d_Lw_law_962 ?_
  refine lv_topi (fun x0 e0 => ?_)
  obtain rfl : x0 = xs 1 := e0
  refine lv_aload_n hx hb d_Lw_law_963 rfl (lv_at hl 3 rfl) ?_
  refine lv_iload_n hx hb d_Lw_law_964 rfl (lv_at hl 0 rfl) ?_
  refine lv_iconst (v := 2) hx hb d_Lw_law_965 (by decide) ?_
  refine lv_iadd hx hb d_Lw_law_966 ?_
  refine lv_topi (fun x0 e0 => ?_)
  obtain rfl : x0 = 2 := e0.trans (by decide)
  refine va_sld hx hb hX hbl hbA hS (vp_in_iff.mpr (by decide)) d_Lw_law_967 ?_
  refine lv_topi (fun x0 e0 => ?_)
  obtain rfl : x0 = xs 2 := e0
  have hPc := hP.sub (ws' := [(oB, .inr (0, xb)), (oAc, .inr (11, xc)), (oR1, .inr (7, xr))]) [0, 1, 2] rfl
  have hDc := hD.sub (ws' := [(oB, .inr (0, xb)), (oAc, .inr (11, xc)), (oR1, .inr (7, xr))]) [0, 1, 2] (by decide) rfl
  have hFc := pu_free hS hA
  refine va_calli (va_runV (C := R_Bh) (As := [.int (xs 1), .int (xs 2)]) (rest := []) ⟨hx, hb, hml, hown, hts⟩ (c_Bh_row l dC dI cI cB cZ cJ (xs 1) (xs 2) oB oAc oR1 xb hb_acts xc hac_rows xr hxr_count H.size) (cwV 2 hts (tb_V mw_1509 mw_1510 mw_1511 mw_1 mw_1512) rfl rfl rfl ⟨rfl, by decide +kernel, by decide +kernel, by decide +kernel⟩ ⟨(Nat.le_of_ble_eq_true rfl), (Nat.le_of_ble_eq_true rfl)⟩) ⟨pw_blind, va_recv (q := (R_Bh, F_Bh, 16)) hK.1 hP (ci := 0) (q0 := 0) rfl rfl, pw_pre hPc hK hDc⟩ rfl rfl hl.1 rfl (lv_room (Nat.le_of_ble_eq_true rfl)) d_Lw_law_968 ⟨(Nat.le_of_ble_eq_true rfl), (Nat.le_of_ble_eq_true rfl)⟩) hS (fun q _ h => hFc q h) hFc (fun r u t H locs ht hvm hw hB hz1 hk1 hS => ?_)
  have hP := pu_kept hP hk1
  obtain rfl : r = (-1) := hw
  refine lv_aload_n hx hb d_Lw_law_971 rfl (lv_at hl 1 rfl) ?_
  refine lv_aload_n hx hb d_Lw_law_972 rfl (lv_at hl 3 rfl) ?_
  refine lv_iload_n hx hb d_Lw_law_973 rfl (lv_at hl 0 rfl) ?_
  refine lv_iconst (v := 1) hx hb d_Lw_law_974 (by decide) ?_
  refine lv_iadd hx hb d_Lw_law_975 ?_
  refine lv_topi (fun x0 e0 => ?_)
  obtain rfl : x0 = 1 := e0.trans (by decide)
  refine va_sld hx hb hX hbl hbA hS (vp_in_iff.mpr (by decide)) d_Lw_law_976 ?_
  refine lv_topi (fun x0 e0 => ?_)
  obtain rfl : x0 = xs 1 := e0
  refine lv_aload_n hx hb d_Lw_law_977 rfl (lv_at hl 3 rfl) ?_
  refine lv_iload_n hx hb d_Lw_law_978 rfl (lv_at hl 0 rfl) ?_
  refine lv_iconst (v := 2) hx hb d_Lw_law_979 (by decide) ?_
  refine lv_iadd hx hb d_Lw_law_980 ?_
  refine lv_topi (fun x0 e0 => ?_)
  obtain rfl : x0 = 2 := e0.trans (by decide)
  refine va_sld hx hb hX hbl hbA hS (vp_in_iff.mpr (by decide)) d_Lw_law_981 ?_
  refine lv_topi (fun x0 e0 => ?_)
  obtain rfl : x0 = xs 2 := e0
  have hPc := hP.sub (ws' := [(oM, .inr (12, fm)), (oR, .inr (14, fr))]) [3, 4] rfl
  have hDc := hD.sub (ws' := [(oM, .inr (12, fm)), (oR, .inr (14, fr))]) [3, 4] (by decide) rfl
  have hFc := pu_free hS hA
  refine va_calli (va_runV (C := R_Mo) (As := [.int (xs 1), .int (xs 2)]) (rest := [.int (-1)]) ⟨hx, hb, hml, hown, hts⟩ (c_Mo_row l dC dI cI cB cZ cJ (xs 1) (xs 2) oM oR fm hm_interlocks fr hr_rows H.size) (cwV 2 hts (tb_V mw_2569 mw_2570 mw_2571 mw_18 mw_2572) rfl rfl rfl ⟨rfl, by decide +kernel, by decide +kernel, by decide +kernel⟩ ⟨(Nat.le_of_ble_eq_true rfl), (Nat.le_of_ble_eq_true rfl)⟩) ⟨pw_blind, va_recv (q := (R_Mo, F_Mo, 87)) hK.1 hP (ci := 12) (q0 := 3) rfl rfl, pw_pre hPc hK hDc⟩ rfl rfl hl.1 rfl (lv_room (Nat.le_of_ble_eq_true rfl)) d_Lw_law_982 ⟨(Nat.le_of_ble_eq_true rfl), (Nat.le_of_ble_eq_true rfl)⟩) hS (fun q _ h => hFc q h) hFc (fun r u t H locs ht hvm hw hB hz1 hk1 hS => ?_)
  have hP := pu_kept hP hk1
  obtain rfl : r = (-1) := hw
  refine lv_icmp_eq (tgt := 1208) hx hb d_Lw_law_985 (by decide) (fun _ => ?_) (fun h => absurd (by decide) h)
  refine lv_iinc (k := 0) (v := 6) hx hb d_Lw_law_1208 hl rfl (by first | rfl | decide | exact nI_1 i | exact pv_1 j hj) (by decide) rfl (fun ls hl => ?_)
  have hl : lv_has ls 4 [(3, .int 6), (2, .ref oM), (1, .ref oB), (0, .ref b)] := hl
  refine lv_goto (tgt := 18) hx hb d_Lw_law_1211 (by decide) ?_
  refine lv_iload_n hx hb d_Lw_law_18 rfl (lv_at hl 0 rfl) ?_
  refine lv_aload_n hx hb d_Lw_law_19 rfl (lv_at hl 3 rfl) ?_
  refine va_slen hx hb hX hbl hbA hS d_Lw_law_20 ?_
  refine lv_topi (fun x0 e0 => ?_)
  obtain rfl : x0 = 6 := e0.trans (by decide)
  refine lv_bipush (v := 6) hx hb d_Lw_law_21 (by decide) ?_
  refine lv_isub hx hb d_Lw_law_23 ?_
  refine lv_topi (fun x0 e0 => ?_)
  obtain rfl : x0 = 0 := e0.trans (by decide)
  refine lv_icmp_gt (tgt := 1214) hx hb d_Lw_law_24 (by decide) (fun _ => ?_) (fun h => absurd (by decide) h)
  refine lv_iconst (v := 1) hx hb d_Lw_law_1214 (by decide) ?_
  refine va_forget (fun q hq => hAf _ (hS.2.2 q hq)) ?_
  refine W.widen (k := 600000) (n := 7302250) (Nat.le_of_ble_eq_true rfl) (Nat.le_of_ble_eq_true rfl) ?_
  exact lw_ret hx hb hr hlocks d_Lw_law_1215
