/-! the law's loop, its start and its end -/
theorem mw_24 : (.classLink "BreweryHouseLaw" 7 "BreweryHouse" : Cond) ∈ lw_gd := tb_mem (i := 24) (by decide +kernel) (by decide +kernel)
theorem mw_26 : (.methodLink "BreweryHouseLaw" 9 y_Bh_init : Cond) ∈ lw_gd := tb_mem (i := 26) (by decide +kernel) (by decide +kernel)
theorem mw_27 : (.instanceMethod y_Bh_init : Cond) ∈ lw_gd := tb_mem (i := 27) (by decide +kernel) (by decide +kernel)
theorem mw_28 : (.code y_Bh_init b_Bh_init 1 none : Cond) ∈ lw_gd := tb_mem (i := 28) (by decide +kernel) (by decide +kernel)
theorem mw_1567 : (.classLink "BreweryHouseLaw" 10 "BreweryHouseModel" : Cond) ∈ lw_gd := tb_mem (i := 1567) (by decide +kernel) (by decide +kernel)
theorem mw_1569 : (.methodLink "BreweryHouseLaw" 12 y_Mo_init : Cond) ∈ lw_gd := tb_mem (i := 1569) (by decide +kernel) (by decide +kernel)
theorem mw_1570 : (.instanceMethod y_Mo_init : Cond) ∈ lw_gd := tb_mem (i := 1570) (by decide +kernel) (by decide +kernel)
set_option maxRecDepth 100000 in
theorem mw_1571 : (.code y_Mo_init b_Mo_init 2 none : Cond) ∈ lw_gd := tb_mem (i := 1571) rfl (by decide +kernel)
def lw_P (b : Addr) (xs : List Int32) (args : Array Value) (s : State) : Prop := args = #[.ref b] ∧ s.IntsAt b xs ∧ xs.length ≤ 3072 ∧ (Jvm.Cond.and given_1 narrow_1).before args s = true
theorem sw_32 {j : Nat} (h : j < 2 ^ 5) : j = 0 ∨ j = 1 ∨ j = 2 ∨ j = 3 ∨ j = 4 ∨ j = 5 ∨ j = 6 ∨ j = 7 ∨ j = 8 ∨ j = 9 ∨ j = 10 ∨ j = 11 ∨ j = 12 ∨ j = 13 ∨ j = 14 ∨ j = 15 ∨ j = 16 ∨ j = 17 ∨ j = 18 ∨ j = 19 ∨ j = 20 ∨ j = 21 ∨ j = 22 ∨ j = 23 ∨ j = 24 ∨ j = 25 ∨ j = 26 ∨ j = 27 ∨ j = 28 ∨ j = 29 ∨ j = 30 ∨ j = 31 := by omega
set_option maxHeartbeats 4000000 in
set_option maxRecDepth 100000 in
theorem lw_loop {E : EV} {p : Program} {e : Env} {s : State} {m : MethodId} {below : List Frame} {meth : Method} {c : Code} (l : Launch) {b L : Nat} {xs : Nat → Int32} {A : Nat → Prop} (F : LwF E p s m c b A) (hX : va_X b L xs s s.heap) (hbl : b < s.heap.size) (hbA : ¬ A b) (hL : L ≤ 3072) (hAf : ∀ q, A q → s.heap.size ≤ q) (hr : meth.sig.returnType = ret) (hlocks : meth.locks = false) (n : Nat) : ∀ (i : Nat) (w : MW) (H : Heap) (locs : List Loc) (ls : Array Slot), LKz (100 * (i : Int)) w → i ≤ 3072 → 3072 - i < n → HR E w A s H locs → lv_has ls 4 [(3, .int (nI i)), (2, .ref (E.ad 127)), (1, .ref (E.ad 0)), (0, .ref b)] → W p l e room_1 s m #[Value.ref b] below meth c H locs 221 83122 (lw_Z below #[Value.ref b] s) (F0 m 18 ls []) := by
  obtain ⟨hx, hb, hml, hown, hts, hK, hG, hAs, hAc, hi2⟩ := id F
  induction n with
  | zero => intro i w H locs ls _ _ h; omega
  | succ n ih =>
    intro i w H locs ls hw hi hm hH hl
    refine lv_iload_n hx hb d_Lw_law_18 rfl (lv_at hl 0 rfl) ?_
    refine lv_aload_n hx hb d_Lw_law_19 rfl (lv_at hl 3 rfl) ?_
    refine va_slen hx hb hX hbl hbA hH.2 d_Lw_law_20 ?_
    refine lv_bipush (v := 6) hx hb d_Lw_law_21 (by decide) ?_
    refine lv_isub hx hb d_Lw_law_23 ?_
    refine lv_topi (fun x0 e0 => ?_)
    have t1 : (nI i).toInt = (i : Int) := nI_toInt (by omega)
    have t2 : x0.toInt = (L : Int) - 6 := by
      rw [e0]
      exact ti_sub2 (nI_toInt (by omega)) (by decide : ((6 : Int32)).toInt = 6) (by omega) (by omega)
    refine lv_icmp_gt (tgt := 1214) hx hb d_Lw_law_24 (by decide) (fun _ => ?_) (fun h => ?_)
    · refine lv_iconst (v := 1) hx hb d_Lw_law_1214 (by decide) ?_
      refine va_forget (fun q hq => hAf _ (hH.2.2.2 q hq)) ?_
      refine W.widen (k := 600000) (n := 7302250) (Nat.le_of_ble_eq_true rfl) (Nat.le_of_ble_eq_true rfl) ?_
      exact lw_ret hx hb hr hlocks d_Lw_law_1215
    have hi6 : i + 6 ≤ L := by
      rw [Int32.lt_iff_toInt_lt] at h
      omega
    have nx : ∀ (w2 : MW) (H : Heap) (locs : List Loc), LKz (100 * (i : Int) + 600) w2 → ∀ (ls : Array Slot), HR E w2 A s H locs → lv_has ls 4 [(3, .int (nI (i + 6))), (2, .ref (E.ad 127)), (1, .ref (E.ad 0)), (0, .ref b)] → W p l e room_1 s m #[Value.ref b] below meth c H locs 221 83122 (lw_Z below #[Value.ref b] s) (F0 m 18 ls []) := fun w2 H locs h2 ls hH hl => ih (i + 6) w2 H locs ls (by
      have e : 100 * ((i + 6 : Nat) : Int) = 100 * (i : Int) + 600 := by omega
      rw [e]
      exact h2) (by omega) (by omega) hH hl
    clear e0 t2 h
    refine lv_aload_n hx hb d_Lw_law_27 rfl (lv_at hl 3 rfl) ?_
    refine lv_iload_n hx hb d_Lw_law_28 rfl (lv_at hl 0 rfl) ?_
    refine va_sld hx hb hX hbl hbA hH.2 (vp_in_nI (by omega) (by omega)) d_Lw_law_29 ?_
    refine lv_topi (fun y0 ey0 => ?_)
    refine lv_bipush (v := 31) hx hb d_Lw_law_30 (by decide) ?_
    refine lv_iand hx hb d_Lw_law_32 ?_
    refine lv_topi (fun x0 e0 => ?_)
    obtain ⟨j, hj, ej⟩ := pk_andE y0 (m := 31) 5 (by decide)
    have e1 : x0 = nI j := e0.trans ej
    clear e0 ej
    rcases sw_32 hj with rfl | rfl | rfl | rfl | rfl | rfl | rfl | rfl | rfl | rfl | rfl | rfl | rfl | rfl | rfl | rfl | rfl | rfl | rfl | rfl | rfl | rfl | rfl | rfl | rfl | rfl | rfl | rfl | rfl | rfl | rfl | rfl
    · obtain rfl : x0 = 0 := e1.trans (by decide)
      refine lv_tableIn (tgt := 164) hx hb d_Lw_law_33 (by decide) (by decide) rfl (by decide) ?_
      exact lk_0 l F hX hbl hbA hL hi6 hw hH hl nx
    · obtain rfl : x0 = 1 := e1.trans (by decide)
      refine lv_tableIn (tgt := 227) hx hb d_Lw_law_33 (by decide) (by decide) rfl (by decide) ?_
      exact lk_1 l F hX hbl hbA hL hi6 hw hH hl nx
    · obtain rfl : x0 = 2 := e1.trans (by decide)
      refine lv_tableIn (tgt := 260) hx hb d_Lw_law_33 (by decide) (by decide) rfl (by decide) ?_
      exact lk_2 l F hX hbl hbA hL hi6 hw hH hl nx
    · obtain rfl : x0 = 3 := e1.trans (by decide)
      refine lv_tableIn (tgt := 333) hx hb d_Lw_law_33 (by decide) (by decide) rfl (by decide) ?_
      exact lk_3 l F hX hbl hbA hL hi6 hw hH hl nx
    · obtain rfl : x0 = 4 := e1.trans (by decide)
      refine lv_tableIn (tgt := 366) hx hb d_Lw_law_33 (by decide) (by decide) rfl (by decide) ?_
      exact lk_4 l F hX hbl hbA hL hi6 hw hH hl nx
    · obtain rfl : x0 = 5 := e1.trans (by decide)
      refine lv_tableIn (tgt := 409) hx hb d_Lw_law_33 (by decide) (by decide) rfl (by decide) ?_
      exact lk_5 l F hX hbl hbA hL hi6 hw hH hl nx
    · obtain rfl : x0 = 6 := e1.trans (by decide)
      refine lv_tableIn (tgt := 442) hx hb d_Lw_law_33 (by decide) (by decide) rfl (by decide) ?_
      exact lk_6 l F hX hbl hbA hL hi6 hw hH hl nx
    · obtain rfl : x0 = 7 := e1.trans (by decide)
      refine lv_tableIn (tgt := 485) hx hb d_Lw_law_33 (by decide) (by decide) rfl (by decide) ?_
      exact lk_7 l F hX hbl hbA hL hi6 hw hH hl nx
    · obtain rfl : x0 = 8 := e1.trans (by decide)
      refine lv_tableIn (tgt := 568) hx hb d_Lw_law_33 (by decide) (by decide) rfl (by decide) ?_
      exact lk_8 l F hX hbl hbA hL hi6 hw hH hl nx
    · obtain rfl : x0 = 9 := e1.trans (by decide)
      refine lv_tableIn (tgt := 631) hx hb d_Lw_law_33 (by decide) (by decide) rfl (by decide) ?_
      exact lk_9 l F hX hbl hbA hL hi6 hw hH hl nx
    · obtain rfl : x0 = 10 := e1.trans (by decide)
      refine lv_tableIn (tgt := 694) hx hb d_Lw_law_33 (by decide) (by decide) rfl (by decide) ?_
      exact lk_10 l F hX hbl hbA hL hi6 hw hH hl nx
    · obtain rfl : x0 = 11 := e1.trans (by decide)
      refine lv_tableIn (tgt := 717) hx hb d_Lw_law_33 (by decide) (by decide) rfl (by decide) ?_
      exact lk_11 l F hX hbl hbA hL hi6 hw hH hl nx
    · obtain rfl : x0 = 12 := e1.trans (by decide)
      refine lv_tableIn (tgt := 730) hx hb d_Lw_law_33 (by decide) (by decide) rfl (by decide) ?_
      exact lk_12 l F hX hbl hbA hL hi6 hw hH hl nx
    · obtain rfl : x0 = 13 := e1.trans (by decide)
      refine lv_tableIn (tgt := 753) hx hb d_Lw_law_33 (by decide) (by decide) rfl (by decide) ?_
      exact lk_13 l F hX hbl hbA hL hi6 hw hH hl nx
    · obtain rfl : x0 = 14 := e1.trans (by decide)
      refine lv_tableIn (tgt := 806) hx hb d_Lw_law_33 (by decide) (by decide) rfl (by decide) ?_
      exact lk_14 l F hX hbl hbA hL hi6 hw hH hl nx
    · obtain rfl : x0 = 15 := e1.trans (by decide)
      refine lv_tableIn (tgt := 845) hx hb d_Lw_law_33 (by decide) (by decide) rfl (by decide) ?_
      exact lk_15 l F hX hbl hbA hL hi6 hw hH hl nx
    · obtain rfl : x0 = 16 := e1.trans (by decide)
      refine lv_tableIn (tgt := 858) hx hb d_Lw_law_33 (by decide) (by decide) rfl (by decide) ?_
      exact lk_16 l F hX hbl hbA hL hi6 hw hH hl nx
    · obtain rfl : x0 = 17 := e1.trans (by decide)
      refine lv_tableIn (tgt := 911) hx hb d_Lw_law_33 (by decide) (by decide) rfl (by decide) ?_
      exact lk_17 l F hX hbl hbA hL hi6 hw hH hl nx
    · obtain rfl : x0 = 18 := e1.trans (by decide)
      refine lv_tableIn (tgt := 934) hx hb d_Lw_law_33 (by decide) (by decide) rfl (by decide) ?_
      exact lk_18 l F hX hbl hbA hL hi6 hw hH hl nx
    · obtain rfl : x0 = 19 := e1.trans (by decide)
      refine lv_tableIn (tgt := 957) hx hb d_Lw_law_33 (by decide) (by decide) rfl (by decide) ?_
      exact lk_19 l F hX hbl hbA hL hi6 hw hH hl nx
    · obtain rfl : x0 = 20 := e1.trans (by decide)
      refine lv_tableIn (tgt := 990) hx hb d_Lw_law_33 (by decide) (by decide) rfl (by decide) ?_
      exact lk_20 l F hX hbl hbA hL hi6 hw hH hl nx
    · obtain rfl : x0 = 21 := e1.trans (by decide)
      refine lv_tableIn (tgt := 1003) hx hb d_Lw_law_33 (by decide) (by decide) rfl (by decide) ?_
      exact lk_21 l F hX hbl hbA hL hi6 hw hH hl nx
    · obtain rfl : x0 = 22 := e1.trans (by decide)
      refine lv_tableIn (tgt := 1027) hx hb d_Lw_law_33 (by decide) (by decide) rfl (by decide) ?_
      exact lk_22 l F hX hbl hbA hL hi6 hw hH hl nx
    · obtain rfl : x0 = 23 := e1.trans (by decide)
      refine lv_tableIn (tgt := 1050) hx hb d_Lw_law_33 (by decide) (by decide) rfl (by decide) ?_
      exact lk_23 l F hX hbl hbA hL hi6 hw hH hl nx
    · obtain rfl : x0 = 24 := e1.trans (by decide)
      refine lv_tableIn (tgt := 1083) hx hb d_Lw_law_33 (by decide) (by decide) rfl (by decide) ?_
      exact lk_24 l F hX hbl hbA hL hi6 hw hH hl nx
    · obtain rfl : x0 = 25 := e1.trans (by decide)
      refine lv_tableIn (tgt := 1116) hx hb d_Lw_law_33 (by decide) (by decide) rfl (by decide) ?_
      exact lk_25 l F hX hbl hbA hL hi6 hw hH hl nx
    · obtain rfl : x0 = 26 := e1.trans (by decide)
      refine lv_tableIn (tgt := 1149) hx hb d_Lw_law_33 (by decide) (by decide) rfl (by decide) ?_
      exact lk_26 l F hX hbl hbA hL hi6 hw hH hl nx
    · obtain rfl : x0 = 27 := e1.trans (by decide)
      refine lv_tableIn (tgt := 1172) hx hb d_Lw_law_33 (by decide) (by decide) rfl (by decide) ?_
      exact lk_27 l F hX hbl hbA hL hi6 hw hH hl nx
    · obtain rfl : x0 = 28 := e1.trans (by decide)
      refine lv_tableIn (tgt := 1195) hx hb d_Lw_law_33 (by decide) (by decide) rfl (by decide) ?_
      exact lk_28 l F hX hbl hbA hL hi6 hw hH hl nx
    · obtain rfl : x0 = 29 := e1.trans (by decide)
      refine lv_tableOut (tgt := 1208) hx hb d_Lw_law_33 (by decide) (by decide) ?_
      exact lk_nx F hH hl (nx w _ _ ⟨hw.1, zq_m (by omega) hw.2⟩)
    · obtain rfl : x0 = 30 := e1.trans (by decide)
      refine lv_tableOut (tgt := 1208) hx hb d_Lw_law_33 (by decide) (by decide) ?_
      exact lk_nx F hH hl (nx w _ _ ⟨hw.1, zq_m (by omega) hw.2⟩)
    · obtain rfl : x0 = 31 := e1.trans (by decide)
      refine lv_tableOut (tgt := 1208) hx hb d_Lw_law_33 (by decide) (by decide) ?_
      exact lk_nx F hH hl (nx w _ _ ⟨hw.1, zq_m (by omega) hw.2⟩)
theorem adJ_big {aB aM aT : Nat → Nat} {k : Nat} (h : 221 ≤ k) : adJ aB aM aT k = aT k := by
  have e1 : Nat.blt k 127 = false := by
    cases hb : Nat.blt k 127 with
    | false => rfl
    | true => have : k < 127 := Nat.blt_eq.mp hb; omega
  have e2 : Nat.blt k 221 = false := by
    cases hb : Nat.blt k 221 with
    | false => rfl
    | true => have : k < 221 := Nat.blt_eq.mp hb; omega
  unfold adJ
  rw [e1, e2]
  rfl
set_option maxHeartbeats 4000000 in
theorem start_T {p : Program} {e : Env} {s : State} {m : MethodId} {below : List Frame} {meth : Method} {c : Code} (l : Launch) {b L : Nat} {xs : Nat → Int32} {H : Heap} {locs : List Loc} {ls : Array Slot} {dC : Nat → ClassId} {dI : Nat → Nat → Nat} {cI cB cZ cJ : ClassId} {A : Nat → Prop} (hL : L ≤ 3072) (hx : p.tables.exec = Jvm.exec) (hb : c.code = code) (hr : meth.sig.returnType = ret) (hml : c.maxLocals = 4) (hown : s.vm.findClass R_law = some m.cls) (hts : ∀ w ∈ (lw_w0 :: lw_gd), w.before #[Value.ref b] s = true) (hX : va_X b L xs s s.heap) (hbl : b < s.heap.size) (hlocks : meth.locks = false) (hK : KK dC dI cI cB cZ cJ s) (hA : ∀ q, s.heap.size ≤ q → A q) (hAf : ∀ q, A q → s.heap.size ≤ q) (hbA : ¬ A b) (aB : Nat → Nat) (g0 : Nat → Int32) (g1 : Nat → Int64) (hpre : (Jvm.Cond.and given_1 narrow_1).before #[Value.ref b] s = true) (hts0 : ∀ w ∈ lw_tbl, w.before #[Value.ref b] s = true) (aM : Nat → Nat) (hg : g0 = ndO 160 ∧ g1 = kwF) (hP : va_P (dC, dI) classes (WB cI cB cZ cJ aB g0 g1 ++ z1_WM cI cB cZ cJ aM) H) (hD : va_D A (WB cI cB cZ cJ aB g0 g1 ++ z1_WM cI cB cZ cJ aM)) (hS : va_S A s.heap H locs) (hl : lv_has ls 4 [(2, .ref (aM 0)), (1, .ref (aB 0)), (0, .ref b)]) : W p l e room_1 s m #[Value.ref b] below meth c H locs 221 83122 (lw_Z below #[Value.ref b] s) (F0 m 16 ls []) := by
  obtain ⟨aT, aV, hGM⟩ := gm_start (A := A) hpre hts0 (fun a h1 h2 => Nat.lt_irrefl _ (Nat.lt_of_lt_of_le h1 (hAf a h2)))
  obtain ⟨E, hE⟩ : ∃ E : EV, E = (dC, dI, (cI, cB, cZ, cJ), adJ aB aM aT, aV) := ⟨_, rfl⟩
  have hG : GM E A s s.heap := hGM E (fun k hk => by rw [hE]; exact adJ_big (by omega)) (by rw [hE])
  rw [wb_w0 (dC := dC) (dI := dI) (aT := aT) (aV := aV), ← hE] at hP hD
  have hK' : KK E.dC E.dI E.cI E.cB E.cZ E.cJ s := by rw [hE]; exact hK
  have hP' : va_P (E.dC, E.dI) classes (wO shl E (w0 g0 g1)) H := by
    have e : (E.dC, E.dI) = (dC, dI) := by rw [hE]
    rw [e]
    exact hP
  have hget : ∀ k, k < shl.length → ∃ s', (wO shl E (w0 g0 g1))[k]? = some (E.ad k, s') := fun k hk => ⟨_, wO_get (List.getElem?_eq_getElem hk)⟩
  have hAc : ∀ k, k < shl.length → A (E.ad k) := fun k hk => by
    obtain ⟨s', e⟩ := hget k hk
    exact hD.2 k _ e
  have hAd : AdI shl E := fun i j hi hj e => by
    obtain ⟨s1, e1⟩ := hget i hi
    obtain ⟨s2, e2⟩ := hget j hj
    exact hD.1 i j _ _ e1 e2 e
  have F : LwF E p s m c b A := ⟨hx, hb, hml, hown, hts, hK', hG, hA, hAc, hAd⟩
  have a0 : E.ad 0 = aB 0 := by rw [hE]; rfl
  have a1 : E.ad 127 = aM 0 := by rw [hE]; rfl
  refine lv_iconst (v := 0) hx hb d_Lw_law_16 (by decide) ?_
  refine lv_istore_n hx hb d_Lw_law_17 rfl hl (by decide) rfl (fun ls hl => ?_)
  have hl : lv_has ls 4 [(3, .int (nI 0)), (2, .ref (aM 0)), (1, .ref (aB 0)), (0, .ref b)] := hl
  rw [← a0, ← a1] at hl
  exact lw_loop l F hX hbl hbA hL hAf hr hlocks 4000 0 (w0 g0 g1) H locs ls (show LKz (100 * ((0 : Nat) : Int)) (w0 g0 g1) from ⟨w0_lkn g0 g1 (by rw [hg.1]; exact ndO_b 160) hg.2, w0_zq g0 g1 hg.1⟩) (by omega) (by omega) ⟨hP', hS⟩ hl
set_option maxHeartbeats 8000000 in
set_option maxRecDepth 100000 in
theorem start_M {p : Program} {e : Env} {s : State} {m : MethodId} {below : List Frame} {meth : Method} {c : Code} (l : Launch) {b L : Nat} {xs : Nat → Int32} {H : Heap} {locs : List Loc} {ls : Array Slot} {dC : Nat → ClassId} {dI : Nat → Nat → Nat} {cI cB cZ cJ : ClassId} {A : Nat → Prop} (hL : L ≤ 3072) (hx : p.tables.exec = Jvm.exec) (hb : c.code = code) (hr : meth.sig.returnType = ret) (hml : c.maxLocals = 4) (hown : s.vm.findClass R_law = some m.cls) (hts : ∀ w ∈ (lw_w0 :: lw_gd), w.before #[Value.ref b] s = true) (hX : va_X b L xs s s.heap) (hbl : b < s.heap.size) (hlocks : meth.locks = false) (hK : KK dC dI cI cB cZ cJ s) (hA : ∀ q, s.heap.size ≤ q → A q) (hAf : ∀ q, A q → s.heap.size ≤ q) (hbA : ¬ A b) (aB : Nat → Nat) (g0 : Nat → Int32) (g1 : Nat → Int64) (hpre : (Jvm.Cond.and given_1 narrow_1).before #[Value.ref b] s = true) (hts0 : ∀ w ∈ lw_tbl, w.before #[Value.ref b] s = true) (hg : g0 = ndO 160 ∧ g1 = kwF) (hP : va_P (dC, dI) classes (WB cI cB cZ cJ aB g0 g1) H) (hD : va_D A (WB cI cB cZ cJ aB g0 g1)) (hS : va_S A s.heap H locs) (hl : lv_has ls 4 [(1, .ref (aB 0)), (0, .ref b)]) : W p l e room_1 s m #[Value.ref b] below meth c H locs 127 17862 (lw_Z below #[Value.ref b] s) (F0 m 8 ls []) := by
  refine va_new (ci := 12) (fs := [.null, .int 0, .null, .null, .int 0, .null, .null, .null, .null, .null, .null, .int 0, .null, .null, .null, .null, .null, .null, .null, .null, .null, .int 0, .int 0, .null, .null, .null, .int 0, .null, .null, .null, .null, .null, .null, .null, .null, .null, .null, .null, .null, .int 0, .long 0, .null, .null, .null, .null, .int 0, .int 0, .int 0, .int 0, .null, .null, .null, .null, .null, .null, .null, .null, .null, .null, .int 0, .int 0, .null, .null, .null, .null, .null, .null, .null, .null, .null, .null, .null, .int 0, .int 0, .int 0, .int 0, .int 0, .int 0, .int 0, .int 0, .null, .null, .null, .int 0, .int 0, .int 0, .int 0]) (C := R_Mo) (T := F_Mo) (N := 87) hx hb hts (fun w h => List.mem_cons_of_mem _ (in_Mo w h)) t_Mo t_Mo_ok hown (hts _ (List.mem_cons_of_mem _ mw_1567)) (hts _ (List.mem_cons_of_mem _ mw_1568)) (hts _ (List.mem_cons_of_mem _ mw_18)) hK.1 hP hD hS hA rfl df_Mo (Nat.le_of_ble_eq_true rfl) (Nat.le_of_ble_eq_true rfl) d_Lw_law_8 (fun q8 H hP hD hS => ?_)
  refine W.widen (k := 128) (n := 17949) (Nat.le_of_ble_eq_true rfl) (Nat.le_of_ble_eq_true rfl) ?_
  refine lv_dup hx hb d_Lw_law_11 rfl ?_
  have hPc : va_P (dC, dI) classes [(q8, .inr (12, [.null, .int 0, .null, .null, .int 0, .null, .null, .null, .null, .null, .null, .int 0, .null, .null, .null, .null, .null, .null, .null, .null, .null, .int 0, .int 0, .null, .null, .null, .int 0, .null, .null, .null, .null, .null, .null, .null, .null, .null, .null, .null, .null, .int 0, .long 0, .null, .null, .null, .null, .int 0, .int 0, .int 0, .int 0, .null, .null, .null, .null, .null, .null, .null, .null, .null, .null, .int 0, .int 0, .null, .null, .null, .null, .null, .null, .null, .null, .null, .null, .null, .int 0, .int 0, .int 0, .int 0, .int 0, .int 0, .int 0, .int 0, .null, .null, .null, .int 0, .int 0, .int 0, .int 0]))] H := sf_P hP
  have hDc : va_D A [(q8, .inr (12, [.null, .int 0, .null, .null, .int 0, .null, .null, .null, .null, .null, .null, .int 0, .null, .null, .null, .null, .null, .null, .null, .null, .null, .int 0, .int 0, .null, .null, .null, .int 0, .null, .null, .null, .null, .null, .null, .null, .null, .null, .null, .null, .null, .int 0, .long 0, .null, .null, .null, .null, .int 0, .int 0, .int 0, .int 0, .null, .null, .null, .null, .null, .null, .null, .null, .null, .null, .int 0, .int 0, .null, .null, .null, .null, .null, .null, .null, .null, .null, .null, .null, .int 0, .int 0, .int 0, .int 0, .int 0, .int 0, .int 0, .int 0, .null, .null, .null, .int 0, .int 0, .int 0, .int 0]))] := sf_D hD
  have hFc := va_free (wc := [(q8, .inr (12, [.null, .int 0, .null, .null, .int 0, .null, .null, .null, .null, .null, .null, .int 0, .null, .null, .null, .null, .null, .null, .null, .null, .null, .int 0, .int 0, .null, .null, .null, .int 0, .null, .null, .null, .null, .null, .null, .null, .null, .null, .null, .null, .null, .int 0, .long 0, .null, .null, .null, .null, .int 0, .int 0, .int 0, .int 0, .null, .null, .null, .null, .null, .null, .null, .null, .null, .null, .int 0, .int 0, .null, .null, .null, .null, .null, .null, .null, .null, .null, .null, .null, .int 0, .int 0, .int 0, .int 0, .int 0, .int 0, .int 0, .int 0, .null, .null, .null, .int 0, .int 0, .int 0, .int 0]))]) hDc hS hA [0] rfl
  refine va_callv (va_runI (As := []) (rest := [.ref q8]) ⟨hx, hb, hml, hown, hts⟩ (c_Mo_init l dC dI cI cB cZ cJ q8 H.size) (cwI 0 hts (tb_in mw_1571) rfl rfl rfl (hts _ (List.mem_cons_of_mem _ mw_18)) (hts _ (List.mem_cons_of_mem _ mw_1569)) (hts _ (List.mem_cons_of_mem _ mw_1570)) rfl (by decide +kernel) ⟨(Nat.le_of_ble_eq_true rfl), (Nat.le_of_ble_eq_true rfl)⟩) ⟨pw_blind, pw_pre hPc hK hDc⟩ rfl rfl hl.1 rfl (lv_room (Nat.le_of_ble_eq_true rfl)) d_Lw_law_12 ⟨(Nat.le_of_ble_eq_true rfl), (Nat.le_of_ble_eq_true rfl)⟩) hS (fun q _ h => hFc q h) hFc (fun u t H locs ht hvm hw hB hz1 hk1 hS => ?_)
  obtain ⟨aM, ea, hP1, hD1⟩ := hB
  rw [ht] at hP1
  obtain ⟨hP, hD⟩ := jn_app hP hD hk1 hFc hP1 hD1
  refine W.widen (k := 221) (n := 83122) (Nat.le_of_ble_eq_true rfl) (Nat.le_of_ble_eq_true rfl) ?_
  refine lv_astore_n hx hb d_Lw_law_15 rfl hl (by decide) rfl (fun ls hl => ?_)
  have hl : lv_has ls 4 [(2, .ref (aM 0)), (1, .ref (aB 0)), (0, .ref b)] := by rw [ea]; exact hl
  exact start_T l hL hx hb hr hml hown hts hX hbl hlocks hK hA hAf hbA aB g0 g1 hpre hts0 aM hg hP hD hS hl
set_option maxHeartbeats 8000000 in
set_option maxRecDepth 100000 in
theorem whole_start {p : Program} {e : Env} {s : State} {m : MethodId} {below : List Frame} {meth : Method} {c : Code} (l : Launch) {b L : Nat} {xs : Nat → Int32} (hL : L ≤ 3072) (C0 : lw_At p s m meth c b L xs) : W p l e room_1 s m #[Value.ref b] below meth c s.heap [] 0 0 (lw_Z below #[Value.ref b] s) (entryFrame m ([Value.ref b] : List Value).toArray 4) := by
  obtain ⟨hx, hb, hr, hml, hown, hts0, hX, hbl, hlocks, hpre⟩ := C0
  have hgd : ∀ w ∈ lw_gd, w.before #[Value.ref b] s = true := fun w hw => hts0 w (List.mem_filter.mp hw).1
  have hts : ∀ w ∈ (lw_w0 :: lw_gd), w.before #[Value.ref b] s = true := fun w hw => (List.mem_cons.mp hw).elim (fun e => by rw [e]; exact hgd _ mw_1) (hgd w)
  obtain ⟨dC, dI, cI, cB, cZ, cJ, hK⟩ := kk_start hts0
  obtain ⟨A, hAe⟩ : ∃ A : Nat → Prop, A = fun q => s.heap.size ≤ q := ⟨_, rfl⟩
  have hA : ∀ q, s.heap.size ≤ q → A q := fun q h => by rw [hAe]; exact h
  have hAf : ∀ q, A q → s.heap.size ≤ q := fun q h => by rw [hAe] at h; exact h
  have hbA : ¬ A b := fun h => Nat.lt_irrefl _ (Nat.lt_of_lt_of_le hbl (hAf b h))
  obtain ⟨tPA, adK, adV, hG⟩ := gg_start (A := A) hpre hts0 (fun a h1 h2 => Nat.lt_irrefl _ (Nat.lt_of_lt_of_le h1 (hAf a h2)))
  have hS : va_S A s.heap s.heap [] := va_S.rf
  have hP : va_P (dC, dI) classes [] s.heap := wn_P
  have hD : va_D A [] := wn_D
  have hl := lv_entry ([.ref b]) (n := 4) (Nat.le_of_ble_eq_true rfl)
  rw [lg_entry_eq]
  generalize (lg_sl ([.ref b]) ++ List.replicate (4 - (lg_sl ([.ref b])).length) Slot.unset).toArray = ls at hl ⊢
  have hl : lv_has ls 4 [(0, .ref b)] := hl
  refine va_new (ci := 0) (fs := [.null, .null, .null, .null, .null, .null, .null, .null, .null, .null, .null, .null, .int 0, .null, .null, .null]) (C := R_Bh) (T := F_Bh) (N := 16) hx hb hts (fun w h => List.mem_cons_of_mem _ (in_Bh w h)) t_Bh t_Bh_ok hown (hts _ (List.mem_cons_of_mem _ mw_24)) (hts _ (List.mem_cons_of_mem _ mw_25)) (hts _ (List.mem_cons_of_mem _ mw_1)) hK.1 hP hD hS hA rfl df_Bh (Nat.le_of_ble_eq_true rfl) (Nat.le_of_ble_eq_true rfl) d_Lw_law_0 (fun q0 H hP hD hS => ?_)
  refine W.widen (k := 1) (n := 16) (Nat.le_of_ble_eq_true rfl) (Nat.le_of_ble_eq_true rfl) ?_
  refine lv_dup hx hb d_Lw_law_3 rfl ?_
  have hPc : va_P (dC, dI) classes [(q0, .inr (0, [.null, .null, .null, .null, .null, .null, .null, .null, .null, .null, .null, .null, .int 0, .null, .null, .null]))] H := hP
  have hDc : va_D A [(q0, .inr (0, [.null, .null, .null, .null, .null, .null, .null, .null, .null, .null, .null, .null, .int 0, .null, .null, .null]))] := hD
  have hFc := va_free (wc := [(q0, .inr (0, [.null, .null, .null, .null, .null, .null, .null, .null, .null, .null, .null, .null, .int 0, .null, .null, .null]))]) hDc hS hA [0] rfl
  refine va_callv (va_runI (As := []) (rest := [.ref q0]) ⟨hx, hb, hml, hown, hts⟩ (c_Bh_init l dC dI cI cB cZ cJ tPA adK adV q0 H.size) (cwI 0 hts (tb_in mw_28) rfl rfl rfl (hts _ (List.mem_cons_of_mem _ mw_1)) (hts _ (List.mem_cons_of_mem _ mw_26)) (hts _ (List.mem_cons_of_mem _ mw_27)) rfl (by decide +kernel) ⟨(Nat.le_of_ble_eq_true rfl), (Nat.le_of_ble_eq_true rfl)⟩) ⟨pwg_blind, pwg_pre hPc hK hDc hG hS hFc⟩ rfl rfl hl.1 rfl (lv_room (Nat.le_of_ble_eq_true rfl)) d_Lw_law_4 ⟨(Nat.le_of_ble_eq_true rfl), (Nat.le_of_ble_eq_true rfl)⟩) hS (fun q _ h => hFc q h) hFc (fun u t H locs ht hvm hw hB hz1 hk1 hS => ?_)
  obtain ⟨aB, g0, g1, ea, hg, hP1, hD1⟩ := hB
  rw [ht] at hP1
  have hP := hP1
  have hD := hD1.weaken (fun k q _ h => hFc q.1 h)
  refine W.widen (k := 127) (n := 17862) (Nat.le_of_ble_eq_true rfl) (Nat.le_of_ble_eq_true rfl) ?_
  refine lv_astore_n hx hb d_Lw_law_7 rfl hl (by decide) rfl (fun ls hl => ?_)
  have hl : lv_has ls 4 [(1, .ref (aB 0)), (0, .ref b)] := by rw [ea]; exact hl
  exact start_M l hL hx hb hr hml hown hts hX hbl hlocks hK hA hAf hbA aB g0 g1 hpre hts0 hg hP hD hS hl
set_option maxHeartbeats 4000000 in
theorem lw_walk (l : Launch) (b : Addr) (xs : List Int32) : MetFree l x (headSpec (Jvm.Cond.code x code maxLocals ret :: tables_1) room_1) (lw_P b xs) (fun _ _ _ _ _ => True) lw_Q := by
  refine MetFree.of_bodyS (code := code) (maxLocals := maxLocals) (ret := ret) (by decide) ?_ ?_
  · intro args s m h hn
    obtain ⟨meth, c, h1, h2, h3, h4, h5, h6, -, -⟩ := Cond.code_spec hn (atoms_spec (ws := Jvm.Cond.code x code maxLocals ret :: tables_1) h _ List.mem_cons_self)
    exact ⟨meth, c, h1, h2, h3, h4, h5, h6⟩
  · intro p e s m args below meth c s₁ B hml0 hP _
    obtain ⟨rfl, hx, hbd, hgv⟩ := hP
    obtain ⟨scr, harrAt, hlist, hof, hsmall⟩ := hx
    obtain ⟨hcb, hkn, -, -⟩ := State.arrayAt?_spec harrAt
    have hown : s.vm.findClass R_law = some m.cls := findClass_of_methodNamed B.named
    have hts0 : ∀ c ∈ (Jvm.Cond.code x code maxLocals ret :: tables_1), c.before #[Value.ref b] s = true := atoms_spec (ws := Jvm.Cond.code x code maxLocals ret :: tables_1) B.pre
    have hts : ∀ w ∈ lw_tbl, w.before #[Value.ref b] s = true := k2_hts_sels lw_privs (fun w hw => hts0 w (List.mem_cons_of_mem _ hw)) lw_privs_ok
    have hml : c.maxLocals = 4 := B.maxLocals_eq (hts0 _ List.mem_cons_self)
    have X₀ : Stand p l e room_1 s m #[Value.ref b] below meth c s₁ [] 0 0 := Stand.of_body B
    have hh0 : s₁.heap = s.heap := by rw [B.state]; rfl
    have hsz : scr.slots.size = xs.length := by rw [← Array.length_toList, hlist, List.length_map]
    have hval : ∀ j : Nat, j < xs.length → scr.slots[j]? = some (.int (xs.getD j 0)) := fun j hj => by
      rw [← Array.getElem?_toList, hlist]
      simp [hj]
    have hbl : b < s.heap.size := (Array.getElem?_eq_some_iff.mp hcb).1
    have hX : va_X b xs.length (fun j => xs.getD j 0) s s.heap := ⟨scr, hcb, hof, hkn, hsz, hval⟩
    have K : W p l e room_1 s m #[Value.ref b] below meth c s₁.heap [] 0 0 (lw_Z below #[Value.ref b] s) (entryFrame m ([Value.ref b] : List Value).toArray 4) := by
      rw [hh0]
      exact whole_start l hbd ⟨B.exec, B.bytes, B.returns, hml, hown, hts, hX, hbl, B.notSynchronized, hgv⟩
    obtain ⟨t, a1, o, b1, b2, b3⟩ := K s₁ rfl X₀
    exact ⟨t, o, a1, b1, b2, b3⟩
theorem lw_pre_spec {args : Array Value} {s : State} (h : (Jvm.Cond.and given_1 narrow_1).before args s = true) (hr : rest_1_c.before args s = true) : ∃ (b : Addr) (xs : List Int32), lw_P b xs args s := by
  have hs := flat_of_before _ h
  have hq := flat_of_before _ hr
  have hc : (Cond.count 1).before args s = true := hs _ (by decide +kernel)
  have harr : (Cond.arrayOf (.arg 0) .int).before args s = true := hs _ (by decide +kernel)
  have hle : (Cond.le (.length (.arg 0)) (.int 3072)).before args s = true := hs _ (by decide +kernel)
  have hlen : (Cond.isInt (.length (.arg 0))).before args s = true := hq _ (by decide +kernel)
  have hall : (Cond.all (.arg 0) (.isInt (.elem (.arg 0) (.index 0)))).before args s = true := hq _ (by decide +kernel)
  obtain ⟨b, xs, hb, hx⟩ := State.ints_of_pre rfl harr hlen hall
  have hsm : xs.length < 2 ^ 31 := hx.choose_spec.2.2.2
  have hev : (Term.length (.arg 0)).eval args s none [] s = some (.int xs.length.toInt32) := hx.length_eval hb
  have hv := Cond.le_ints hev (show (Term.int 3072).eval args s none [] s = some (.int 3072) from rfl)
  have hd : xs.length.toInt32 ≤ 3072 := by
    simpa [Cond.before, Cond.holds, hv] using hle
  have hN : xs.length ≤ 3072 := (Int32.ofNat_le_ofNat hsm (by decide)).mp (show Int32.ofNat xs.length ≤ Int32.ofNat 3072 from hd)
  exact ⟨b, xs, Cond.one_arg hc (show args[0]? = some (.ref b) from hb), hx, hN, h⟩
theorem lw_comes (l : Launch) : Comes l x (Jvm.Cond.code x code maxLocals ret :: tables_1) room_1 (fun tb e args s => Calls_1 tb e args s ∧ rest_1 tb e args s ∧ Pre_1 tb e args s)
    (fun _ _ args s o t => lw_Q args s o t) := by
  intro p e ha hc hk s m args below hf hfit hheap happ hpre
  obtain ⟨b, xs, hP⟩ := lw_pre_spec hpre.2.2 hpre.2.1
  obtain ⟨k, o, h1, h2, h3, hQ⟩ := lw_walk l b xs p e ha hc hk s m args below hf ((Spec.applies_iff_loose hf).mp happ).1 hP trivial
  exact ⟨k, o, h1, h2, h3, hQ⟩
theorem lw_frame {s t : State} {o : Outcome} {args : Array Value} (h : Framed s o t [] 600000 7302250) :
    Framed s o t (fieldLocs frame_1_writes args s ++ arrayLocs frame_1_arrays args s ++ staticLocs frame_1_statics s) 600000 7302250 := h
theorem lw_limb (L : Cond) (hL : ∀ (args : Array Value) (s t : State), L.after args s (.returned (some (.int 1))) t = true) :
    ArmFor flags0 classFile x code maxLocals ret World_1 tables_1 room_1 Calls_1 rest_1 Pre_1
      (fun tb e a s o t => postC L tb e a s o t ∧ Framed s o t (fieldLocs frame_1_writes a s ++ arrayLocs frame_1_arrays a s ++ staticLocs frame_1_statics s) 600000 7302250) := by
  intro l _ _ _ p e ha hc hk s m args below hf hfit hheap happ hpre
  obtain ⟨k, o, h1, h2, h3, rfl, hF⟩ := lw_comes l p e ha hc hk s m args below hf hfit hheap happ hpre
  exact ⟨k, _, h1, h2, h3, hL args s _, lw_frame hF⟩
theorem i_vc : Claimed_1_1 ∧ Claimed_1_2 := ⟨lw_limb limb_1_1 (fun args s t => by simp [limb_1_1, Cond.after, Cond.holds, Cond.value]), lw_limb limb_1_2 (fun args s t => Cond.after_iff.mpr (by
  first | (rw [show limb_1_2 = Cond.eq .result (.int 1) from rfl, Cond.eq_ints (x := 1) (y := 1) rfl rfl]; simp; done) | (simp [limb_1_2, Cond.value, Term.eval]; done)))⟩
