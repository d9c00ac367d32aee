abbrev w_Rd_digitOf : List Cond := .code y_Rd_digitOf b_Rd_digitOf 1 (some .int) :: lw_gd
set_option maxHeartbeats 4000000 in
set_option maxRecDepth 100000 in
theorem z1_c_Sg_coder (l : Launch) (dC : Nat → ClassId) (dI : Nat → Nat → Nat) (cI cB cZ cJ : ClassId) (tPA : Nat) (adK adV : Nat → Nat)  (sz : Nat) : Met l y_Sg_coder w_Sg_coder ({ frames := 0, cells := 0, slots := 0, locals := 0 }) (va_Pc [.ref (adK 0)] (PWG dC dI cI cB cZ cJ tPA adK adV [] [] sz)) (va_Qi (fun (r : Int32) (_ : Unit) => r = 0) (fun _ _ => True) (va_A [] sz)) 0 0 (va_A [] sz) := by
  refine Met.ofW (cc := b_Sg_coder) (maxL := 1) (ret := (some .byte)) (by decide) rfl ?_
  intro p e s m args below meth c s₁ B hml hv
  obtain ⟨rfl, ⟨hsz, hP, hK, hD⟩, hG⟩ := hv
  have hx := B.exec
  have hb := B.bytes
  have hr := B.returns
  have hts := atoms_spec (ws := w_Sg_coder) B.pre
  have hown : s.vm.findClass R_Sg = some m.cls := findClass_of_methodNamed B.named
  have hlocks := B.notSynchronized
  subst hsz
  generalize hAe : va_A [] s.heap.size = A at hG ⊢
  have hA : ∀ q : Nat, s.heap.size ≤ q → A q := fun q h => by rw [← hAe]; exact Or.inr h
  have hS : va_S A s.heap s.heap [] := va_S.rf
  have hP : va_P (dC, dI) classes [] s.heap := hP
  have hl := lv_entry ([.ref (adK 0)]) (n := 1) (Nat.le_of_ble_eq_true rfl)
  rw [lg_entry_eq]
  generalize (lg_sl ([.ref (adK 0)]) ++ List.replicate (1 - (lg_sl ([.ref (adK 0)])).length) Slot.unset).toArray = ls at hl ⊢
  have hl : lv_has ls 1 [(0, .ref (adK 0))] := hl
  refine va_gets hx hb hG.2.2.1 hS hown (hts _ (List.mem_cons_of_mem _ mw_592)) (fun _ h9 => h9) d_Sg_coder_0 ?_
  refine lv_if_eq (tgt := 13) hx hb d_Sg_coder_3 (by decide) (fun h => absurd h (by decide)) (fun _ => ?_)
  refine lv_aload_n hx hb d_Sg_coder_6 rfl (lv_at hl 0 rfl) ?_
  refine vk_getf hx hb (hG.2.2.2.1.1 0 (by decide)).2.1 hS hown (hts _ (List.mem_cons_of_mem _ mw_2701)) (fun _ h9 => h9) d_Sg_coder_7 ?_
  refine lv_goto (tgt := 14) hx hb d_Sg_coder_10 (by decide) ?_
  exact W.zret (v := 0) (ty := .byte) hx hb hr (by decide) (fun t ht hW => ⟨⟨_, (), rfl, (rfl), trivial⟩, hS.F ht⟩) hS.2.2 d_Sg_coder_14
set_option maxHeartbeats 4000000 in
set_option maxRecDepth 100000 in
theorem z1_c_Sg_isLatin1 (l : Launch) (dC : Nat → ClassId) (dI : Nat → Nat → Nat) (cI cB cZ cJ : ClassId) (tPA : Nat) (adK adV : Nat → Nat)  (sz : Nat) : Met l y_Sg_isLatin1 w_Sg_isLatin1 ({ frames := 0, cells := 0, slots := 0, locals := 0 }) (va_Pc [.ref (adK 0)] (PWG dC dI cI cB cZ cJ tPA adK adV [] [] sz)) (va_Qi (fun (r : Int32) (_ : Unit) => r = 1) (fun _ _ => True) (va_A [] sz)) 0 0 (va_A [] sz) := by
  refine Met.ofW (cc := b_Sg_isLatin1) (maxL := 1) (ret := (some .boolean)) (by decide) rfl ?_
  intro p e s m args below meth c s₁ B hml hv
  obtain ⟨rfl, ⟨hsz, hP, hK, hD⟩, hG⟩ := hv
  have hx := B.exec
  have hb := B.bytes
  have hr := B.returns
  have hts := atoms_spec (ws := w_Sg_isLatin1) B.pre
  have hown : s.vm.findClass R_Sg = some m.cls := findClass_of_methodNamed B.named
  have hlocks := B.notSynchronized
  subst hsz
  generalize hAe : va_A [] s.heap.size = A at hG ⊢
  have hA : ∀ q : Nat, s.heap.size ≤ q → A q := fun q h => by rw [← hAe]; exact Or.inr h
  have hS : va_S A s.heap s.heap [] := va_S.rf
  have hP : va_P (dC, dI) classes [] s.heap := hP
  have hl := lv_entry ([.ref (adK 0)]) (n := 1) (Nat.le_of_ble_eq_true rfl)
  rw [lg_entry_eq]
  generalize (lg_sl ([.ref (adK 0)]) ++ List.replicate (1 - (lg_sl ([.ref (adK 0)])).length) Slot.unset).toArray = ls at hl ⊢
  have hl : lv_has ls 1 [(0, .ref (adK 0))] := hl
  refine va_gets hx hb hG.2.2.1 hS hown (hts _ (List.mem_cons_of_mem _ mw_592)) (fun _ h9 => h9) d_Sg_isLatin1_0 ?_
  refine lv_if_eq (tgt := 17) hx hb d_Sg_isLatin1_3 (by decide) (fun h => absurd h (by decide)) (fun _ => ?_)
  refine lv_aload_n hx hb d_Sg_isLatin1_6 rfl (lv_at hl 0 rfl) ?_
  refine vk_getf hx hb (hG.2.2.2.1.1 0 (by decide)).2.1 hS hown (hts _ (List.mem_cons_of_mem _ mw_2701)) (fun _ h9 => h9) d_Sg_isLatin1_7 ?_
  refine lv_if_ne (tgt := 17) hx hb d_Sg_isLatin1_10 (by decide) (fun h => absurd rfl h) (fun _ => ?_)
  refine lv_iconst (v := 1) hx hb d_Sg_isLatin1_13 (by decide) ?_
  refine lv_goto (tgt := 18) hx hb d_Sg_isLatin1_14 (by decide) ?_
  exact W.zret (v := 1) (ty := .boolean) hx hb hr (by decide) (fun t ht hW => ⟨⟨_, (), rfl, (rfl), trivial⟩, hS.F ht⟩) hS.2.2 d_Sg_isLatin1_18
set_option maxHeartbeats 4000000 in
set_option maxRecDepth 100000 in
theorem z1_c_Sg_length (l : Launch) (dC : Nat → ClassId) (dI : Nat → Nat → Nat) (cI cB cZ cJ : ClassId) (tPA : Nat) (adK adV : Nat → Nat)  (sz : Nat) : Met l y_Sg_length w_Sg_length ({ frames := 1, cells := 0, slots := 0, locals := 20 }) (va_Pc [.ref (adK 0)] (PWG dC dI cI cB cZ cJ tPA adK adV [] [] sz)) (va_Qi (fun (r : Int32) (_ : Unit) => r = 114) (fun _ _ => True) (va_A [] sz)) 0 0 (va_A [] sz) := by
  refine Met.ofW (cc := b_Sg_length) (maxL := 1) (ret := (some .int)) (by decide) rfl ?_
  intro p e s m args below meth c s₁ B hml hv
  obtain ⟨rfl, ⟨hsz, hP, hK, hD⟩, hG⟩ := hv
  have hx := B.exec
  have hb := B.bytes
  have hr := B.returns
  have hts := atoms_spec (ws := w_Sg_length) B.pre
  have hown : s.vm.findClass R_Sg = some m.cls := findClass_of_methodNamed B.named
  have hlocks := B.notSynchronized
  subst hsz
  generalize hAe : va_A [] s.heap.size = A at hG ⊢
  have hA : ∀ q : Nat, s.heap.size ≤ q → A q := fun q h => by rw [← hAe]; exact Or.inr h
  have hS : va_S A s.heap s.heap [] := va_S.rf
  have hP : va_P (dC, dI) classes [] s.heap := hP
  have hl := lv_entry ([.ref (adK 0)]) (n := 1) (Nat.le_of_ble_eq_true rfl)
  rw [lg_entry_eq]
  generalize (lg_sl ([.ref (adK 0)]) ++ List.replicate (1 - (lg_sl ([.ref (adK 0)])).length) Slot.unset).toArray = ls at hl ⊢
  have hl : lv_has ls 1 [(0, .ref (adK 0))] := hl
  refine lv_aload_n hx hb d_Sg_length_0 rfl (lv_at hl 0 rfl) ?_
  refine vk_getf hx hb (hG.2.2.2.1.1 0 (by decide)).2.2.1 hS hown (hts _ (List.mem_cons_of_mem _ mw_2700)) (fun _ h9 => h9) d_Sg_length_1 ?_
  refine va_tlen hx hb (hG.2.2.2.1.1 0 (by decide)).2.2.2 hS (v := 114) (by decide) d_Sg_length_4 ?_
  refine lv_aload_n hx hb d_Sg_length_5 rfl (lv_at hl 0 rfl) ?_
  have hPc := hP.sub (ws' := []) [] rfl
  have hDc := hD.sub (ws' := []) [] (by decide) rfl
  have hFc := pu_free hS hA
  refine va_calli (va_runV (C := R_Sg) (As := []) (rest := [.int 114]) ⟨hx, hb, hml, hown, hts⟩ (z1_c_Sg_coder l dC dI cI cB cZ cJ tPA adK adV  s.heap.size) (cwV 0 hts (tb_V mw_588 mw_589 mw_590 mw_14 mw_591) rfl rfl rfl ⟨rfl, by decide +kernel, by decide +kernel, by decide +kernel⟩ ⟨(Nat.le_of_ble_eq_true rfl), (Nat.le_of_ble_eq_true rfl)⟩) ⟨pwg_blind, vk_recv hG.2.2.2.1 (i := 0) (by decide) hS, pwg_pre hPc hK hDc hG hS hFc⟩ rfl rfl hl.1 rfl (lv_room (Nat.le_of_ble_eq_true rfl)) d_Sg_length_6 ⟨(Nat.le_of_ble_eq_true rfl), (Nat.le_of_ble_eq_true rfl)⟩) hS (fun q _ h => hFc q h) hFc (fun r u t H locs ht hvm hw hB hz1 hk1 hS => ?_)
  have hP := pu_kept hP hk1
  obtain rfl : r = 0 := hw
  refine lv_ishr hx hb d_Sg_length_9 ?_
  refine lv_topi (fun x0 e0 => ?_)
  obtain rfl : x0 = 114 := e0.trans (by decide)
  exact W.iret (v := 114) hx hb hr (fun t ht hW => ⟨⟨_, (), rfl, (rfl), trivial⟩, hS.F ht⟩) hS.2.2 d_Sg_length_10
set_option maxHeartbeats 4000000 in
set_option maxRecDepth 100000 in
theorem z1_c_Pc_checkIndex0 (l : Launch) (dC : Nat → ClassId) (dI : Nat → Nat → Nat) (cI cB cZ cJ : ClassId) (tPA : Nat) (adK adV : Nat → Nat) (kk : Int32) (nn : Int32) (hp0 : ¬ kk < 0) (hp1 : ¬ nn ≤ kk) (sz : Nat) : Met l y_Pc_checkIndex w_Pc_checkIndex ({ frames := 0, cells := 0, slots := 0, locals := 0 }) (va_Pc [.int kk, .int nn, .null] (PWG dC dI cI cB cZ cJ tPA adK adV [] [] sz)) (va_Qi (fun (r : Int32) (_ : Unit) => r = kk) (fun _ _ => True) (va_A [] sz)) 0 0 (va_A [] sz) := by
  refine Met.ofW (cc := b_Pc_checkIndex) (maxL := 3) (ret := (some .int)) (by decide) rfl ?_
  intro p e s m args below meth c s₁ B hml hv
  obtain ⟨rfl, ⟨hsz, hP, hK, hD⟩, hG⟩ := hv
  have hx := B.exec
  have hb := B.bytes
  have hr := B.returns
  have hts := atoms_spec (ws := w_Pc_checkIndex) B.pre
  have hown : s.vm.findClass R_Pc = some m.cls := findClass_of_methodNamed B.named
  have hlocks := B.notSynchronized
  subst hsz
  generalize hAe : va_A [] s.heap.size = A at hG ⊢
  have hA : ∀ q : Nat, s.heap.size ≤ q → A q := fun q h => by rw [← hAe]; exact Or.inr h
  have hS : va_S A s.heap s.heap [] := va_S.rf
  have hP : va_P (dC, dI) classes [] s.heap := hP
  have hl := lv_entry ([.int kk, .int nn, .null]) (n := 3) (Nat.le_of_ble_eq_true rfl)
  rw [lg_entry_eq]
  generalize (lg_sl ([.int kk, .int nn, .null]) ++ List.replicate (3 - (lg_sl ([.int kk, .int nn, .null])).length) Slot.unset).toArray = ls at hl ⊢
  have hl : lv_has ls 3 [(0, .int kk), (1, .int nn), (2, .null)] := hl
  refine lv_iload_n hx hb d_Pc_checkIndex_0 rfl (lv_at hl 0 rfl) ?_
  refine lv_if_lt (tgt := 9) hx hb d_Pc_checkIndex_1 (by decide) (fun h => absurd h (nv_lt hp0 (by decide))) (fun _ => ?_)
  refine lv_iload_n hx hb d_Pc_checkIndex_4 rfl (lv_at hl 0 rfl) ?_
  refine lv_iload_n hx hb d_Pc_checkIndex_5 rfl (lv_at hl 1 rfl) ?_
  refine lv_icmp_lt (tgt := 16) hx hb d_Pc_checkIndex_6 (by decide) (fun _ => ?_) (fun h => absurd (Int32.not_le.mp hp1) h)
  refine lv_iload_n hx hb d_Pc_checkIndex_16 rfl (lv_at hl 0 rfl) ?_
  exact W.iret (v := kk) hx hb hr (fun t ht hW => ⟨⟨_, (), rfl, (rfl), trivial⟩, hS.F ht⟩) hS.2.2 d_Pc_checkIndex_17
set_option maxHeartbeats 4000000 in
set_option maxRecDepth 100000 in
theorem z1_c_Pc_checkIndex1 (l : Launch) (dC : Nat → ClassId) (dI : Nat → Nat → Nat) (cI cB cZ cJ : ClassId) (tPA : Nat) (adK adV : Nat → Nat) (kk : Int32) (nn : Int32) (hp0 : ¬ kk < 0) (hp1 : ¬ nn ≤ kk) (tz : Nat) (sz : Nat) : Met l y_Pc_checkIndex w_Pc_checkIndex ({ frames := 0, cells := 0, slots := 0, locals := 0 }) (va_Pc [.int kk, .int nn, .ref tz] (PWG dC dI cI cB cZ cJ tPA adK adV [] [] sz)) (va_Qi (fun (r : Int32) (_ : Unit) => r = kk) (fun _ _ => True) (va_A [] sz)) 0 0 (va_A [] sz) := by
  refine Met.ofW (cc := b_Pc_checkIndex) (maxL := 3) (ret := (some .int)) (by decide) rfl ?_
  intro p e s m args below meth c s₁ B hml hv
  obtain ⟨rfl, ⟨hsz, hP, hK, hD⟩, hG⟩ := hv
  have hx := B.exec
  have hb := B.bytes
  have hr := B.returns
  have hts := atoms_spec (ws := w_Pc_checkIndex) B.pre
  have hown : s.vm.findClass R_Pc = some m.cls := findClass_of_methodNamed B.named
  have hlocks := B.notSynchronized
  subst hsz
  generalize hAe : va_A [] s.heap.size = A at hG ⊢
  have hA : ∀ q : Nat, s.heap.size ≤ q → A q := fun q h => by rw [← hAe]; exact Or.inr h
  have hS : va_S A s.heap s.heap [] := va_S.rf
  have hP : va_P (dC, dI) classes [] s.heap := hP
  have hl := lv_entry ([.int kk, .int nn, .ref tz]) (n := 3) (Nat.le_of_ble_eq_true rfl)
  rw [lg_entry_eq]
  generalize (lg_sl ([.int kk, .int nn, .ref tz]) ++ List.replicate (3 - (lg_sl ([.int kk, .int nn, .ref tz])).length) Slot.unset).toArray = ls at hl ⊢
  have hl : lv_has ls 3 [(0, .int kk), (1, .int nn), (2, .ref tz)] := hl
  refine lv_iload_n hx hb d_Pc_checkIndex_0 rfl (lv_at hl 0 rfl) ?_
  refine lv_if_lt (tgt := 9) hx hb d_Pc_checkIndex_1 (by decide) (fun h => absurd h (nv_lt hp0 (by decide))) (fun _ => ?_)
  refine lv_iload_n hx hb d_Pc_checkIndex_4 rfl (lv_at hl 0 rfl) ?_
  refine lv_iload_n hx hb d_Pc_checkIndex_5 rfl (lv_at hl 1 rfl) ?_
  refine lv_icmp_lt (tgt := 16) hx hb d_Pc_checkIndex_6 (by decide) (fun _ => ?_) (fun h => absurd (Int32.not_le.mp hp1) h)
  refine lv_iload_n hx hb d_Pc_checkIndex_16 rfl (lv_at hl 0 rfl) ?_
  exact W.iret (v := kk) hx hb hr (fun t ht hW => ⟨⟨_, (), rfl, (rfl), trivial⟩, hS.F ht⟩) hS.2.2 d_Pc_checkIndex_17
set_option maxHeartbeats 4000000 in
set_option maxRecDepth 100000 in
theorem z1_c_Sg_checkIndex (l : Launch) (dC : Nat → ClassId) (dI : Nat → Nat → Nat) (cI cB cZ cJ : ClassId) (tPA : Nat) (adK adV : Nat → Nat) (kk : Int32) (nn : Int32) (hp0 : ¬ kk < 0) (hp1 : ¬ nn ≤ kk) (sz : Nat) : Met l y_Sg_checkIndex w_Sg_checkIndex ({ frames := 1, cells := 0, slots := 0, locals := 22 }) (va_Pc [.int kk, .int nn] (PWG dC dI cI cB cZ cJ tPA adK adV [] [] sz)) (va_Qv (fun _ : Unit => True) (fun _ _ => True) (va_A [] sz)) 0 0 (va_A [] sz) := by
  refine Met.ofW (cc := b_Sg_checkIndex) (maxL := 2) (ret := none) (by decide) rfl ?_
  intro p e s m args below meth c s₁ B hml hv
  obtain ⟨rfl, ⟨hsz, hP, hK, hD⟩, hG⟩ := hv
  have hx := B.exec
  have hb := B.bytes
  have hr := B.returns
  have hts := atoms_spec (ws := w_Sg_checkIndex) B.pre
  have hown : s.vm.findClass R_Sg = some m.cls := findClass_of_methodNamed B.named
  have hlocks := B.notSynchronized
  subst hsz
  generalize hAe : va_A [] s.heap.size = A at hG ⊢
  have hA : ∀ q : Nat, s.heap.size ≤ q → A q := fun q h => by rw [← hAe]; exact Or.inr h
  have hS : va_S A s.heap s.heap [] := va_S.rf
  have hP : va_P (dC, dI) classes [] s.heap := hP
  have hl := lv_entry ([.int kk, .int nn]) (n := 2) (Nat.le_of_ble_eq_true rfl)
  rw [lg_entry_eq]
  generalize (lg_sl ([.int kk, .int nn]) ++ List.replicate (2 - (lg_sl ([.int kk, .int nn])).length) Slot.unset).toArray = ls at hl ⊢
  have hl : lv_has ls 2 [(0, .int kk), (1, .int nn)] := hl
  refine lv_iload_n hx hb d_Sg_checkIndex_0 rfl (lv_at hl 0 rfl) ?_
  refine lv_iload_n hx hb d_Sg_checkIndex_1 rfl (lv_at hl 1 rfl) ?_
  rcases hG.2.2.2.2.2 with hz | ⟨tz, hz⟩
  · refine va_gets hx hb hz hS hown (hts _ (List.mem_cons_of_mem _ mw_608)) (fun _ h9 => h9) d_Sg_checkIndex_2 ?_
    have hPc := hP.sub (ws' := []) [] rfl
    have hDc := hD.sub (ws' := []) [] (by decide) rfl
    have hFc := pu_free hS hA
    refine va_calli (va_runS (As := [.int kk, .int nn, .null]) (rest := []) ⟨hx, hb, hml, hown, hts⟩ (z1_c_Pc_checkIndex0 l dC dI cI cB cZ cJ tPA adK adV kk nn hp0 hp1 s.heap.size) (va_cwS 3 hts (tb_S2 mw_610 mw_611 mw_16 mw_612) rfl rfl rfl ⟨by decide +kernel, by decide +kernel, by decide +kernel⟩ ⟨(Nat.le_of_ble_eq_true rfl), (Nat.le_of_ble_eq_true rfl)⟩) ⟨pwg_blind, pwg_pre hPc hK hDc hG hS hFc⟩ rfl rfl hl.1 rfl (lv_room (Nat.le_of_ble_eq_true rfl)) d_Sg_checkIndex_5 ⟨(Nat.le_of_ble_eq_true rfl), (Nat.le_of_ble_eq_true rfl)⟩) hS (fun q _ h => hFc q h) hFc (fun r u t H locs ht hvm hw hB hz1 hk1 hS => ?_)
    have hP := pu_kept hP hk1
    obtain rfl : r = kk := hw
    refine lv_pop hx hb d_Sg_checkIndex_8 rfl ?_
    exact W.vret hx hb hr (fun t ht hW => ⟨⟨(), rfl, trivial, trivial⟩, hS.F ht⟩) hS.2.2 d_Sg_checkIndex_9
  · refine va_gets hx hb hz hS hown (hts _ (List.mem_cons_of_mem _ mw_608)) (fun _ h9 => h9) d_Sg_checkIndex_2 ?_
    have hPc := hP.sub (ws' := []) [] rfl
    have hDc := hD.sub (ws' := []) [] (by decide) rfl
    have hFc := pu_free hS hA
    refine va_calli (va_runS (As := [.int kk, .int nn, .ref tz]) (rest := []) ⟨hx, hb, hml, hown, hts⟩ (z1_c_Pc_checkIndex1 l dC dI cI cB cZ cJ tPA adK adV kk nn hp0 hp1 tz s.heap.size) (va_cwS 3 hts (tb_S2 mw_610 mw_611 mw_16 mw_612) rfl rfl rfl ⟨by decide +kernel, by decide +kernel, by decide +kernel⟩ ⟨(Nat.le_of_ble_eq_true rfl), (Nat.le_of_ble_eq_true rfl)⟩) ⟨pwg_blind, pwg_pre hPc hK hDc hG hS hFc⟩ rfl rfl hl.1 rfl (lv_room (Nat.le_of_ble_eq_true rfl)) d_Sg_checkIndex_5 ⟨(Nat.le_of_ble_eq_true rfl), (Nat.le_of_ble_eq_true rfl)⟩) hS (fun q _ h => hFc q h) hFc (fun r u t H locs ht hvm hw hB hz1 hk1 hS => ?_)
    have hP := pu_kept hP hk1
    obtain rfl : r = kk := hw
    refine lv_pop hx hb d_Sg_checkIndex_8 rfl ?_
    exact W.vret hx hb hr (fun t ht hW => ⟨⟨(), rfl, trivial, trivial⟩, hS.F ht⟩) hS.2.2 d_Sg_checkIndex_9
set_option maxHeartbeats 4000000 in
set_option maxRecDepth 100000 in
theorem z1_c_Sl_charAt (l : Launch) (dC : Nat → ClassId) (dI : Nat → Nat → Nat) (cI cB cZ cJ : ClassId) (tPA : Nat) (adK adV : Nat → Nat) (kk : Int32) (hp0 : ¬ kk < 0) (hp1 : ¬ 114 ≤ kk) (sz : Nat) : Met l y_Sl_charAt w_Sl_charAt ({ frames := 2, cells := 0, slots := 0, locals := 43 }) (va_Pc [.ref (adV 0), .int kk] (PWG dC dI cI cB cZ cJ tPA adK adV [] [] sz)) (va_Qi (fun (r : Int32) (_ : Unit) => r = ((kwb kk) &&& 255)) (fun _ _ => True) (va_A [] sz)) 0 0 (va_A [] sz) := by
  refine Met.ofW (cc := b_Sl_charAt) (maxL := 2) (ret := (some .char)) (by decide) rfl ?_
  intro p e s m args below meth c s₁ B hml hv
  obtain ⟨rfl, ⟨hsz, hP, hK, hD⟩, hG⟩ := hv
  have hx := B.exec
  have hb := B.bytes
  have hr := B.returns
  have hts := atoms_spec (ws := w_Sl_charAt) B.pre
  have hown : s.vm.findClass R_Sl = some m.cls := findClass_of_methodNamed B.named
  have hlocks := B.notSynchronized
  subst hsz
  generalize hAe : va_A [] s.heap.size = A at hG ⊢
  have hA : ∀ q : Nat, s.heap.size ≤ q → A q := fun q h => by rw [← hAe]; exact Or.inr h
  have hS : va_S A s.heap s.heap [] := va_S.rf
  have hP : va_P (dC, dI) classes [] s.heap := hP
  have hl := lv_entry ([.ref (adV 0), .int kk]) (n := 2) (Nat.le_of_ble_eq_true rfl)
  rw [lg_entry_eq]
  generalize (lg_sl ([.ref (adV 0), .int kk]) ++ List.replicate (2 - (lg_sl ([.ref (adV 0), .int kk])).length) Slot.unset).toArray = ls at hl ⊢
  have hl : lv_has ls 2 [(0, .ref (adV 0)), (1, .int kk)] := hl
  refine lv_iload_n hx hb d_Sl_charAt_0 rfl (lv_at hl 1 rfl) ?_
  refine lv_aload_n hx hb d_Sl_charAt_1 rfl (lv_at hl 0 rfl) ?_
  refine va_tlen hx hb (hG.2.2.2.1.1 0 (by decide)).2.2.2 hS (v := 114) (by decide) d_Sl_charAt_2 ?_
  have hPc := hP.sub (ws' := []) [] rfl
  have hDc := hD.sub (ws' := []) [] (by decide) rfl
  have hFc := pu_free hS hA
  refine va_callv (va_runS (As := [.int kk, .int 114]) (rest := []) ⟨hx, hb, hml, hown, hts⟩ (z1_c_Sg_checkIndex l dC dI cI cB cZ cJ tPA adK adV kk 114 hp0 hp1 s.heap.size) (va_cwS 2 hts (tb_S2 mw_605 mw_606 mw_14 mw_607) rfl rfl rfl ⟨by decide +kernel, by decide +kernel, by decide +kernel⟩ ⟨(Nat.le_of_ble_eq_true rfl), (Nat.le_of_ble_eq_true rfl)⟩) ⟨pwg_blind, pwg_pre hPc hK hDc hG hS hFc⟩ rfl rfl hl.1 rfl (lv_room (Nat.le_of_ble_eq_true rfl)) d_Sl_charAt_3 ⟨(Nat.le_of_ble_eq_true rfl), (Nat.le_of_ble_eq_true rfl)⟩) hS (fun q _ h => hFc q h) hFc (fun u t H locs ht hvm hw hB hz1 hk1 hS => ?_)
  have hP := pu_kept hP hk1
  refine lv_aload_n hx hb d_Sl_charAt_6 rfl (lv_at hl 0 rfl) ?_
  refine lv_iload_n hx hb d_Sl_charAt_7 rfl (lv_at hl 1 rfl) ?_
  refine va_tb hx hb (hG.2.2.2.1.1 0 (by decide)).2.2.2 hS (ir_in2 hp0 hp1 (by decide) (by decide)) (v := .int (kwb kk)) rfl d_Sl_charAt_8 ?_
  refine lv_sipush (v := 255) hx hb d_Sl_charAt_9 (by decide) ?_
  refine lv_iand hx hb d_Sl_charAt_12 ?_
  refine lv_i2c (v := ((kwb kk) &&& 255)) hx hb d_Sl_charAt_13 (sc_c2 _) ?_
  exact W.zret (v := ((kwb kk) &&& 255)) (ty := .char) hx hb hr (sc_nar _) (fun t ht hW => ⟨⟨_, (), rfl, (rfl), trivial⟩, hS.F ht⟩) hS.2.2 d_Sl_charAt_14
set_option maxHeartbeats 4000000 in
set_option maxRecDepth 100000 in
theorem z1_c_Sg_charAt (l : Launch) (dC : Nat → ClassId) (dI : Nat → Nat → Nat) (cI cB cZ cJ : ClassId) (tPA : Nat) (adK adV : Nat → Nat) (kk : Int32) (hp0 : ¬ kk < 0) (hp1 : ¬ 114 ≤ kk) (sz : Nat) : Met l y_Sg_charAt w_Sg_charAt ({ frames := 3, cells := 0, slots := 0, locals := 64 }) (va_Pc [.ref (adK 0), .int kk] (PWG dC dI cI cB cZ cJ tPA adK adV [] [] sz)) (va_Qi (fun (r : Int32) (_ : Unit) => r = ((kwb kk) &&& 255)) (fun _ _ => True) (va_A [] sz)) 0 0 (va_A [] sz) := by
  refine Met.ofW (cc := b_Sg_charAt) (maxL := 2) (ret := (some .char)) (by decide) rfl ?_
  intro p e s m args below meth c s₁ B hml hv
  obtain ⟨rfl, ⟨hsz, hP, hK, hD⟩, hG⟩ := hv
  have hx := B.exec
  have hb := B.bytes
  have hr := B.returns
  have hts := atoms_spec (ws := w_Sg_charAt) B.pre
  have hown : s.vm.findClass R_Sg = some m.cls := findClass_of_methodNamed B.named
  have hlocks := B.notSynchronized
  subst hsz
  generalize hAe : va_A [] s.heap.size = A at hG ⊢
  have hA : ∀ q : Nat, s.heap.size ≤ q → A q := fun q h => by rw [← hAe]; exact Or.inr h
  have hS : va_S A s.heap s.heap [] := va_S.rf
  have hP : va_P (dC, dI) classes [] s.heap := hP
  have hl := lv_entry ([.ref (adK 0), .int kk]) (n := 2) (Nat.le_of_ble_eq_true rfl)
  rw [lg_entry_eq]
  generalize (lg_sl ([.ref (adK 0), .int kk]) ++ List.replicate (2 - (lg_sl ([.ref (adK 0), .int kk])).length) Slot.unset).toArray = ls at hl ⊢
  have hl : lv_has ls 2 [(0, .ref (adK 0)), (1, .int kk)] := hl
  refine lv_aload_n hx hb d_Sg_charAt_0 rfl (lv_at hl 0 rfl) ?_
  have hPc := hP.sub (ws' := []) [] rfl
  have hDc := hD.sub (ws' := []) [] (by decide) rfl
  have hFc := pu_free hS hA
  refine va_calli (va_runV (C := R_Sg) (As := []) (rest := []) ⟨hx, hb, hml, hown, hts⟩ (z1_c_Sg_isLatin1 l dC dI cI cB cZ cJ tPA adK adV  s.heap.size) (cwV 0 hts (tb_V mw_598 mw_599 mw_600 mw_14 mw_601) rfl rfl rfl ⟨rfl, by decide +kernel, by decide +kernel, by decide +kernel⟩ ⟨(Nat.le_of_ble_eq_true rfl), (Nat.le_of_ble_eq_true rfl)⟩) ⟨pwg_blind, vk_recv hG.2.2.2.1 (i := 0) (by decide) hS, pwg_pre hPc hK hDc hG hS hFc⟩ rfl rfl hl.1 rfl (lv_room (Nat.le_of_ble_eq_true rfl)) d_Sg_charAt_1 ⟨(Nat.le_of_ble_eq_true rfl), (Nat.le_of_ble_eq_true rfl)⟩) hS (fun q _ h => hFc q h) hFc (fun r u t H locs ht hvm hw hB hz1 hk1 hS => ?_)
  have hP := pu_kept hP hk1
  obtain rfl : r = 1 := hw
  refine lv_if_eq (tgt := 16) hx hb d_Sg_charAt_4 (by decide) (fun h => absurd h (by decide)) (fun _ => ?_)
  refine lv_aload_n hx hb d_Sg_charAt_7 rfl (lv_at hl 0 rfl) ?_
  refine vk_getf hx hb (hG.2.2.2.1.1 0 (by decide)).2.2.1 hS hown (hts _ (List.mem_cons_of_mem _ mw_2700)) (fun _ h9 => h9) d_Sg_charAt_8 ?_
  refine lv_iload_n hx hb d_Sg_charAt_11 rfl (lv_at hl 1 rfl) ?_
  have hPc := hP.sub (ws' := []) [] rfl
  have hDc := hD.sub (ws' := []) [] (by decide) rfl
  have hFc := pu_free hS hA
  refine va_calli (va_runS (As := [.ref (adV 0), .int kk]) (rest := []) ⟨hx, hb, hml, hown, hts⟩ (z1_c_Sl_charAt l dC dI cI cB cZ cJ tPA adK adV kk hp0 hp1 H.size) (va_cwS 2 hts (tb_S2 mw_602 mw_603 mw_15 mw_604) rfl rfl rfl ⟨by decide +kernel, by decide +kernel, by decide +kernel⟩ ⟨(Nat.le_of_ble_eq_true rfl), (Nat.le_of_ble_eq_true rfl)⟩) ⟨pwg_blind, pwg_pre hPc hK hDc hG hS hFc⟩ rfl rfl hl.1 rfl (lv_room (Nat.le_of_ble_eq_true rfl)) d_Sg_charAt_12 ⟨(Nat.le_of_ble_eq_true rfl), (Nat.le_of_ble_eq_true rfl)⟩) hS (fun q _ h => hFc q h) hFc (fun r u t H locs ht hvm hw hB hz1 hk1 hS => ?_)
  have hP := pu_kept hP hk1
  obtain rfl : r = ((kwb kk) &&& 255) := hw
  exact W.zret (v := (((kwb kk) &&& 255))) (ty := .char) hx hb hr (sc_nar _) (fun t ht hW => ⟨⟨_, (), rfl, (by first | rfl | decide), trivial⟩, hS.F ht⟩) hS.2.2 d_Sg_charAt_15
def fn_Rd_digitOf (cc_ : Int32) : Int32 := (if cc_ < 97 then ((cc_ - 48) + 27) else ((cc_ - 97) + 1))
set_option maxHeartbeats 4000000 in
set_option maxRecDepth 100000 in
theorem c_Rd_digitOf (l : Launch) (dC : Nat → ClassId) (dI : Nat → Nat → Nat) (cI cB cZ cJ : ClassId) (cc_ : Int32) (sz : Nat) : Met l y_Rd_digitOf w_Rd_digitOf ({ frames := 0, cells := 0, slots := 0, locals := 0 }) (va_Pc [.int cc_] (PW dC dI cI cB cZ cJ [] sz)) (va_Qi (fun (r : Int32) (_ : Unit) => r = fn_Rd_digitOf cc_) (fun _ _ => True) (va_A [] sz)) 0 0 (va_A [] sz) := by
  refine Met.ofW (cc := b_Rd_digitOf) (maxL := 1) (ret := (some .int)) (by decide) rfl ?_
  intro p e s m args below meth c s₁ B hml hv
  obtain ⟨rfl, hsz, hP, hK, hD⟩ := hv
  have hx := B.exec
  have hb := B.bytes
  have hr := B.returns
  have hts := atoms_spec (ws := w_Rd_digitOf) B.pre
  have hown : s.vm.findClass R_Rd = some m.cls := findClass_of_methodNamed B.named
  have hlocks := B.notSynchronized
  subst hsz
  generalize hAe : va_A [] s.heap.size = A at ⊢
  have hA : ∀ q : Nat, s.heap.size ≤ q → A q := fun q h => by rw [← hAe]; exact Or.inr h
  have hS : va_S A s.heap s.heap [] := va_S.rf
  have hP : va_P (dC, dI) classes [] s.heap := hP
  have hl := lv_entry ([.int cc_]) (n := 1) (Nat.le_of_ble_eq_true rfl)
  rw [lg_entry_eq]
  generalize (lg_sl ([.int cc_]) ++ List.replicate (1 - (lg_sl ([.int cc_])).length) Slot.unset).toArray = ls at hl ⊢
  have hl : lv_has ls 1 [(0, .int cc_)] := hl
  refine lv_iload_n hx hb d_Rd_digitOf_0 rfl (lv_at hl 0 rfl) ?_
  refine lv_bipush (v := 97) hx hb d_Rd_digitOf_1 (by decide) ?_
  refine lv_icmp_lt (tgt := 15) hx hb d_Rd_digitOf_3 (by decide) (fun h3 => ?_) (fun h3 => ?_)
  · refine lv_iload_n hx hb d_Rd_digitOf_15 rfl (lv_at hl 0 rfl) ?_
    refine lv_bipush (v := 48) hx hb d_Rd_digitOf_16 (by decide) ?_
    refine lv_isub hx hb d_Rd_digitOf_18 ?_
    refine lv_bipush (v := 27) hx hb d_Rd_digitOf_19 (by decide) ?_
    refine lv_iadd hx hb d_Rd_digitOf_21 ?_
    exact W.iret (v := ((cc_ - 48) + 27)) hx hb hr (fun t ht hW => ⟨⟨_, (), rfl, (by unfold fn_Rd_digitOf; rw [if_pos h3]), trivial⟩, hS.F ht⟩) hS.2.2 d_Rd_digitOf_22
  · refine lv_iload_n hx hb d_Rd_digitOf_6 rfl (lv_at hl 0 rfl) ?_
    refine lv_bipush (v := 97) hx hb d_Rd_digitOf_7 (by decide) ?_
    refine lv_isub hx hb d_Rd_digitOf_9 ?_
    refine lv_iconst (v := 1) hx hb d_Rd_digitOf_10 (by decide) ?_
    refine lv_iadd hx hb d_Rd_digitOf_11 ?_
    refine lv_goto (tgt := 22) hx hb d_Rd_digitOf_12 (by decide) ?_
    exact W.iret (v := ((cc_ - 97) + 1)) hx hb hr (fun t ht hW => ⟨⟨_, (), rfl, (by unfold fn_Rd_digitOf; rw [if_neg h3]), trivial⟩, hS.F ht⟩) hS.2.2 d_Rd_digitOf_22
