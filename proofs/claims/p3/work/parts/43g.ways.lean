/-! the reference's ways: opened and closed -/
theorem hw_zero {w : MW} {v : Int32} (hv : v.toInt = 0) : HW (sI w 127 26 v) := by
  have a1 : (sI w 127 26 v).1 127 26 = v := rfl
  refine ⟨fun k k0 k1 => ?_, fun k l k0 k1 l0 l1 kl => ?_⟩ <;> (rw [a1] at k1; omega)
theorem hw_185 {w : MW} {i v : Int32} (h : HW w) (hi : (w.1 127 26).toInt ≤ i.toInt) : HW (sI w 185 i.toInt.toNat v) := by
  have a1 : (sI w 185 i.toInt.toNat v).1 127 26 = w.1 127 26 := rfl
  refine ⟨fun k k0 k1 => ?_, fun k l k0 k1 l0 l1 kl => ?_⟩
  · rw [a1] at k1
    exact row_mv (w := w) (k := k) rfl (fun _ => rfl) (sI_ne _ _ _ _ _ (by omega)) (fun _ _ _ => rfl) (fun _ _ _ => Or.inr rfl) (h.1 k k0 k1)
  · rw [a1] at k1 l1
    exact h.2 k l k0 k1 l0 l1 kl
theorem hw_186 {w : MW} {i v : Int32} (h : HW w) (hi : 24 * (w.1 127 26).toInt ≤ i.toInt) : HW (sI w 186 i.toInt.toNat v) := by
  have a1 : (sI w 186 i.toInt.toNat v).1 127 26 = w.1 127 26 := rfl
  refine ⟨fun k k0 k1 => ?_, fun k l k0 k1 l0 l1 kl => ?_⟩
  · rw [a1] at k1
    exact row_mv (w := w) (k := k) rfl (fun _ => rfl) rfl (fun j j0 j1 => sI_ne _ _ _ _ _ (by omega)) (fun _ _ _ => Or.inr rfl) (h.1 k k0 k1)
  · rw [a1] at k1 l1
    unfold Fst
    rw [sI_ne _ _ _ _ _ (by omega), sI_ne _ _ _ _ _ (by omega)]
    exact h.2 k l k0 k1 l0 l1 kl
theorem hw_187 {w : MW} {i v : Int32} (h : HW w) (hi : 20 * (w.1 127 26).toInt ≤ i.toInt) : HW (sI w 187 i.toInt.toNat v) := by
  have a1 : (sI w 187 i.toInt.toNat v).1 127 26 = w.1 127 26 := rfl
  refine ⟨fun k k0 k1 => ?_, fun k l k0 k1 l0 l1 kl => ?_⟩
  · rw [a1] at k1
    exact row_mv (w := w) (k := k) rfl (fun _ => rfl) rfl (fun _ _ _ => rfl) (fun t t0 t1 => Or.inr (congrArg Int32.toInt (sI_ne _ _ _ _ _ (by omega)))) (h.1 k k0 k1)
  · rw [a1] at k1 l1
    exact h.2 k l k0 k1 l0 l1 kl
def WN (w : MW) : Prop := RowH w (w.1 127 26) ∧ ∀ k : Int32, 0 ≤ k.toInt → k.toInt < (w.1 127 26).toInt → ¬ Fst w k = Fst w (w.1 127 26)
theorem hw_more {w : MW} {v : Int32} (h : HW w) (hn : WN w) (hv : v.toInt = (w.1 127 26).toInt + 1) : HW (sI w 127 26 v) := by
  have a1 : (sI w 127 26 v).1 127 26 = v := rfl
  have hr : ∀ k : Int32, RowH w k → RowH (sI w 127 26 v) k := fun k hk => row_mv (w := w) (k := k) rfl (fun _ => rfl) rfl (fun _ _ _ => rfl) (fun _ _ _ => Or.inr rfl) hk
  have hf : ∀ k : Int32, Fst (sI w 127 26 v) k = Fst w k := fun _ => rfl
  refine ⟨fun k k0 k1 => hr k ?_, fun k l k0 k1 l0 l1 kl => ?_⟩
  · rw [a1] at k1
    by_cases c : k.toInt < (w.1 127 26).toInt
    · exact h.1 k k0 c
    · have e : k = w.1 127 26 := Int32.toInt_inj.mp (by omega)
      rw [e]
      exact hn.1
  · rw [a1] at k1 l1
    rw [hf, hf]
    by_cases c : k.toInt < (w.1 127 26).toInt
    · by_cases d : l.toInt < (w.1 127 26).toInt
      · exact h.2 k l k0 c l0 d kl
      · have e : l = w.1 127 26 := Int32.toInt_inj.mp (by omega)
        rw [e]
        exact hn.2 k k0 c
    · have e : k = w.1 127 26 := Int32.toInt_inj.mp (by omega)
      rw [e]
      intro q
      exact hn.2 l l0 (by omega) q.symm
def CEa (a : Int32) (w : MW) : Prop := ∀ i : Int32, 0 ≤ i.toInt → i.toInt < a.toInt → w.1 186 (24 * (w.1 127 26).toInt + i.toInt).toNat = w.1 191 i.toInt.toNat
def CEb (w : MW) : Prop := ∀ i : Int32, 0 ≤ i.toInt → i.toInt < (w.1 127 39).toInt → w.1 186 (24 * (w.1 127 26).toInt + i.toInt).toNat = w.1 191 i.toInt.toNat
def CHa (a : Int32) (w : MW) : Prop := ∀ t : Int32, 0 ≤ t.toInt → t.toInt < a.toInt → (w.1 187 (20 * (w.1 127 26).toInt + t.toInt).toNat).toInt = -1 ∨ w.1 187 (20 * (w.1 127 26).toInt + t.toInt).toNat = w.1 192 t.toInt.toNat
def CHb (w : MW) : Prop := ∀ t : Int32, 0 ≤ t.toInt → t.toInt < 20 → (w.1 187 (20 * (w.1 127 26).toInt + t.toInt).toNat).toInt = -1 ∨ w.1 187 (20 * (w.1 127 26).toInt + t.toInt).toNat = w.1 192 t.toInt.toNat
def LB (w : MW) : Prop := (w.1 185 (w.1 127 26).toInt.toNat).toInt = (w.1 127 39).toInt
theorem wn_of {w : MW} (h : HW w) (hB : BW w) (hE : CEb w) (hH : CHb w) (hL : LB w) (h1 : 1 ≤ (w.1 127 39).toInt) (h24 : (w.1 127 39).toInt ≤ 24) (h0 : 0 ≤ (w.1 127 26).toInt) : WN w := by
  refine ⟨⟨by unfold LB at hL; omega, fun t t0 t1 ht => ?_⟩, fun k k0 k1 q => ?_⟩
  · have h9 := (hH t t0 t1).resolve_left ht
    rw [h9] at ht
    obtain ⟨a, b, i, j, ha, ⟨b1, b2, b3, b4⟩, c1, c2⟩ := hB.2 t t0 t1 ht
    unfold LB at hL
    refine ⟨a, b, i, j, ha, ⟨b1, by omega, by omega, b3, by omega, by omega⟩, ?_, ?_⟩
    · rw [hE i b1 b2]; exact c1
    · rw [hE j b3 b4]; exact c2
  · have e0 := hE 0 (by decide) (by rw [i_0]; omega)
    have l1 := (h.1 k k0 k1).1
    refine (hB.1 0 (by decide) (by rw [i_0]; omega)).2 k 0 k0 k1 (by decide) (by rw [i_0]; omega) (by decide) ?_
    rw [← e0]
    unfold Fst at q
    have e1 : 24 * k.toInt + (0 : Int32).toInt = 24 * k.toInt := by rw [i_0]; omega
    have e2 : 24 * (w.1 127 26).toInt + (0 : Int32).toInt = 24 * (w.1 127 26).toInt := by rw [i_0]; omega
    rw [e1, e2]
    exact q.symm
theorem cea_zero {w : MW} {a : Int32} (ha : a.toInt = 0) : CEa a w := fun i h0 h1 => by omega
theorem cha_zero {w : MW} {a : Int32} (ha : a.toInt = 0) : CHa a w := fun i h0 h1 => by omega
theorem lb_185 {w : MW} {i v : Int32} (hi : i.toInt = (w.1 127 26).toInt) (hv : v.toInt = (w.1 127 39).toInt) : LB (sI w 185 i.toInt.toNat v) := by
  have a1 : (sI w 185 i.toInt.toNat v).1 127 26 = w.1 127 26 := rfl
  have a2 : (sI w 185 i.toInt.toNat v).1 127 39 = w.1 127 39 := rfl
  unfold LB
  rw [a1, a2, ← hi, sI_same]
  exact hv
theorem bw_mv {w w' : MW} (h11 : w'.1 127 11 = w.1 127 11) (h26 : w'.1 127 26 = w.1 127 26) (h39 : w'.1 127 39 = w.1 127 39) (h170 : ∀ j, w'.1 170 j = w.1 170 j) (h191 : ∀ j, w'.1 191 j = w.1 191 j) (h192 : ∀ j, w'.1 192 j = w.1 192 j) (h185 : ∀ k : Int32, 0 ≤ k.toInt → k.toInt < (w.1 127 26).toInt → w'.1 185 k.toInt.toNat = w.1 185 k.toInt.toNat) (h186 : ∀ j : Int, 0 ≤ j → j < 24 * (w.1 127 26).toInt → w'.1 186 j.toNat = w.1 186 j.toNat) (h : BW w) : BW w' := by
  have hP : P2 w' = P2 w := by unfold P2; rw [h11]
  have hA : ∀ e : Int32, At w' e = At w e := fun e => by unfold At; rw [h170]
  refine ⟨fun i i0 i1 => ?_, fun t t0 t1 ht => ?_⟩
  · rw [h39] at i1
    rw [h191, hP]
    refine ⟨(h.1 i i0 i1).1, fun k j k0 k1 j0 j1 j24 => ?_⟩
    rw [h26] at k1
    rw [h185 k k0 k1] at j1
    rw [h186 _ (by omega) (by omega)]
    exact (h.1 i i0 i1).2 k j k0 k1 j0 j1 j24
  · rw [h192] at ht
    obtain ⟨a, b, i, j, ⟨a1, a2, a3, a4, a5, a6, a7⟩, hb, c1, c2⟩ := h.2 t t0 t1 ht
    exact ⟨a, b, i, j, ⟨a1, by rw [hP]; exact a2, a3, by rw [hP]; exact a4, a5, by rw [hA]; exact a6, by rw [hA]; exact a7⟩, by rw [h39]; exact hb, by rw [h191]; exact c1, by rw [h191]; exact c2⟩
theorem bw_185 {w : MW} {i v : Int32} (h : BW w) (hi : (w.1 127 26).toInt ≤ i.toInt) : BW (sI w 185 i.toInt.toNat v) := bw_mv (w := w) rfl rfl rfl (fun _ => rfl) (fun _ => rfl) (fun _ => rfl) (fun k k0 k1 => sI_ne _ _ _ _ _ (by omega)) (fun _ _ _ => rfl) h
theorem bw_186 {w : MW} {i v : Int32} (h : BW w) (hi : 24 * (w.1 127 26).toInt ≤ i.toInt) : BW (sI w 186 i.toInt.toNat v) := bw_mv (w := w) rfl rfl rfl (fun _ => rfl) (fun _ => rfl) (fun _ => rfl) (fun _ _ _ => rfl) (fun j j0 j1 => sI_ne _ _ _ _ _ (by omega)) h
theorem BW_fr {l : Pl} {w w' : MW} (hF : FR l w w') (ho : off l [(127, some 11), (127, some 26), (127, some 39), (170, none), (185, none), (186, none), (191, none), (192, none)] = true) (h : BW w) : BW w' := by
  have hq : ∀ k j, hit [(127, some 11), (127, some 26), (127, some 39), (170, none), (185, none), (186, none), (191, none), (192, none)] k j = true → w'.1 k j = w.1 k j := fun k j hk => (hF k j (off_hit ho hk)).1
  exact bw_mv (hq 127 11 rfl) (hq 127 26 rfl) (hq 127 39 rfl) (fun j => hq 170 j rfl) (fun j => hq 191 j rfl) (fun j => hq 192 j rfl) (fun k _ _ => hq 185 _ rfl) (fun j _ _ => hq 186 _ rfl) h
theorem bw_use {w : MW} {i : Int32} (h : BW w) (h0 : 0 ≤ i.toInt) (h1 : i.toInt < (w.1 127 39).toInt) : 0 ≤ (w.1 191 i.toInt.toNat).toInt ∧ (w.1 191 i.toInt.toNat).toInt < 2 * (w.1 127 11).toInt := (h.1 i h0 h1).1
theorem CEb_fr {l : Pl} {w w' : MW} (hF : FR l w w') (ho : off l [(127, some 26), (127, some 39), (186, none), (191, none)] = true) (h : CEb w) : CEb w' := by
  have hq : ∀ k j, hit [(127, some 26), (127, some 39), (186, none), (191, none)] k j = true → w'.1 k j = w.1 k j := fun k j hk => (hF k j (off_hit ho hk)).1
  intro i i0 i1
  rw [hq 127 39 rfl] at i1
  rw [hq 127 26 rfl, hq 186 _ rfl, hq 191 _ rfl]
  exact h i i0 i1
theorem CEa_fr {l : Pl} {w w' : MW} {a1 : Int32} (hF : FR l w w') (ho : off l [(127, some 26), (186, none), (191, none)] = true) (h : CEa a1 w) : CEa a1 w' := by
  have hq : ∀ k j, hit [(127, some 26), (186, none), (191, none)] k j = true → w'.1 k j = w.1 k j := fun k j hk => (hF k j (off_hit ho hk)).1
  intro i i0 i1
  rw [hq 127 26 rfl, hq 186 _ rfl, hq 191 _ rfl]
  exact h i i0 i1
theorem CHa_fr {l : Pl} {w w' : MW} {a1 : Int32} (hF : FR l w w') (ho : off l [(127, some 26), (187, none), (192, none)] = true) (h : CHa a1 w) : CHa a1 w' := by
  have hq : ∀ k j, hit [(127, some 26), (187, none), (192, none)] k j = true → w'.1 k j = w.1 k j := fun k j hk => (hF k j (off_hit ho hk)).1
  intro i i0 i1
  rw [hq 127 26 rfl, hq 187 _ rfl, hq 192 _ rfl]
  exact h i i0 i1
theorem CHb_fr {l : Pl} {w w' : MW} (hF : FR l w w') (ho : off l [(127, some 26), (187, none), (192, none)] = true) (h : CHb w) : CHb w' := by
  have hq : ∀ k j, hit [(127, some 26), (187, none), (192, none)] k j = true → w'.1 k j = w.1 k j := fun k j hk => (hF k j (off_hit ho hk)).1
  intro i i0 i1
  rw [hq 127 26 rfl, hq 187 _ rfl, hq 192 _ rfl]
  exact h i i0 i1
theorem LB_fr {l : Pl} {w w' : MW} (hF : FR l w w') (ho : off l [(127, some 26), (127, some 39), (185, none)] = true) (h : LB w) : LB w' := by
  have hq : ∀ k j, hit [(127, some 26), (127, some 39), (185, none)] k j = true → w'.1 k j = w.1 k j := fun k j hk => (hF k j (off_hit ho hk)).1
  unfold LB at *
  rw [hq 127 26 rfl, hq 127 39 rfl, hq 185 _ rfl]
  exact h
