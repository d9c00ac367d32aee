/-! the reference's text: the half that stands; read -/
def fl (w : MW) : MW := sI (sI (sI (sI (sI w 129 12 ((1 : Int32) - (w.1 129 12))) 129 13 (w.1 129 30)) 129 21 300) 129 23 (w.1 129 31)) 129 24 (w.1 129 32)
theorem fl_b {w : MW} (h : BND w) : BND (fl w) := by
  have b := bd_129_12 h
  have s := ti_sub2 (by decide : ((1 : Int32)).toInt = 1) (Eq.refl (w.1 129 12).toInt) (by omega) (by omega)
  have b30 := bd_129_30 h
  have b31 := bd_129_31 h
  have b32 := bd_129_32 h
  exact wbd_129_24 (wbd_129_23 (wbd_129_21 (wbd_129_13 (wbd_129_12 h (by omega) (by omega)) b30.1 b30.2) (by decide) (by decide)) b31.1 b31.2) b32.1 b32.2
theorem fl_h {w : MW} (h : BND w) : bhf (fl w) = (w.1 129 12).toInt := by
  have b := bd_129_12 h
  have s := ti_sub2 (by decide : ((1 : Int32)).toInt = 1) (Eq.refl (w.1 129 12).toInt) (by omega) (by omega)
  show 1 - ((1 : Int32) - (w.1 129 12)).toInt = (w.1 129 12).toInt
  omega
def TLb (v : MW) : Prop := (∀ n, 0 ≤ n → n < (v.1 129 13).toInt → TbN v n) ∧ TpT v ∧ ∃ c, CST v c
def TLx (w : MW) : Prop := TLb (fl w)
def VE (v v' : MW) : Prop := (v'.1 129 12 = v.1 129 12 ∧ v'.1 129 13 = v.1 129 13 ∧ v'.1 129 21 = v.1 129 21 ∧ v'.1 129 23 = v.1 129 23 ∧ v'.1 129 24 = v.1 129 24) ∧ (∀ j : Nat, 300 * bhf v ≤ (j : Int) → (j : Int) < 300 * bhf v + 300 → v'.1 131 j = v.1 131 j ∧ v'.2.1 132 j = v.2.1 132 j ∧ v'.1 135 j = v.1 135 j ∧ v'.1 136 j = v.1 136 j ∧ v'.1 137 j = v.1 137 j ∧ v'.1 138 j = v.1 138 j) ∧ (∀ j : Nat, 40 * bhf v ≤ (j : Int) → (j : Int) < 40 * bhf v + 40 → v'.1 143 j = v.1 143 j)
theorem tn_do {v : MW} {m : Int} (hI : BND v) (hN : ∀ n, 0 ≤ n → n < (v.1 129 13).toInt → TbN v n) (m0 : 0 ≤ m) (m1 : m < (v.1 129 13).toInt) (hk : Kb v m = 19) : (0 ≤ numB v m ∧ numB v m < 40 ∧ numB v m < (v.1 129 24).toInt) ∧ (0 ≤ stB v (numB v m) ∧ stB v (numB v m) < m) ∧ ((v.1 135 (nb v (stB v (numB v m)))).toInt < 300 ∧ 0 ≤ kidB v (stB v (numB v m)) 0 ∧ kidB v (stB v (numB v m)) 0 < stB v (numB v m) ∧ 10 ≤ Kb v (kidB v (stB v (numB v m)) 0) ∧ Kb v (kidB v (stB v (numB v m)) 0) ≤ 23) := by
  have T := hN m m0 m1
  have n := T.2.2.1 (by omega)
  have s := T.2.2.2.2.2.2.2.2.2.2.2 hk
  have T2 := hN (stB v (numB v m)) s.2.1 (by have := s.2.2.1; omega)
  have c := T2.2.2.2.2.2.2.2.2.2.2.1 s.2.2.2
  have d := T2.2.1 0 (by omega) (by omega)
  have b21 := bd_129_21 hI
  have t := T2.1
  exact ⟨⟨n.1, n.2, s.1⟩, ⟨s.2.1, s.2.2.1⟩, by omega, d.1, d.2.1, c.2, d.2.2⟩
theorem tl_ve {v v' : MW} (hI : BND v) (h : TLb v) (e : VE v v') : TLb v' := by
  have bh := bhf_b hI
  have b13 := bd_129_13 hI
  have b21 := bd_129_21 hI
  have b23 := bd_129_23 hI
  have b24 := bd_129_24 hI
  have eh : bhf v' = bhf v := by unfold bhf; rw [e.1.1]
  have en : ∀ n, nb v' n = nb v n := fun n => by unfold nb; rw [eh]
  have eR : ∀ n, 0 ≤ n → n < 300 → (v'.1 131 (nb v n) = v.1 131 (nb v n) ∧ v'.2.1 132 (nb v n) = v.2.1 132 (nb v n) ∧ v'.1 135 (nb v n) = v.1 135 (nb v n) ∧ v'.1 136 (nb v n) = v.1 136 (nb v n)) := fun n n0 n1 => by
    have q := e.2.1 (nb v n) (by unfold nb; omega) (by unfold nb; omega)
    exact ⟨q.1, q.2.1, q.2.2.1, q.2.2.2.1⟩
  have eK : ∀ n, 0 ≤ n → n < 300 → Kb v' n = Kb v n := fun n n0 n1 => by unfold Kb; rw [en, (eR n n0 n1).1]
  have eM : ∀ n, 0 ≤ n → n < 300 → numB v' n = numB v n := fun n n0 n1 => by unfold numB; rw [en, (eR n n0 n1).2.1]
  have eC : ∀ n, 0 ≤ n → n < 300 → cnt v' n = cnt v n := fun n n0 n1 => by unfold cnt; rw [en, (eR n n0 n1).2.2.2]
  have eD : ∀ n k, 0 ≤ n → n < 300 → 0 ≤ k → (v.1 135 (nb v n)).toInt + k < 300 → kidB v' n k = kidB v n k := fun n k n0 n1 k0 k1 => by
    have b := bd_135 hI (nb v n)
    unfold kidB
    rw [en, eh, (eR n n0 n1).2.2.1, (e.2.1 _ (by omega) (by omega)).2.2.2.2.1]
  have eS : ∀ m, 0 ≤ m → m < 40 → stB v' m = stB v m := fun m m0 m1 => by
    unfold stB
    rw [eh, e.2.2 _ (by omega) (by omega)]
  have eT : ∀ t, 0 ≤ t → t < 300 → topB v' t = topB v t := fun t t0 t1 => by
    unfold topB
    rw [eh, (e.2.1 _ (by omega) (by omega)).2.2.2.2.2]
  refine ⟨fun n n0 n1 => ?_, fun t t0 t1 => ?_, ?_⟩
  · rw [e.1.2.1] at n1
    have T := h.1 n n0 n1
    have r := eR n n0 (by omega)
    unfold TbN
    rw [en, r.2.2.1, r.2.2.2, e.1.2.2.1, eK n n0 (by omega), eM n n0 (by omega)]
    have ek : ∀ k, 0 ≤ k → k < (v.1 136 (nb v n)).toInt → kidB v' n k = kidB v n k := fun k k0 k1 => eD n k n0 (by omega) k0 (by have := T.1; omega)
    refine ⟨T.1, fun k k0 k1 => ?_, TbC.mono T.2.2 (fun k k0 k1 => ?_) (fun k19 q => ?_)⟩
    · have t := T.2.1 k k0 k1
      rw [ek k k0 k1, eK _ t.1 (by omega)]
      exact t
    · have t := T.2.1 k k0 k1
      show Kb v' (kidB v' n k) = Kb v (kidB v n k)
      rw [ek k k0 k1, eK _ t.1 (by omega)]
    · have d := T.2.2.1 (by omega)
      unfold sn
      rw [eS _ d.1 d.2, e.1.2.2.2.2, eK _ q.2.1 (by have := q.2.2.1; omega)]
      exact q
  · rw [e.1.2.2.2.1] at t1
    have q := h.2.1 t t0 t1
    rw [eT t t0 (by omega), eK _ q.1 (by omega), e.1.2.1]
    exact q
  · obtain ⟨c, hc⟩ := h.2.2
    refine ⟨c, hc.1, fun m m0 m1 q k0 k1 => ?_, ?_⟩
    · rw [e.1.2.1] at m1
      rw [eK m m0 (by omega)] at k0 k1
      have z := hc.2.1 m m0 m1 q k0 k1
      have T := h.1 m m0 m1
      rw [eC m m0 (by omega), eK m m0 (by omega)]
      have ec : csum (fun k => c (kidB v' m k)) (cnt v m).toNat = csum (fun k => c (kidB v m k)) (cnt v m).toNat := csum_c _ (fun k a b => by
        have bc := bd_136 hI (nb v m)
        have ecn : (v.1 136 (nb v m)).toInt = cnt v m := rfl
        have t := T.1
        rw [eD m k m0 (by omega) a (by omega)])
      rw [ec]
      refine ⟨z.1, fun q19 => ?_⟩
      have d := tn_do hI h.1 m0 m1 q19
      rw [eM m m0 (by omega), eS _ d.1.1 d.1.2.1, eD _ 0 d.2.1.1 (by omega) (by omega) (by have := d.2.2.1; omega)]
      exact z.2 q19
    · rw [e.1.2.2.2.1]
      have ec : csum (ctp v' c) (v.1 129 23).toInt.toNat = csum (ctp v c) (v.1 129 23).toInt.toNat := csum_c _ (fun t a b => by
        have q := h.2.1 t a (by omega)
        unfold ctp
        rw [eT t a (by omega), eK _ q.1 (by omega)])
      rw [ec]
      exact hc.2.2
def lTL : Pl := [(129, some 12), (129, some 30), (129, some 31), (129, some 32), (131, none), (132, none), (135, none), (136, none), (137, none), (138, none), (143, none)]
theorem tlx_fr {l : Pl} {w w' : MW} (hI : BND w) (hF : FR l w w') (ho : off l lTL = true) (h : TLx w) : TLx w' := by
  have hq : ∀ k j, hit lTL k j = true → w'.1 k j = w.1 k j ∧ w'.2.1 k j = w.2.1 k j := fun k j hk => ⟨(hF k j (off_hit ho hk)).1, (hF k j (off_hit ho hk)).2.1⟩
  refine tl_ve (fl_b hI) h ⟨⟨?_, (hq 129 30 rfl).1, rfl, (hq 129 31 rfl).1, (hq 129 32 rfl).1⟩, fun j _ _ => ⟨(hq 131 j rfl).1, (hq 132 j rfl).2, (hq 135 j rfl).1, (hq 136 j rfl).1, (hq 137 j rfl).1, (hq 138 j rfl).1⟩, fun j _ _ => (hq 143 j rfl).1⟩
  show (1 : Int32) - (w'.1 129 12) = (1 : Int32) - (w.1 129 12)
  rw [(hq 129 12 rfl).1]
theorem tlx_sh {w w' : MW} (hI : BND w) (hF : w'.1 129 12 = w.1 129 12 ∧ w'.1 129 30 = w.1 129 30 ∧ w'.1 129 31 = w.1 129 31 ∧ w'.1 129 32 = w.1 129 32) (h1 : SHh w w') (h2 : SH2 w w') (h : TLx w) : TLx w' := by
  refine tl_ve (fl_b hI) h ⟨⟨?_, hF.2.1, rfl, hF.2.2.1, hF.2.2.2⟩, fun j a b => ?_, fun j a b => ?_⟩
  · show (1 : Int32) - (w'.1 129 12) = (1 : Int32) - (w.1 129 12)
    rw [hF.1]
  · rw [fl_h hI] at a b
    have p := h1 j a b
    exact ⟨p.1, p.2.1, p.2.2.1, p.2.2.2.1, p.2.2.2.2, h2.1 j a b⟩
  · rw [fl_h hI] at a b
    exact h2.2 j a b
