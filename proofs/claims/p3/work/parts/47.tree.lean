/-! the reference's tree: expressions -/
def nd1 (w : MW) (n : Int) : Nat := (300 * (w.1 129 12).toInt + n).toNat
def kidV (w : MW) (n k : Int) : Int32 := w.1 137 (300 * (w.1 129 12).toInt + (w.1 135 (nd1 w n)).toInt + k).toNat
def KIDe (w : MW) (n k : Int) : Prop := (w.1 135 (nd1 w n)).toInt + k < 300 ∧ 0 ≤ (kidV w n k).toInt ∧ (kidV w n k).toInt < n ∧ (w.1 131 (nd1 w (kidV w n k).toInt)).toInt ≤ 9
def TEx (w : MW) : Prop := ∀ n : Int32, 0 ≤ n.toInt → n.toInt < (w.1 129 30).toInt → (w.1 131 (nd1 w n.toInt)).toInt ≤ 9 → ((w.1 131 (nd1 w n.toInt)).toInt = 1 → 0 ≤ (Int64.toInt32 (w.2.1 132 (nd1 w n.toInt))).toInt ∧ (Int64.toInt32 (w.2.1 132 (nd1 w n.toInt))).toInt < 40) ∧ (¬ (w.1 131 (nd1 w n.toInt)).toInt = 0 → ¬ (w.1 131 (nd1 w n.toInt)).toInt = 1 → KIDe w n.toInt 0 ∧ (¬ (w.1 131 (nd1 w n.toInt)).toInt = 6 → KIDe w n.toInt 1))
theorem tex_fr {l : Pl} {w w' : MW} (hF : FR l w w') (ho : off l [(129, some 12), (129, some 30), (131, none), (132, none), (135, none), (137, none)] = true) (h : TEx w) : TEx w' := by
  have hq : ∀ k j, hit [(129, some 12), (129, some 30), (131, none), (132, none), (135, none), (137, none)] k j = true → w'.1 k j = w.1 k j ∧ w'.2.1 k j = w.2.1 k j := fun k j hk => ⟨(hF k j (off_hit ho hk)).1, (hF k j (off_hit ho hk)).2.1⟩
  have q12 := (hq 129 12 rfl).1
  have q30 := (hq 129 30 rfl).1
  have q131 : ∀ j, w'.1 131 j = w.1 131 j := fun j => (hq 131 j rfl).1
  have q132 : ∀ j, w'.2.1 132 j = w.2.1 132 j := fun j => (hq 132 j rfl).2
  have q135 : ∀ j, w'.1 135 j = w.1 135 j := fun j => (hq 135 j rfl).1
  have q137 : ∀ j, w'.1 137 j = w.1 137 j := fun j => (hq 137 j rfl).1
  unfold TEx KIDe kidV nd1 at *
  simp only [q12, q30, q131, q132, q135, q137]
  exact h
theorem nd_ix {w : MW} {n : Int32} (hI : BND w) (n0 : 0 ≤ n.toInt) (n1 : n.toInt < 300) : (((300 : Int32) * (w.1 129 12)) + n).toInt = 300 * (w.1 129 12).toInt + n.toInt := by
  have b := bd_129_12 hI
  have m := ti_mul2 (by decide : ((300 : Int32)).toInt = 300) (Eq.refl (w.1 129 12).toInt) (by omega) (by omega)
  exact ti_add2 m (Eq.refl n.toInt) (by omega) (by omega)
theorem g_kid {w : MW} {n k : Int32} {Q : Int32 → MW → Prop} (hI : BND w) (n0 : 0 ≤ n.toInt) (n1 : n.toInt < 300) (k0 : 0 ≤ k.toInt) (k1 : k.toInt < 300) (hk : (w.1 135 (nd1 w n.toInt)).toInt + k.toInt < 300) (hQ : Q (kidV w n.toInt k.toInt) w) : p_Tx_kid w n k Q := by
  have b := bd_129_12 hI
  have e := nd_ix hI n0 n1
  have en : (((300 : Int32) * (w.1 129 12)) + n).toInt.toNat = nd1 w n.toInt := by rw [e]; rfl
  refine Eq.mpr (p_Tx_kid.eq_1 _ _ _ _) (Eq.mpr (p_Tx_node1.eq_1 _ _ _) ?_)
  rw [en]
  have b135 := bd_135 hI (nd1 w n.toInt)
  have m := ti_mul2 (by decide : ((300 : Int32)).toInt = 300) (Eq.refl (w.1 129 12).toInt) (by omega) (by omega)
  have m2 := ti_add2 m (Eq.refl (w.1 135 (nd1 w n.toInt)).toInt) (by omega) (by omega)
  have m3 := ti_add2 m2 (Eq.refl k.toInt) (by omega) (by omega)
  refine ⟨⟨by omega, by omega⟩, ⟨by omega, by omega⟩, ?_⟩
  have ek : w.1 137 (((((300 : Int32) * (w.1 129 12)) + (w.1 135 (nd1 w n.toInt))) + k).toInt.toNat) = kidV w n.toInt k.toInt := by rw [m3]; rfl
  rw [ek]
  exact hQ
def lrk : Pl := [(127, some 76)]
theorem rk_all (d : Nat) : ∀ (n : Int32) (w : MW) (Q : Int64 → MW → Prop), BND w → TEx w → 0 ≤ n.toInt → n.toInt < (w.1 129 30).toInt → (w.1 131 (nd1 w n.toInt)).toInt ≤ 9 → n.toInt < (d : Int) → (∀ (r : Int64) (w' : MW), BND w' → FR lrk w w' → Q r w') → pn_Mo_reckon d w n Q := by
  induction d with
  | zero => intros; omega
  | succ d ih =>
    intro n w Q hI hT n0 n1 hw hd hQ
    refine Eq.mpr (pe_Mo_reckon d w n Q) (Eq.mpr (pb_Mo_reckon.eq_1 _ _ _ _) ⟨fun c => ?_, fun _ => hQ 0 w hI (FR.refl _ w)⟩)
    have b30 := bd_129_30 hI
    have b12 := bd_129_12 hI
    have e := nd_ix hI n0 (by omega)
    have en : (((300 : Int32) * (w.1 129 12)) + n).toInt.toNat = nd1 w n.toInt := by rw [e]; rfl
    have hx : 0 ≤ (((300 : Int32) * (w.1 129 12)) + n).toInt ∧ (((300 : Int32) * (w.1 129 12)) + n).toInt < 600 := by omega
    have ht := hT n n0 n1 hw
    refine Eq.mpr (p_Tx_node1.eq_1 _ _ _) ⟨hx, ?_⟩
    rw [en]
    refine ⟨fun c0 => ⟨fun c1 => ?_, fun c1 => Eq.mpr (p_Tx_node1.eq_1 _ _ _) ⟨hx, ?_⟩⟩, fun _ => Eq.mpr (p_Tx_node1.eq_1 _ _ _) ⟨hx, hQ _ _ hI (FR.refl _ w)⟩⟩
    · have hk := ht.2 c0 c1
      have k0 := hk.1
      refine g_kid hI n0 (by omega) (by decide) (by decide) (by rw [i_0]; exact k0.1) ?_
      rw [i_0]
      refine ih _ w _ hI hT k0.2.1 (by have := k0.2.2.1; omega) k0.2.2.2 (by have := k0.2.2.1; omega) (fun r7 w7 hI7 hF7 => ⟨fun c6 => ?_, fun _ => hQ _ w7 hI7 hF7⟩)
      have hT7 := tex_fr hF7 rfl hT
      have e30 : w7.1 129 30 = w.1 129 30 := (hF7 129 30 rfl).1
      have e12 : w7.1 129 12 = w.1 129 12 := (hF7 129 12 rfl).1
      have e131 : ∀ j, w7.1 131 j = w.1 131 j := fun j => (hF7 131 j rfl).1
      have en7 : nd1 w7 n.toInt = nd1 w n.toInt := by unfold nd1; rw [e12]
      have ht7 := hT7 n n0 (by rw [e30]; exact n1) (by rw [en7, e131]; exact hw)
      rw [en7, e131] at ht7
      have k1 := (ht7.2 c0 c1).2 c6
      refine g_kid hI7 n0 (by omega) (by decide) (by decide) (by rw [i_1]; exact k1.1) ?_
      rw [i_1]
      refine ih _ w7 _ hI7 hT7 k1.2.1 (by rw [e30]; have := k1.2.2.1; omega) k1.2.2.2 (by have := k1.2.2.1; omega) (fun r10 w10 hI10 hF10 => ⟨fun _ => ?_, fun _ => hQ _ w10 hI10 (hF7.tr hF10 rfl)⟩)
      have q : ∀ r : Int64, Q r w10 := fun r => hQ r w10 hI10 (hF7.tr hF10 rfl)
      refine ⟨fun _ => q _, fun _ => ⟨fun _ => q _, fun _ => ⟨fun _ => q _, fun _ => ⟨fun _ => ⟨fun cz => ⟨fun qz => ?_, q _⟩, fun _ => hQ _ _ (wbd_127_76 hI10) (FR.I (hF7.tr hF10 rfl) rfl)⟩, fun _ => ⟨fun _ => ⟨fun _ => q _, fun _ => q _⟩, fun _ => ⟨fun _ => ⟨fun _ => q _, fun _ => q _⟩, fun _ => ⟨fun _ => ⟨fun _ => q _, fun _ => q _⟩, fun _ => ⟨fun _ => q _, fun _ => q _⟩⟩⟩⟩⟩⟩⟩⟩
      have hn := nb_cmp r10 0
      have z : (0 : Int64).toInt = 0 := by decide
      omega
    · have hn := ht.1 (Classical.not_not.mp c1)
      rw [en]
      exact ⟨hn, hQ _ _ hI (FR.refl _ w)⟩
