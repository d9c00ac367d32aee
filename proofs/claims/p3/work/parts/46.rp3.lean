def lbp : Pl := [(127, some 11), (168, none), (169, none), (170, none), (171, none), (172, none)]
theorem g_buildP {v : MW} {r : Int32} {Q : MW → Prop} (hI : BND v) (r3 : r.toInt = 3) (hn : (v.1 127 11).toInt < 24) (c1 : 1 ≤ (v.1 178 2).toInt) (c2 : (v.1 178 2).toInt ≤ 200) (a0 : -1 ≤ (v.1 178 0).toInt) (a1 : (v.1 178 0).toInt < 20) (b0 : -1 ≤ (v.1 178 1).toInt) (b1 : (v.1 178 1).toInt < 20) (hQ : ∀ v' : MW, BND v' → FR lbp v v' → v'.1 127 11 = (v.1 127 11) + (1 : Int32) → (∀ j, v'.1 169 j = if j = (v.1 127 11).toInt.toNat then v.1 178 2 else v.1 169 j) → (∀ j, v'.1 170 j = if j = (2 * (v.1 127 11).toInt + 1).toNat then v.1 178 1 else if j = (2 * (v.1 127 11).toInt).toNat then v.1 178 0 else v.1 170 j) → (∀ j, v'.1 171 j = if j = (2 * (v.1 127 11).toInt + 1).toNat then pt (incF (fun j => v.1 168 j) (v.1 178 0)) (v.1 178 1) else if j = (2 * (v.1 127 11).toInt).toNat then pt (fun j => v.1 168 j) (v.1 178 0) else v.1 171 j) → ((fun j => v'.1 168 j) = incF (incF (fun j => v.1 168 j) (v.1 178 0)) (v.1 178 1)) → Q v') : p_Mo_build v r Q := by
  have b11 := bd_127_11 hI
  refine Eq.mpr (p_Mo_build.eq_1 _ _ _) ⟨fun _ => ⟨⟨b11.1, hn⟩, ?_⟩, fun c => absurd r3 c⟩
  have hI1 : BND (sI v 169 ((v.1 127 11).toInt.toNat) (v.1 178 2)) := wbd_169 hI _ (by omega) c2
  have k11 : (sI v 169 ((v.1 127 11).toInt.toNat) (v.1 178 2)).1 127 11 = v.1 127 11 := sI_oth _ _ _ _ _ _ (by decide)
  refine bd_122x (s := sI v 169 ((v.1 127 11).toInt.toNat) (v.1 178 2)) (by rw [k11]; exact hn) (fun w5 hI5 hF5 => ?_) FU 0 _ hI1 (FR.refl _ _) (by decide) (by decide) (fu_lt (by decide))
  have w5_11 : w5.1 127 11 = v.1 127 11 := (hF5 127 11 rfl).1.trans k11
  have w5_178 : ∀ j, w5.1 178 j = v.1 178 j := fun j => (hF5 178 j rfl).1.trans (sI_oth _ _ _ _ _ _ (by decide))
  have w5_168 : (fun j => w5.1 168 j) = fun j => v.1 168 j := funext fun j => (hF5 168 j rfl).1.trans (sI_oth _ _ _ _ _ _ (by decide))
  have w5_170 : ∀ j, w5.1 170 j = v.1 170 j := fun j => (hF5 170 j rfl).1.trans (sI_oth _ _ _ _ _ _ (by decide))
  have w5_171 : ∀ j, w5.1 171 j = v.1 171 j := fun j => (hF5 171 j rfl).1.trans (sI_oth _ _ _ _ _ _ (by decide))
  have w5_169 : ∀ j, w5.1 169 j = if j = (v.1 127 11).toInt.toNat then v.1 178 2 else v.1 169 j := by
    intro j
    rw [(hF5 169 j rfl).1, sI_at]
    by_cases hj : j = (v.1 127 11).toInt.toNat
    · rw [if_pos ⟨rfl, hj⟩, if_pos hj]
    · rw [if_neg (fun q => hj q.2), if_neg hj]
  have z0 : (0 : Int32).toInt.toNat = 0 := by decide
  have z1 : ((0 : Int32) + (1 : Int32)).toInt.toNat = 1 := by decide
  have y1 : ((0 : Int32) + (1 : Int32)).toInt = 1 := by decide
  have key : ∀ (E : MW → Prop), (∀ w7 : MW, BND w7 → FR [(168, none), (170, none), (171, none)] w5 w7 → (∀ j, w7.1 170 j = if j = (2 * (v.1 127 11).toInt + 1).toNat then v.1 178 1 else if j = (2 * (v.1 127 11).toInt).toNat then v.1 178 0 else v.1 170 j) → (∀ j, w7.1 171 j = if j = (2 * (v.1 127 11).toInt + 1).toNat then pt (incF (fun j => v.1 168 j) (v.1 178 0)) (v.1 178 1) else if j = (2 * (v.1 127 11).toInt).toNat then pt (fun j => v.1 168 j) (v.1 178 0) else v.1 171 j) → ((fun j => w7.1 168 j) = incF (incF (fun j => v.1 168 j) (v.1 178 0)) (v.1 178 1)) → E w7) → q_Mo_build_153 E Q (99999999999999999997 + 1 + 1 + 1) 0 w5 := by
    intro E hE
    refine bd_153x hI5 (by decide) (by decide) (by rw [w5_11]; exact hn) (by rw [z0, w5_178]; exact a0) (by rw [z0, w5_178]; exact a1) (fun w6 hI6 hF6 h170 h171 h168 => ?_)
    rw [z0, w5_178] at h168
    have w6_178 : ∀ j, w6.1 178 j = v.1 178 j := fun j => (hF6 178 j rfl).1.trans (w5_178 j)
    have w6_11 : w6.1 127 11 = v.1 127 11 := (hF6 127 11 rfl).1.trans w5_11
    refine bd_153x hI6 (by decide) (by decide) (by rw [w6_11]; exact hn) (by rw [z1, w6_178]; exact b0) (by rw [z1, w6_178]; exact b1) (fun w7 hI7 hF7 g170 g171 g168 => ?_)
    rw [q_Mo_build_153.eq_2]
    refine ⟨fun _ => hE w7 hI7 (hF6.tr hF7 rfl) (fun j => ?_) (fun j => ?_) ?_, fun c => absurd (by decide) c⟩
    · rw [g170, h170, w6_11, w5_11, z1, z0, y1, i_0, w6_178, w5_178, w5_170]
      have e : 2 * (v.1 127 11).toInt + 0 = 2 * (v.1 127 11).toInt := by omega
      rw [e]
    · rw [g171, h171, w6_11, w5_11, z1, z0, y1, i_0, w6_178, w5_178, w5_171, h168, w5_168]
      have e : 2 * (v.1 127 11).toInt + 0 = 2 * (v.1 127 11).toInt := by omega
      rw [e]
    · rw [g168, z1, w6_178, h168, w5_168]
  refine key _ (fun w7 hI7 hF7 g170 g171 g168 => ?_)
  have w7_11 : w7.1 127 11 = v.1 127 11 := (hF7 127 11 rfl).1.trans w5_11
  have e11 := ti_add2 (Eq.refl (v.1 127 11).toInt) (by decide : ((1 : Int32)).toInt = 1) (by omega) (by omega)
  have hFv : FR lbp v w7 := ((FR.I (FR.refl _ v) rfl : FR lbp v (sI v 169 ((v.1 127 11).toInt.toNat) (v.1 178 2))).tr hF5 rfl).tr hF7 rfl
  refine hQ _ (wbd_127_11 hI7 (by rw [w7_11]; omega) (by rw [w7_11]; omega)) (FR.I hFv rfl) ((sI_same _ _ _ _).trans (by rw [w7_11])) (fun j => ?_) (fun j => ?_) (fun j => ?_) ?_
  · rw [sI_oth _ _ _ _ _ _ (by decide), (hF7 169 j rfl).1]
    exact w5_169 j
  · rw [sI_oth _ _ _ _ _ _ (by decide)]
    exact g170 j
  · rw [sI_oth _ _ _ _ _ _ (by decide)]
    exact g171 j
  · rw [← g168]
    funext j
    rw [sI_oth _ _ _ _ _ _ (by decide)]
