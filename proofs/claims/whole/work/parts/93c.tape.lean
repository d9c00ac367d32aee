/-! the tape: what was fed, on both sides -/
def byt (x : Int32) (r : Nat) : Int32 := vp_nar .byte ((Int32.toInt8 ((x.toUInt32 >>> (((24 : Int32) - ((8 : Int32) * nI r)).toUInt32 &&& Int32.toUInt32 31)).toInt32)).toInt32)
/-- the bytes of the reference's tape are those of the class's cells -/
def TPy (w : MW) : Prop := (w.1 1 1).toInt % 4 = 0 ∧ ∀ i : Nat, (i : Int) < (w.1 1 1).toInt → w.1 128 i = byt (w.1 2 (i / 4)) (i % 4)
def ag (a b c d e : Int32) (k : Nat) : Int32 := if k < 4 then a else if k < 8 then b else if k < 12 then c else if k < 16 then d else e
/-- the class's cells behind a feed that was taken -/
def FdC (w w' : MW) (a b c d e : Int32) : Prop := ∀ j : Nat, w'.1 2 j = if (w.1 1 1).toInt.toNat / 4 ≤ j ∧ j < (w.1 1 1).toInt.toNat / 4 + 5 then ag a b c d e (4 * (j - (w.1 1 1).toInt.toNat / 4)) else w.1 2 j
def FdM (w w' : MW) (a b c d e : Int32) : Prop := ∀ j : Nat, w'.1 128 j = if (w.1 127 1).toInt.toNat ≤ j ∧ j < (w.1 127 1).toInt.toNat + 20 then byt (ag a b c d e (j - (w.1 127 1).toInt.toNat)) ((j - (w.1 127 1).toInt.toNat) % 4) else w.1 128 j
theorem put_y {w : MW} {a : Int32} {Q : MW → Prop} (hI : BND w) (h : (w.1 1 1).toInt ≤ 4016) (h4 : (w.1 1 1).toInt % 4 = 0) (hQ : ∀ w', BND w' → FR l_Bh_feed w w' → (w'.1 1 1).toInt = (w.1 1 1).toInt + 4 → (∀ j, w'.1 2 j = if j = (w.1 1 1).toInt.toNat / 4 then a else w.1 2 j) → Q w') : p_Tp_put w a Q := by
  have b := bd_1_1 hI
  have s := nb_shr (w.1 1 1) ((2 : Int32) &&& 31) 2 4 (by decide) (by decide)
  have e := ti_add2 (Eq.refl (w.1 1 1).toInt) (by decide : ((4 : Int32)).toInt = 4) (by omega) (by omega)
  refine Eq.mpr (p_Tp_put.eq_1 _ _ _) ⟨fun c => by omega, fun _ => ⟨⟨by omega, by omega⟩, hQ _ (wbd_1_1 (wbd_2 hI _) (by omega) (by omega)) (FR.I (FR.I (FR.refl _ w) rfl) rfl) ?_ (fun j => ?_)⟩⟩
  · rw [sI_same]
    exact e
  · rw [sI_oth _ _ _ _ _ _ (by decide)]
    by_cases q : j = (w.1 1 1).toInt.toNat / 4
    · rw [if_pos q, q]
      have : ((w.1 1 1) >>> ((2 : Int32) &&& 31)).toInt.toNat = (w.1 1 1).toInt.toNat / 4 := by omega
      rw [this, sI_same]
    · rw [if_neg q, sI_ne _ _ _ _ _ (by omega)]
theorem cy_feed {w : MW} {a b c d e : Int32} {Q : Int32 → MW → Prop} (h : CI w) (h4 : (w.1 1 1).toInt % 4 = 0) (hQ : ∀ r w', CI w' → FR l_Bh_feed w w' → FdV (w.1 1 1) (w'.1 1 1) r → ((w.1 1 1).toInt ≤ 4000 → FdC w w' a b c d e) → (4000 < (w.1 1 1).toInt → w' = w) → Q r w') : p_Bh_feed w a b c d e Q := by
  have bb := bd_1_1 h.1
  have s := ti_add2 (Eq.refl (w.1 1 1).toInt) (by decide : ((20 : Int32)).toInt = 20) (by omega) (by omega)
  have m : ((4 : Int32) * (1005 : Int32)).toInt = 4020 := by decide
  refine Eq.mpr (p_Bh_feed.eq_1 _ _ _ _ _ _ _) (Eq.mpr (p_Tp_hasRoom.eq_1 _ _) ⟨fun c => ⟨fun z => absurd i_0 z, fun _ => hQ _ w h (FR.refl _ w) (Or.inr ⟨by omega, rfl, rfl⟩) (fun z => by omega) (fun _ => rfl)⟩, fun c => ⟨fun _ => ?_, fun z => absurd (by decide) z⟩⟩)
  refine put_y h.1 (by omega) h4 (fun w1 B1 F1 e1 g1 => put_y B1 (by omega) (by omega) (fun w2 B2 F2 e2 g2 => put_y B2 (by omega) (by omega) (fun w3 B3 F3 e3 g3 => put_y B3 (by omega) (by omega) (fun w4 B4 F4 e4 g4 => put_y B4 (by omega) (by omega) (fun w5 B5 F5 e5 g5 => ?_)))))
  have F : FR l_Bh_feed w w5 := (((F1.tr F2 rfl).tr F3 rfl).tr F4 rfl).tr F5 rfl
  refine hQ _ w5 (ci_fr h F B5 rfl) F (Or.inl ⟨by omega, by omega, rfl⟩) (fun _ j => ?_) (fun z => by omega)
  rw [g5, g4, g3, g2, g1]
  have q1 : (w1.1 1 1).toInt.toNat / 4 = (w.1 1 1).toInt.toNat / 4 + 1 := by omega
  have q2 : (w2.1 1 1).toInt.toNat / 4 = (w.1 1 1).toInt.toNat / 4 + 2 := by omega
  have q3 : (w3.1 1 1).toInt.toNat / 4 = (w.1 1 1).toInt.toNat / 4 + 3 := by omega
  have q4 : (w4.1 1 1).toInt.toNat / 4 = (w.1 1 1).toInt.toNat / 4 + 4 := by omega
  rw [q1, q2, q3, q4]
  generalize (w.1 1 1).toInt.toNat / 4 = n at *
  unfold ag
  by_cases c4 : j = n + 4
  · rw [if_pos c4, if_pos (by omega), if_neg (by omega), if_neg (by omega), if_neg (by omega), if_neg (by omega)]
  rw [if_neg c4]
  by_cases c3 : j = n + 3
  · rw [if_pos c3, if_pos (by omega), if_neg (by omega), if_neg (by omega), if_neg (by omega), if_pos (by omega)]
  rw [if_neg c3]
  by_cases c2 : j = n + 2
  · rw [if_pos c2, if_pos (by omega), if_neg (by omega), if_neg (by omega), if_pos (by omega)]
  rw [if_neg c2]
  by_cases c1 : j = n + 1
  · rw [if_pos c1, if_pos (by omega), if_neg (by omega), if_pos (by omega)]
  rw [if_neg c1]
  by_cases c0 : j = n
  · rw [if_pos c0, if_pos (by omega), if_pos (by omega)]
  rw [if_neg c0, if_neg (by omega)]
theorem mody : ∀ k, k < 20 → (nI k - nI k / (4 : Int32) * (4 : Int32)) = nI (k % 4) := by decide +kernel
theorem mfy_19 {a b c d e : Int32} {w0 : MW} {E : MW → Prop} {Q : Int32 → MW → Prop} (u : (w0.1 127 1).toInt ≤ 4000) (l0 : 0 ≤ (w0.1 127 1).toInt) (hE : ∀ w', BND w' → FR l_Mo_feed w0 w' → (w'.1 127 1).toInt = (w0.1 127 1).toInt + 20 → FdM w0 w' a b c d e → E w') (n : Nat) : ∀ (i : Nat) (w : MW), BND w → FR l_Mo_feed w0 w → i ≤ 20 → (w.1 127 1).toInt = (w0.1 127 1).toInt + i → (∀ j : Nat, w.1 128 j = if (w0.1 127 1).toInt.toNat ≤ j ∧ j < (w0.1 127 1).toInt.toNat + i then byt (ag a b c d e (j - (w0.1 127 1).toInt.toNat)) ((j - (w0.1 127 1).toInt.toNat) % 4) else w0.1 128 j) → 20 - i < n → q_Mo_feed_19 a b c d e E Q n (nI i) w := by
  induction n with
  | zero => intros; omega
  | succ n ih =>
    intro i w hB hF i1 hi hj hm
    have bb := bd_127_1 hB
    have b0 := bd_127_1 hB
    have ti : (nI i).toInt = (i : Int) := nI_toInt (by omega)
    rw [q_Mo_feed_19.eq_2]
    refine ⟨fun z => ?_, fun z => ?_⟩
    · have e20 : i = 20 := by omega
      subst e20
      exact hE w hB hF (by omega) hj
    have s2 := ti_add2 (Eq.refl (w.1 127 1).toInt) i_1 (by omega) (by omega)
    have K : ∀ y, ag a b c d e i = y → q_Mo_feed_72 a b c d e (nI i) y w (fun (x19_6 : Int32) (w : MW) => q_Mo_feed_19 a b c d e E Q n x19_6 w) E Q := fun y hy => by
      refine Eq.mpr (q_Mo_feed_72.eq_1 _ _ _ _ _ _ _ _ _ _ _) ⟨⟨by omega, by omega⟩, ?_⟩
      rw [nI_1, mody i (by omega)]
      refine ih (i + 1) _ (wbd_127_1 (wbd_128 hB _ (nb_byte _).1 (nb_byte _).2) (by omega) (by omega)) (FR.I (FR.I hF rfl) rfl) (by omega) ?_ (fun j => ?_) (by omega)
      · rw [sI_same]
        omega
      · rw [sI_oth _ _ _ _ _ _ (by decide)]
        by_cases q : j = (w.1 127 1).toInt.toNat
        · have e1 : j - (w0.1 127 1).toInt.toNat = i := by omega
          rw [if_pos (by omega), e1, hy, q, sI_same]
          rfl
        · rw [sI_ne _ _ _ _ _ q, hj j]
          by_cases q2 : (w0.1 127 1).toInt.toNat ≤ j ∧ j < (w0.1 127 1).toInt.toNat + i
          · rw [if_pos q2, if_pos (by omega)]
          · rw [if_neg q2, if_neg (by omega)]
    unfold ag at K
    exact ⟨fun z1 => ⟨fun z2 => ⟨fun z3 => ⟨fun z4 => K _ (by rw [if_neg (by omega), if_neg (by omega), if_neg (by omega), if_neg (by omega)]), fun z4 => K _ (by rw [if_neg (by omega), if_neg (by omega), if_neg (by omega), if_pos (by omega)])⟩, fun z3 => K _ (by rw [if_neg (by omega), if_neg (by omega), if_pos (by omega)])⟩, fun z2 => K _ (by rw [if_neg (by omega), if_pos (by omega)])⟩, fun z1 => K _ (by rw [if_pos (by omega)])⟩
theorem my_feed {w : MW} {a b c d e : Int32} {Q : Int32 → MW → Prop} (h : MdJ w) (hQ : ∀ r w', MdJ w' → FR l_Mo_feed w w' → FdV (w.1 127 1) (w'.1 127 1) r → ((w.1 127 1).toInt ≤ 4000 → FdM w w' a b c d e) → (4000 < (w.1 127 1).toInt → w' = w) → Q r w') : p_Mo_feed w a b c d e Q := by
  have bb := bd_127_1 h.1.1
  have s := ti_add2 (Eq.refl (w.1 127 1).toInt) (by decide : ((20 : Int32)).toInt = 20) (by omega) (by omega)
  refine Eq.mpr (p_Mo_feed.eq_1 _ _ _ _ _ _ _) ⟨fun c => ?_, fun c => hQ _ w h (FR.refl _ w) (Or.inr ⟨by omega, rfl, rfl⟩) (fun z => by omega) (fun _ => rfl)⟩
  have e0 : (0 : Int32) = nI 0 := rfl
  rw [e0]
  exact mfy_19 (by omega) (by omega) (fun w' hB hF q g => hQ _ w' (mj_fr h hB hF rfl) hF (Or.inl ⟨by omega, by omega, rfl⟩) (fun _ => g) (fun z => by omega)) FU 0 w h.1.1 (FR.refl _ w) (by omega) (by omega) (fun j => by rw [if_neg (by omega)]) (fu_lt (by decide))
/-- the tapes are the same behind a feed on both sides -/
theorem tp_feed {w w1 w2 : MW} {a b c d e : Int32} (h : TPy w) (hl : w.1 1 1 = w.1 127 1) (h2 : (w2.1 1 1).toInt = (w.1 1 1).toInt + 20) (l0 : 0 ≤ (w.1 1 1).toInt) (f1 : FdC w w1 a b c d e) (e1 : w2.1 2 = w1.1 2) (f2 : FdM w w2 a b c d e) : TPy w2 := by
  refine ⟨by have := h.1; omega, fun i hi => ?_⟩
  have h4 := h.1
  rw [e1, f1, f2, ← hl]
  by_cases q : (w.1 1 1).toInt.toNat ≤ i
  · rw [if_pos (by omega), if_pos (by omega)]
    have e4 : (i - (w.1 1 1).toInt.toNat) % 4 = i % 4 := by omega
    rw [e4]
    congr 1
    unfold ag
    have a1 : (i - (w.1 1 1).toInt.toNat < 4) ↔ (4 * (i / 4 - (w.1 1 1).toInt.toNat / 4) < 4) := by omega
    have a2 : (i - (w.1 1 1).toInt.toNat < 8) ↔ (4 * (i / 4 - (w.1 1 1).toInt.toNat / 4) < 8) := by omega
    have a3 : (i - (w.1 1 1).toInt.toNat < 12) ↔ (4 * (i / 4 - (w.1 1 1).toInt.toNat / 4) < 12) := by omega
    have a4 : (i - (w.1 1 1).toInt.toNat < 16) ↔ (4 * (i / 4 - (w.1 1 1).toInt.toNat / 4) < 16) := by omega
    simp only [a1, a2, a3, a4]
  · rw [if_neg (by omega), if_neg (by omega)]
    exact h.2 i (by omega)
