/-! the tape: what was fed, on both sides -/
def byt (x : Int32) (r : Nat) : Int32 := vp_nar .byte ((Int32.toInt8 ((x.toUInt32 >>> (((24 : Int32) - ((8 : Int32) * nI r)).toUInt32 &&& Int32.toUInt32 31)).toInt32)).toInt32)
/-- the bytes of the reference's tape are those of the class's cells -/
def TPy (w : MW) : Prop := (w.1 1 1).toInt % 4 = 0 ∧ ∀ i : Nat, (i : Int) < (w.1 1 1).toInt → w.1 128 i = byt (w.1 2 (i / 4)) (i % 4)
def ag (a b c d e : Int32) (k : Nat) : Int32 := if k < 4 then a else if k < 8 then b else if k < 12 then c else if k < 16 then d else e
/-- the class's cells behind a feed that was taken -/
def FdC (w w' : MW) (a b c d e : Int32) : Prop := ∀ j : Nat, w'.1 2 j = if (w.1 1 1).toInt.toNat / 4 ≤ j ∧ j < (w.1 1 1).toInt.toNat / 4 + 5 then ag a b c d e (4 * (j - (w.1 1 1).toInt.toNat / 4)) else w.1 2 j
def FdM (w w' : MW) (a b c d e : Int32) : Prop := ∀ j : Nat, w'.1 128 j = if (w.1 127 1).toInt.toNat ≤ j ∧ j < (w.1 127 1).toInt.toNat + 20 then byt (ag a b c d e (j - (w.1 127 1).toInt.toNat)) ((j - (w.1 127 1).toInt.toNat) % 4) else w.1 128 j
theorem put_y {w : MW} {a : Int32} {Q : MW → Prop} (hI : BND w) (h : (w.1 1 1).toInt ≤ 4016) (h4 : (w.1 1 1).toInt % 4 = 0) (hQ : ∀ w', BND w' → FR l_Bh_feed w w' → (w'.1 1 1).toInt = (w.1 1 1).toInt + 4 → (∀ j, w'.1 2 j = if j = (w.1 1 1).toInt.toNat / 4 then a else w.1 2 j) → Q w') : p_Tp_put w a Q := by
  have b := bd_1_1 hI
  have s := nb_shr (w.1 1 1) ((2 : Int32) &&& 31) 2 4 (by decide) (by decide)
  have e := ti_add2 (Eq.refl (w.1 1 1).toInt) (by decide : ((4 : Int32)).toInt = 4) (by omega) (by omega)
  refine Eq.mpr (p_Tp_put.eq_1 _ _ _) ⟨fun c => by omega, fun _ => ⟨⟨by omega, by omega⟩, hQ _ (wbd_1_1 (wbd_2 hI _) (by omega) (by omega)) (FR.I (FR.I (FR.refl _ w) rfl) rfl) ?_ (fun j => ?_)⟩⟩
  · rw [sI_same]
    exact e
  · rw [sI_oth _ _ _ _ _ _ (by decide)]
    by_cases q : j = (w.1 1 1).toInt.toNat / 4
    · rw [if_pos q, q]
      have : ((w.1 1 1) >>> ((2 : Int32) &&& 31)).toInt.toNat = (w.1 1 1).toInt.toNat / 4 := by omega
      rw [this, sI_same]
    · rw [if_neg q, sI_ne _ _ _ _ _ (by omega)]
theorem cy_feed {w : MW} {a b c d e : Int32} {Q : Int32 → MW → Prop} (h : CI w) (h4 : (w.1 1 1).toInt % 4 = 0) (hQ : ∀ r w', CI w' → FR l_Bh_feed w w' → FdV (w.1 1 1) (w'.1 1 1) r → ((w.1 1 1).toInt ≤ 4000 → FdC w w' a b c d e) → (4000 < (w.1 1 1).toInt → w' = w) → Q r w') : p_Bh_feed w a b c d e Q := by
  have bb := bd_1_1 h.1
  have s := ti_add2 (Eq.refl (w.1 1 1).toInt) (by decide : ((20 : Int32)).toInt = 20) (by omega) (by omega)
  have m : ((4 : Int32) * (1005 : Int32)).toInt = 4020 := by decide
  refine Eq.mpr (p_Bh_feed.eq_1 _ _ _ _ _ _ _) (Eq.mpr (p_Tp_hasRoom.eq_1 _ _) ⟨fun c => ⟨fun z => absurd i_0 z, fun _ => hQ _ w h (FR.refl _ w) (Or.inr ⟨by omega, rfl, rfl⟩) (fun z => by omega) (fun _ => rfl)⟩, fun c => ⟨fun _ => ?_, fun z => absurd (by decide) z⟩⟩)
  refine put_y h.1 (by omega) h4 (fun w1 B1 F1 e1 g1 => put_y B1 (by omega) (by omega) (fun w2 B2 F2 e2 g2 => put_y B2 (by omega) (by omega) (fun w3 B3 F3 e3 g3 => put_y B3 (by omega) (by omega) (fun w4 B4 F4 e4 g4 => put_y B4 (by omega) (by omega) (fun w5 B5 F5 e5 g5 => ?_)))))
  have F : FR l_Bh_feed w w5 := (((F1.tr F2 rfl).tr F3 rfl).tr F4 rfl).tr F5 rfl
  refine hQ _ w5 (ci_fr h F B5 rfl) F (Or.inl ⟨by omega, by omega, rfl⟩) (fun _ j => ?_) (fun z => by omega)
  rw [g5, g4, g3, g2, g1]
  have q1 : (w1.1 1 1).toInt.toNat / 4 = (w.1 1 1).toInt.toNat / 4 + 1 := by omega
  have q2 : (w2.1 1 1).toInt.toNat / 4 = (w.1 1 1).toInt.toNat / 4 + 2 := by omega
  have q3 : (w3.1 1 1).toInt.toNat / 4 = (w.1 1 1).toInt.toNat / 4 + 3 := by omega
  have q4 : (w4.1 1 1).toInt.toNat / 4 = (w.1 1 1).toInt.toNat / 4 + 4 := by omega
  rw [q1, q2, q3, q4]
  generalize (w.1 1 1).toInt.toNat / 4 = n at *
  unfold ag
  by_cases c4 : j = n + 4
  · rw [if_pos c4, if_pos (by omega), if_neg (by omega), if_neg (by omega), if_neg (by omega), if_neg (by omega)]
  rw [if_neg c4]
  by_cases c3 : j = n + 3
  · rw [if_pos c3, if_pos (by omega), if_neg (by omega), if_neg (by omega), if_neg (by omega), if_pos (by omega)]
  rw [if_neg c3]
  by_cases c2 : j = n + 2
  · rw [if_pos c2, if_pos (by omega), if_neg (by omega), if_neg (by omega), if_pos (by omega)]
  rw [if_neg c2]
  by_cases c1 : j = n + 1
  · rw [if_pos c1, if_pos (by omega), if_neg (by omega), if_pos (by omega)]
  rw [if_neg c1]
  by_cases c0 : j = n
  · rw [if_pos c0, if_pos (by omega), if_pos (by omega)]
  rw [if_neg c0, if_neg (by omega)]
theorem mody : ∀ k, k < 20 → (nI k - nI k / (4 : Int32) * (4 : Int32)) = nI (k % 4) := by decide +kernel
theorem mfy_19 {a b c d e : Int32} {w0 : MW} {E : MW → Prop} {Q : Int32 → MW → Prop} (u : (w0.1 127 1).toInt ≤ 4000) (l0 : 0 ≤ (w0.1 127 1).toInt) (hE : ∀ w', BND w' → FR l_Mo_feed w0 w' → (w'.1 127 1).toInt = (w0.1 127 1).toInt + 20 → FdM w0 w' a b c d e → E w') (n : Nat) : ∀ (i : Nat) (w : MW), BND w → FR l_Mo_feed w0 w → i ≤ 20 → (w.1 127 1).toInt = (w0.1 127 1).toInt + i → (∀ j : Nat, w.1 128 j = if (w0.1 127 1).toInt.toNat ≤ j ∧ j < (w0.1 127 1).toInt.toNat + i then byt (ag a b c d e (j - (w0.1 127 1).toInt.toNat)) ((j - (w0.1 127 1).toInt.toNat) % 4) else w0.1 128 j) → 20 - i < n → q_Mo_feed_19 a b c d e E Q n (nI i) w := by
  induction n with
  | zero => intros; omega
  | succ n ih =>
    intro i w hB hF i1 hi hj hm
    have bb := bd_127_1 hB
    have b0 := bd_127_1 hB
    have ti : (nI i).toInt = (i : Int) := nI_toInt (by omega)
    rw [q_Mo_feed_19.eq_2]
    refine ⟨fun z => ?_, fun z => ?_⟩
    · have e20 : i = 20 := by omega
      subst e20
      exact hE w hB hF (by omega) hj
    have s2 := ti_add2 (Eq.refl (w.1 127 1).toInt) i_1 (by omega) (by omega)
    have K : ∀ y, ag a b c d e i = y → q_Mo_feed_72 a b c d e (nI i) y w (fun (x19_6 : Int32) (w : MW) => q_Mo_feed_19 a b c d e E Q n x19_6 w) E Q := fun y hy => by
      refine Eq.mpr (q_Mo_feed_72.eq_1 _ _ _ _ _ _ _ _ _ _ _) ⟨⟨by omega, by omega⟩, ?_⟩
      rw [nI_1, mody i (by omega)]
      refine ih (i + 1) _ (wbd_127_1 (wbd_128 hB _ (nb_byte _).1 (nb_byte _).2) (by omega) (by omega)) (FR.I (FR.I hF rfl) rfl) (by omega) ?_ (fun j => ?_) (by omega)
      · rw [sI_same]
        omega
      · rw [sI_oth _ _ _ _ _ _ (by decide)]
        by_cases q : j = (w.1 127 1).toInt.toNat
        · have e1 : j - (w0.1 127 1).toInt.toNat = i := by omega
          rw [if_pos (by omega), e1, hy, q, sI_same]
          rfl
        · rw [sI_ne _ _ _ _ _ q, hj j]
          by_cases q2 : (w0.1 127 1).toInt.toNat ≤ j ∧ j < (w0.1 127 1).toInt.toNat + i
          · rw [if_pos q2, if_pos (by omega)]
          · rw [if_neg q2, if_neg (by omega)]
    unfold ag at K
    exact ⟨fun z1 => ⟨fun z2 => ⟨fun z3 => ⟨fun z4 => K _ (by rw [if_neg (by omega), if_neg (by omega), if_neg (by omega), if_neg (by omega)]), fun z4 => K _ (by rw [if_neg (by omega), if_neg (by omega), if_neg (by omega), if_pos (by omega)])⟩, fun z3 => K _ (by rw [if_neg (by omega), if_neg (by omega), if_pos (by omega)])⟩, fun z2 => K _ (by rw [if_neg (by omega), if_pos (by omega)])⟩, fun z1 => K _ (by rw [if_pos (by omega)])⟩
theorem my_feed {w : MW} {a b c d e : Int32} {Q : Int32 → MW → Prop} (h : MdJ w) (hQ : ∀ r w', MdJ w' → FR l_Mo_feed w w' → FdV (w.1 127 1) (w'.1 127 1) r → ((w.1 127 1).toInt ≤ 4000 → FdM w w' a b c d e) → (4000 < (w.1 127 1).toInt → w' = w) → Q r w') : p_Mo_feed w a b c d e Q := by
  have bb := bd_127_1 h.1.1
  have s := ti_add2 (Eq.refl (w.1 127 1).toInt) (by decide : ((20 : Int32)).toInt = 20) (by omega) (by omega)
  refine Eq.mpr (p_Mo_feed.eq_1 _ _ _ _ _ _ _) ⟨fun c => ?_, fun c => hQ _ w h (FR.refl _ w) (Or.inr ⟨by omega, rfl, rfl⟩) (fun z => by omega) (fun _ => rfl)⟩
  have e0 : (0 : Int32) = nI 0 := rfl
  rw [e0]
  exact mfy_19 (by omega) (by omega) (fun w' hB hF q g => hQ _ w' (mj_fr h hB hF rfl) hF (Or.inl ⟨by omega, by omega, rfl⟩) (fun _ => g) (fun z => by omega)) FU 0 w h.1.1 (FR.refl _ w) (by omega) (by omega) (fun j => by rw [if_neg (by omega)]) (fu_lt (by decide))
/-- the tapes are the same behind a feed on both sides -/
theorem tp_feed {w w1 w2 : MW} {a b c d e : Int32} (h : TPy w) (hl : w.1 1 1 = w.1 127 1) (h2 : (w2.1 1 1).toInt = (w.1 1 1).toInt + 20) (l0 : 0 ≤ (w.1 1 1).toInt) (f1 : FdC w w1 a b c d e) (e1 : w2.1 2 = w1.1 2) (f2 : FdM w w2 a b c d e) : TPy w2 := by
  refine ⟨by have := h.1; omega, fun i hi => ?_⟩
  have h4 := h.1
  rw [e1, f1, f2, ← hl]
  by_cases q : (w.1 1 1).toInt.toNat ≤ i
  · rw [if_pos (by omega), if_pos (by omega)]
    have e4 : (i - (w.1 1 1).toInt.toNat) % 4 = i % 4 := by omega
    rw [e4]
    congr 1
    unfold ag
    have a1 : (i - (w.1 1 1).toInt.toNat < 4) ↔ (4 * (i / 4 - (w.1 1 1).toInt.toNat / 4) < 4) := by omega
    have a2 : (i - (w.1 1 1).toInt.toNat < 8) ↔ (4 * (i / 4 - (w.1 1 1).toInt.toNat / 4) < 8) := by omega
    have a3 : (i - (w.1 1 1).toInt.toNat < 12) ↔ (4 * (i / 4 - (w.1 1 1).toInt.toNat / 4) < 12) := by omega
    have a4 : (i - (w.1 1 1).toInt.toNat < 16) ↔ (4 * (i / 4 - (w.1 1 1).toInt.toNat / 4) < 16) := by omega
    simp only [a1, a2, a3, a4]
  · rw [if_neg (by omega), if_neg (by omega)]
    exact h.2 i (by omega)
/-! bytes of a text on both sides -/
def cby (x : Int32) (r : Nat) : Int32 := ((x.toUInt32 >>> (((24 : Int32) - ((8 : Int32) * nI r)).toUInt32 &&& Int32.toUInt32 31)).toInt32) &&& (255 : Int32)
theorem and255 (y : Int32) : (y &&& (255 : Int32)).toInt = y.toInt % 256 := by
  have h := pk_and y (m := 255) 8 (by decide)
  have e : (2 : Nat) ^ 8 = 256 := by decide
  rw [h, e]
  have l : y.toBitVec.toNat % 256 < 256 := Nat.mod_lt _ (by decide)
  rw [nI_toInt (by omega)]
  have t : y.toInt = y.toBitVec.toInt := rfl
  rw [t, BitVec.toInt_eq_toNat_cond]
  have b := y.toBitVec.isLt
  split <;> omega
theorem byt_c (x : Int32) (r : Nat) : (byt x r).toInt = if (cby x r).toInt < 128 then (cby x r).toInt else (cby x r).toInt - 256 := by
  unfold byt cby
  rw [and255]
  generalize ((x.toUInt32 >>> (((24 : Int32) - ((8 : Int32) * nI r)).toUInt32 &&& Int32.toUInt32 31)).toInt32) = y
  have b := nb_i2b y
  rw [nb_byteq b.1 b.2]
  have e : (y.toInt8).toInt32.toInt = y.toInt.bmod 256 := by
    rw [Int8.toInt_toInt32, Int32.toInt_toInt8]
  rw [e]
  unfold Int.bmod
  simp only []
  have h1 : ((256 : Nat) : Int) = 256 := rfl
  split <;> split <;> omega
theorem cby_b (x : Int32) (r : Nat) : 0 ≤ (cby x r).toInt ∧ (cby x r).toInt ≤ 255 := by
  unfold cby
  rw [and255]
  omega
/-- byte p of the class's text; -1 behind its end -/
def cv (w : MW) (p : Int32) : Int32 := if 0 ≤ p.toInt ∧ p.toInt < (w.1 1 2).toInt then cby (w.1 2 (p.toInt.toNat / 4)) (p.toInt.toNat % 4) else -1
theorem and3 (y : Int32) (h : 0 ≤ y.toInt) : y &&& (3 : Int32) = nI (y.toInt.toNat % 4) := by
  have h1 := pk_and y (m := 3) 2 (by decide)
  have e : (2 : Nat) ^ 2 = 4 := by decide
  rw [h1, e]
  have t : y.toInt = y.toBitVec.toInt := rfl
  rw [t] at h ⊢
  rw [BitVec.toInt_eq_toNat_cond] at h ⊢
  have b := y.toBitVec.isLt
  congr 1
  split at h <;> split <;> omega
theorem at_x {w : MW} {p : Int32} {Q : Int32 → MW → Prop} (hI : BND w) (hQ : Q (cv w p) w) : p_Tp_at w p Q := by
  have b := bd_1_2 hI
  have m : ((4 : Int32) * (1005 : Int32)).toInt = 4020 := by decide
  have s := nb_shr p ((2 : Int32) &&& 31) 2 4 (by decide) (by decide)
  unfold cv at hQ
  refine Eq.mpr (p_Tp_at.eq_1 _ _ _) ⟨fun c => ?_, fun c => ⟨fun c2 => ?_, fun c2 => ⟨fun c3 => ⟨⟨by omega, by omega⟩, ?_⟩, fun c3 => by omega⟩⟩⟩
  · rw [if_neg (by omega)] at hQ
    exact hQ
  · rw [if_neg (by omega)] at hQ
    exact hQ
  · rw [if_pos ⟨by omega, by omega⟩] at hQ
    have e1 : (p >>> ((2 : Int32) &&& 31)).toInt.toNat = p.toInt.toNat / 4 := by omega
    rw [e1, and3 p (by omega)]
    exact hQ
/-! the class reads a plant: letters and numbers -/
theorem sI_sI (w : MW) (k j : Nat) (a b : Int32) : sI (sI w k j a) k j b = sI w k j b := by
  have e : (sI (sI w k j a) k j b).1 = (sI w k j b).1 := by
    funext x y
    rw [sI_at, sI_at, sI_at]
    by_cases q : x = k ∧ y = j
    · rw [if_pos q, if_pos q]
    · rw [if_neg q, if_neg q, if_neg q]
  exact Prod.ext e rfl
theorem sI_eta (w : MW) (k j : Nat) : sI w k j (w.1 k j) = w := by
  have e : (sI w k j (w.1 k j)).1 = w.1 := by
    funext x y
    rw [sI_at]
    by_cases q : x = k ∧ y = j
    · rw [if_pos q, q.1, q.2]
    · rw [if_neg q]
  exact Prod.ext e rfl
theorem sI_cm (w : MW) (k j l m : Nat) (a b : Int32) (h : ¬ (k = l ∧ j = m)) : sI (sI w k j a) l m b = sI (sI w l m b) k j a := by
  have e : (sI (sI w k j a) l m b).1 = (sI (sI w l m b) k j a).1 := by
    funext x y
    rw [sI_at, sI_at, sI_at, sI_at]
    by_cases q : x = l ∧ y = m
    · rw [if_pos q]
      by_cases q2 : x = k ∧ y = j
      · exact absurd ⟨q2.1.symm.trans q.1, q2.2.symm.trans q.2⟩ h
      · rw [if_neg q2, if_pos q]
    · rw [if_neg q, if_neg q]
  exact Prod.ext e rfl
/-- letters one behind the other: were they all there, and where it stands -/
def tks (f : Int → Int) : List Int → Int → Bool × Int
  | [], p => (true, p)
  | c :: l, p => if f p = c then tks f l (p + 1) else (false, p)
/-- the class's bytes as a function -/
def cf (w : MW) (p : Int) : Int := if 0 ≤ p ∧ p < (w.1 1 2).toInt then (cby (w.1 2 (p.toNat / 4)) (p.toNat % 4)).toInt else -1
theorem cv_cf (w : MW) (p : Int32) : (cv w p).toInt = cf w p.toInt := by
  unfold cv cf
  by_cases h : 0 ≤ p.toInt ∧ p.toInt < (w.1 1 2).toInt
  · rw [if_pos h, if_pos h]
  · rw [if_neg h, if_neg h]
    exact i_m1
theorem cf_sI {w : MW} {k j : Nat} {v : Int32} (h : k = 91) : cf (sI w k j v) = cf w := by
  subst h
  funext p
  unfold cf
  rw [sI_oth w 91 j v 1 2 (by decide)]
  by_cases q : 0 ≤ p ∧ p < (w.1 1 2).toInt
  · rw [if_pos q, if_pos q, sI_oth w 91 j v 2 _ (by decide)]
  · rw [if_neg q, if_neg q]
def tI (n : Int) : Int32 := Int32.ofInt n
theorem tI_t {n : Int} (h1 : -2147483648 ≤ n) (h2 : n ≤ 2147483647) : (tI n).toInt = n := by
  unfold tI
  have e : ((Int32.size : Nat) : Int) = 4294967296 := rfl
  rw [Int32.toInt_ofInt, Int.bmod_eq_of_le (by omega) (by omega)]
theorem tI_of (x : Int32) : tI x.toInt = x := ti_inj (by rw [tI_t (ti_lo x) (ti_hi x)])
theorem tks_le (f : Int → Int) : ∀ (l : List Int) (p : Int), p ≤ (tks f l p).2 ∧ (tks f l p).2 ≤ p + l.length := by
  intro l
  induction l with
  | nil => intro p; exact ⟨Int.le_refl _, by show p ≤ p + ((0 : Nat) : Int); omega⟩
  | cons c l ih =>
    intro p
    have e : tks f (c :: l) p = if f p = c then tks f l (p + 1) else (false, p) := rfl
    rw [e]
    have hl : ((c :: l).length : Int) = (l.length : Int) + 1 := by rw [List.length_cons]; rfl
    by_cases q : f p = c
    · rw [if_pos q]
      have := ih (p + 1)
      omega
    · rw [if_neg q]
      show p ≤ p ∧ p ≤ _
      omega
/-- the class's takes, for the text k of n letters -/
def ltr (k n : Nat) : List Int := (List.range n).map fun i => (chT k (nI i)).toInt
theorem tks_st (f : Int → Int) (l1 l2 : List Int) (p : Int) (h : (tks f l1 p).1 = true) : tks f (l1 ++ l2) p = tks f l2 (p + l1.length) := by
  induction l1 generalizing p with
  | nil =>
    show tks f l2 p = tks f l2 (p + ((0 : Nat) : Int))
    rw [show p + ((0 : Nat) : Int) = p by omega]
  | cons c l ih =>
    have e : ∀ l', tks f (c :: l') p = if f p = c then tks f l' (p + 1) else (false, p) := fun _ => rfl
    rw [List.cons_append, e]
    rw [e] at h
    by_cases q : f p = c
    · rw [if_pos q] at h ⊢
      rw [ih (p + 1) h]
      have hl : ((c :: l).length : Int) = (l.length : Int) + 1 := by rw [List.length_cons]; rfl
      rw [hl, show p + 1 + (l.length : Int) = p + ((l.length : Int) + 1) by omega]
    · rw [if_neg q] at h
      exact absurd (show false = true from h) (by decide)
/-- takes of one text -/
theorem cf_pos {w : MW} {p : Int} (h : ¬ cf w p = -1) : 0 ≤ p ∧ p < (w.1 1 2).toInt := by
  unfold cf at h
  by_cases q : 0 ≤ p ∧ p < (w.1 1 2).toInt
  · exact q
  · rw [if_neg q] at h
    exact absurd rfl h
theorem ltr_s (k n : Nat) : ltr k (n + 1) = ltr k n ++ [(chT k (nI n)).toInt] := by
  unfold ltr
  rw [List.range_succ, List.map_append]
  rfl
theorem ltr_l (k n : Nat) : (ltr k n).length = n := by
  unfold ltr
  rw [List.length_map, List.length_range]
theorem ltr_a (k n m : Nat) : ∃ l, ltr k (n + m) = ltr k n ++ l := by
  induction m with
  | zero => exact ⟨[], (List.append_nil _).symm⟩
  | succ m ih =>
    obtain ⟨l, e⟩ := ih
    refine ⟨l ++ [(chT k (nI (n + m))).toInt], ?_⟩
    rw [← Nat.add_assoc, ltr_s, e, List.append_assoc]
theorem tks_f (f : Int → Int) (l1 l2 : List Int) (p q : Int) (h : tks f l1 p = (false, q)) : tks f (l1 ++ l2) p = (false, q) := by
  induction l1 generalizing p with
  | nil =>
    have : (true, p) = (false, q) := h
    exact absurd (show true = false from congrArg Prod.fst this) (by decide)
  | cons c l ih =>
    have e : ∀ l', tks f (c :: l') p = if f p = c then tks f l' (p + 1) else (false, p) := fun _ => rfl
    rw [List.cons_append, e]
    rw [e] at h
    by_cases q : f p = c
    · rw [if_pos q] at h ⊢
      exact ih (p + 1) h
    · rw [if_neg q] at h ⊢
      exact h
theorem tl_2001 {w0 : MW} {P : Int} {E : MW → Prop} {Q : Int32 → MW → Prop} (hI : BND w0) (hr : w0.2.2 91 9 = some 1) (P0 : 0 ≤ P) (P1 : P ≤ 4000) (hE : tks (cf w0) (ltr 1 5) P = (true, P + 5) → P + 5 ≤ 4000 → E (sI w0 91 10 (tI (P + 5)))) (hQ : ∀ q, tks (cf w0) (ltr 1 5) P = (false, q) → 0 ≤ q → q ≤ 4000 → Q 0 (sI w0 91 10 (tI q))) (m : Nat) : ∀ i : Nat, i ≤ 5 → P + i ≤ 4000 → tks (cf w0) (ltr 1 i) P = (true, P + i) → 5 - i < m → q_Pl_takess91_2001_2 E Q m (nI i) (sI w0 91 10 (tI (P + i))) := by
  induction m with
  | zero => intros; omega
  | succ m ih =>
    intro i hi hp ht hm
    have ti : (nI i).toInt = (i : Int) := nI_toInt (by omega)
    have be := bd_1_2 hI
    rw [q_Pl_takess91_2001_2.eq_2]
    refine ⟨fun c => ?_, fun c => ?_⟩
    · obtain rfl : i = 5 := by omega
      exact hE ht hp
    have e9 : (sI w0 91 10 (tI (P + i))).2.2 91 9 = some 1 := hr
    have e10 : (sI w0 91 10 (tI (P + i))).1 91 10 = tI (P + i) := sI_same _ _ _ _
    have hB : BND (sI w0 91 10 (tI (P + i))) := wbd_91_10 hI (by rw [tI_t (by omega) (by omega)]; omega) (by rw [tI_t (by omega) (by omega)]; omega)
    refine ⟨e9, at_x hB ?_⟩
    rw [e10]
    have ev : (cv (sI w0 91 10 (tI (P + i))) (tI (P + i))).toInt = cf w0 (P + i) := by
      rw [cv_cf, cf_sI rfl, tI_t (by omega) (by omega)]
    have cb := nb_ch 1 (nI i)
    have st := tks_st (cf w0) (ltr 1 i) [(chT 1 (nI i)).toInt] P (by rw [ht])
    rw [← ltr_s, ltr_l] at st
    have e1 : tks (cf w0) [(chT 1 (nI i)).toInt] (P + i) = if cf w0 (P + i) = (chT 1 (nI i)).toInt then (true, P + i + 1) else (false, P + i) := rfl
    refine ⟨⟨by omega, by omega⟩, fun q => ?_, fun q => ?_⟩
    · rw [ev] at q
      have cp := cf_pos (w := w0) (p := P + i) (by omega)
      rw [nI_1, sI_sI]
      have e2 : tI (P + i) + (1 : Int32) = tI (P + ((i + 1 : Nat) : Int)) := ti_inj (by
        rw [ti_add2 (tI_t (by omega) (by omega)) i_1 (by omega) (by omega), tI_t (by omega) (by omega)]
        omega)
      rw [e2]
      refine ih (i + 1) (by omega) (by omega) ?_ (by omega)
      rw [st, e1, if_pos q]
      have : P + (i : Int) + 1 = P + ((i + 1 : Nat) : Int) := by omega
      rw [this]
    · rw [ev] at q
      refine hQ _ ?_ (by omega) hp
      obtain ⟨l, el⟩ := ltr_a 1 (i + 1) (5 - (i + 1))
      have e3 : i + 1 + (5 - (i + 1)) = 5 := by omega
      rw [e3] at el
      rw [el]
      refine tks_f _ _ _ _ _ ?_
      rw [st, e1, if_neg q]
theorem tx_2001 {w : MW} {Q : Int32 → MW → Prop} (hI : BND w) (hr : w.2.2 91 9 = some 1) (hQ : ∀ (b : Bool) (q : Int), tks (cf w) (ltr 1 5) (w.1 91 10).toInt = (b, q) → 0 ≤ q → q ≤ 4000 → Q (if b then 1 else 0) (sI w 91 10 (tI q))) : p_Pl_takess91_2001 w Q := by
  have b := bd_91_10 hI
  refine Eq.mpr (p_Pl_takess91_2001.eq_1 _ _) ?_
  have k := tl_2001 (w0 := w) (P := (w.1 91 10).toInt) (E := fun w6 => Q 1 w6) (Q := Q) hI hr b.1 b.2 (fun h1 h2 => hQ true _ h1 (by omega) h2) (fun q h1 h2 h3 => hQ false q h1 h2 h3) FU 0 (by omega) (by omega) (by
    show (true, (w.1 91 10).toInt) = (true, (w.1 91 10).toInt + ((0 : Nat) : Int))
    rw [show (w.1 91 10).toInt + ((0 : Nat) : Int) = (w.1 91 10).toInt by omega]) (fu_lt (by decide))
  have e : sI w 91 10 (tI ((w.1 91 10).toInt + ((0 : Nat) : Int))) = w := by
    rw [show (w.1 91 10).toInt + ((0 : Nat) : Int) = (w.1 91 10).toInt by omega, tI_of, sI_eta]
  rw [e] at k
  exact k
theorem tl_2002 {w0 : MW} {P : Int} {E : MW → Prop} {Q : Int32 → MW → Prop} (hI : BND w0) (hr : w0.2.2 91 9 = some 1) (P0 : 0 ≤ P) (P1 : P ≤ 4000) (hE : tks (cf w0) (ltr 2 6) P = (true, P + 6) → P + 6 ≤ 4000 → E (sI w0 91 10 (tI (P + 6)))) (hQ : ∀ q, tks (cf w0) (ltr 2 6) P = (false, q) → 0 ≤ q → q ≤ 4000 → Q 0 (sI w0 91 10 (tI q))) (m : Nat) : ∀ i : Nat, i ≤ 6 → P + i ≤ 4000 → tks (cf w0) (ltr 2 i) P = (true, P + i) → 6 - i < m → q_Pl_takess91_2002_2 E Q m (nI i) (sI w0 91 10 (tI (P + i))) := by
  induction m with
  | zero => intros; omega
  | succ m ih =>
    intro i hi hp ht hm
    have ti : (nI i).toInt = (i : Int) := nI_toInt (by omega)
    have be := bd_1_2 hI
    rw [q_Pl_takess91_2002_2.eq_2]
    refine ⟨fun c => ?_, fun c => ?_⟩
    · obtain rfl : i = 6 := by omega
      exact hE ht hp
    have e9 : (sI w0 91 10 (tI (P + i))).2.2 91 9 = some 1 := hr
    have e10 : (sI w0 91 10 (tI (P + i))).1 91 10 = tI (P + i) := sI_same _ _ _ _
    have hB : BND (sI w0 91 10 (tI (P + i))) := wbd_91_10 hI (by rw [tI_t (by omega) (by omega)]; omega) (by rw [tI_t (by omega) (by omega)]; omega)
    refine ⟨e9, at_x hB ?_⟩
    rw [e10]
    have ev : (cv (sI w0 91 10 (tI (P + i))) (tI (P + i))).toInt = cf w0 (P + i) := by
      rw [cv_cf, cf_sI rfl, tI_t (by omega) (by omega)]
    have cb := nb_ch 2 (nI i)
    have st := tks_st (cf w0) (ltr 2 i) [(chT 2 (nI i)).toInt] P (by rw [ht])
    rw [← ltr_s, ltr_l] at st
    have e1 : tks (cf w0) [(chT 2 (nI i)).toInt] (P + i) = if cf w0 (P + i) = (chT 2 (nI i)).toInt then (true, P + i + 1) else (false, P + i) := rfl
    refine ⟨⟨by omega, by omega⟩, fun q => ?_, fun q => ?_⟩
    · rw [ev] at q
      have cp := cf_pos (w := w0) (p := P + i) (by omega)
      rw [nI_1, sI_sI]
      have e2 : tI (P + i) + (1 : Int32) = tI (P + ((i + 1 : Nat) : Int)) := ti_inj (by
        rw [ti_add2 (tI_t (by omega) (by omega)) i_1 (by omega) (by omega), tI_t (by omega) (by omega)]
        omega)
      rw [e2]
      refine ih (i + 1) (by omega) (by omega) ?_ (by omega)
      rw [st, e1, if_pos q]
      have : P + (i : Int) + 1 = P + ((i + 1 : Nat) : Int) := by omega
      rw [this]
    · rw [ev] at q
      refine hQ _ ?_ (by omega) hp
      obtain ⟨l, el⟩ := ltr_a 2 (i + 1) (6 - (i + 1))
      have e3 : i + 1 + (6 - (i + 1)) = 6 := by omega
      rw [e3] at el
      rw [el]
      refine tks_f _ _ _ _ _ ?_
      rw [st, e1, if_neg q]
theorem tx_2002 {w : MW} {Q : Int32 → MW → Prop} (hI : BND w) (hr : w.2.2 91 9 = some 1) (hQ : ∀ (b : Bool) (q : Int), tks (cf w) (ltr 2 6) (w.1 91 10).toInt = (b, q) → 0 ≤ q → q ≤ 4000 → Q (if b then 1 else 0) (sI w 91 10 (tI q))) : p_Pl_takess91_2002 w Q := by
  have b := bd_91_10 hI
  refine Eq.mpr (p_Pl_takess91_2002.eq_1 _ _) ?_
  have k := tl_2002 (w0 := w) (P := (w.1 91 10).toInt) (E := fun w6 => Q 1 w6) (Q := Q) hI hr b.1 b.2 (fun h1 h2 => hQ true _ h1 (by omega) h2) (fun q h1 h2 h3 => hQ false q h1 h2 h3) FU 0 (by omega) (by omega) (by
    show (true, (w.1 91 10).toInt) = (true, (w.1 91 10).toInt + ((0 : Nat) : Int))
    rw [show (w.1 91 10).toInt + ((0 : Nat) : Int) = (w.1 91 10).toInt by omega]) (fu_lt (by decide))
  have e : sI w 91 10 (tI ((w.1 91 10).toInt + ((0 : Nat) : Int))) = w := by
    rw [show (w.1 91 10).toInt + ((0 : Nat) : Int) = (w.1 91 10).toInt by omega, tI_of, sI_eta]
  rw [e] at k
  exact k
theorem tl_2003 {w0 : MW} {P : Int} {E : MW → Prop} {Q : Int32 → MW → Prop} (hI : BND w0) (hr : w0.2.2 91 9 = some 1) (P0 : 0 ≤ P) (P1 : P ≤ 4000) (hE : tks (cf w0) (ltr 3 4) P = (true, P + 4) → P + 4 ≤ 4000 → E (sI w0 91 10 (tI (P + 4)))) (hQ : ∀ q, tks (cf w0) (ltr 3 4) P = (false, q) → 0 ≤ q → q ≤ 4000 → Q 0 (sI w0 91 10 (tI q))) (m : Nat) : ∀ i : Nat, i ≤ 4 → P + i ≤ 4000 → tks (cf w0) (ltr 3 i) P = (true, P + i) → 4 - i < m → q_Pl_takess91_2003_2 E Q m (nI i) (sI w0 91 10 (tI (P + i))) := by
  induction m with
  | zero => intros; omega
  | succ m ih =>
    intro i hi hp ht hm
    have ti : (nI i).toInt = (i : Int) := nI_toInt (by omega)
    have be := bd_1_2 hI
    rw [q_Pl_takess91_2003_2.eq_2]
    refine ⟨fun c => ?_, fun c => ?_⟩
    · obtain rfl : i = 4 := by omega
      exact hE ht hp
    have e9 : (sI w0 91 10 (tI (P + i))).2.2 91 9 = some 1 := hr
    have e10 : (sI w0 91 10 (tI (P + i))).1 91 10 = tI (P + i) := sI_same _ _ _ _
    have hB : BND (sI w0 91 10 (tI (P + i))) := wbd_91_10 hI (by rw [tI_t (by omega) (by omega)]; omega) (by rw [tI_t (by omega) (by omega)]; omega)
    refine ⟨e9, at_x hB ?_⟩
    rw [e10]
    have ev : (cv (sI w0 91 10 (tI (P + i))) (tI (P + i))).toInt = cf w0 (P + i) := by
      rw [cv_cf, cf_sI rfl, tI_t (by omega) (by omega)]
    have cb := nb_ch 3 (nI i)
    have st := tks_st (cf w0) (ltr 3 i) [(chT 3 (nI i)).toInt] P (by rw [ht])
    rw [← ltr_s, ltr_l] at st
    have e1 : tks (cf w0) [(chT 3 (nI i)).toInt] (P + i) = if cf w0 (P + i) = (chT 3 (nI i)).toInt then (true, P + i + 1) else (false, P + i) := rfl
    refine ⟨⟨by omega, by omega⟩, fun q => ?_, fun q => ?_⟩
    · rw [ev] at q
      have cp := cf_pos (w := w0) (p := P + i) (by omega)
      rw [nI_1, sI_sI]
      have e2 : tI (P + i) + (1 : Int32) = tI (P + ((i + 1 : Nat) : Int)) := ti_inj (by
        rw [ti_add2 (tI_t (by omega) (by omega)) i_1 (by omega) (by omega), tI_t (by omega) (by omega)]
        omega)
      rw [e2]
      refine ih (i + 1) (by omega) (by omega) ?_ (by omega)
      rw [st, e1, if_pos q]
      have : P + (i : Int) + 1 = P + ((i + 1 : Nat) : Int) := by omega
      rw [this]
    · rw [ev] at q
      refine hQ _ ?_ (by omega) hp
      obtain ⟨l, el⟩ := ltr_a 3 (i + 1) (4 - (i + 1))
      have e3 : i + 1 + (4 - (i + 1)) = 4 := by omega
      rw [e3] at el
      rw [el]
      refine tks_f _ _ _ _ _ ?_
      rw [st, e1, if_neg q]
theorem tx_2003 {w : MW} {Q : Int32 → MW → Prop} (hI : BND w) (hr : w.2.2 91 9 = some 1) (hQ : ∀ (b : Bool) (q : Int), tks (cf w) (ltr 3 4) (w.1 91 10).toInt = (b, q) → 0 ≤ q → q ≤ 4000 → Q (if b then 1 else 0) (sI w 91 10 (tI q))) : p_Pl_takess91_2003 w Q := by
  have b := bd_91_10 hI
  refine Eq.mpr (p_Pl_takess91_2003.eq_1 _ _) ?_
  have k := tl_2003 (w0 := w) (P := (w.1 91 10).toInt) (E := fun w6 => Q 1 w6) (Q := Q) hI hr b.1 b.2 (fun h1 h2 => hQ true _ h1 (by omega) h2) (fun q h1 h2 h3 => hQ false q h1 h2 h3) FU 0 (by omega) (by omega) (by
    show (true, (w.1 91 10).toInt) = (true, (w.1 91 10).toInt + ((0 : Nat) : Int))
    rw [show (w.1 91 10).toInt + ((0 : Nat) : Int) = (w.1 91 10).toInt by omega]) (fu_lt (by decide))
  have e : sI w 91 10 (tI ((w.1 91 10).toInt + ((0 : Nat) : Int))) = w := by
    rw [show (w.1 91 10).toInt + ((0 : Nat) : Int) = (w.1 91 10).toInt by omega, tI_of, sI_eta]
  rw [e] at k
  exact k
theorem tl_2004 {w0 : MW} {P : Int} {E : MW → Prop} {Q : Int32 → MW → Prop} (hI : BND w0) (hr : w0.2.2 91 9 = some 1) (P0 : 0 ≤ P) (P1 : P ≤ 4000) (hE : tks (cf w0) (ltr 4 5) P = (true, P + 5) → P + 5 ≤ 4000 → E (sI w0 91 10 (tI (P + 5)))) (hQ : ∀ q, tks (cf w0) (ltr 4 5) P = (false, q) → 0 ≤ q → q ≤ 4000 → Q 0 (sI w0 91 10 (tI q))) (m : Nat) : ∀ i : Nat, i ≤ 5 → P + i ≤ 4000 → tks (cf w0) (ltr 4 i) P = (true, P + i) → 5 - i < m → q_Pl_takess91_2004_2 E Q m (nI i) (sI w0 91 10 (tI (P + i))) := by
  induction m with
  | zero => intros; omega
  | succ m ih =>
    intro i hi hp ht hm
    have ti : (nI i).toInt = (i : Int) := nI_toInt (by omega)
    have be := bd_1_2 hI
    rw [q_Pl_takess91_2004_2.eq_2]
    refine ⟨fun c => ?_, fun c => ?_⟩
    · obtain rfl : i = 5 := by omega
      exact hE ht hp
    have e9 : (sI w0 91 10 (tI (P + i))).2.2 91 9 = some 1 := hr
    have e10 : (sI w0 91 10 (tI (P + i))).1 91 10 = tI (P + i) := sI_same _ _ _ _
    have hB : BND (sI w0 91 10 (tI (P + i))) := wbd_91_10 hI (by rw [tI_t (by omega) (by omega)]; omega) (by rw [tI_t (by omega) (by omega)]; omega)
    refine ⟨e9, at_x hB ?_⟩
    rw [e10]
    have ev : (cv (sI w0 91 10 (tI (P + i))) (tI (P + i))).toInt = cf w0 (P + i) := by
      rw [cv_cf, cf_sI rfl, tI_t (by omega) (by omega)]
    have cb := nb_ch 4 (nI i)
    have st := tks_st (cf w0) (ltr 4 i) [(chT 4 (nI i)).toInt] P (by rw [ht])
    rw [← ltr_s, ltr_l] at st
    have e1 : tks (cf w0) [(chT 4 (nI i)).toInt] (P + i) = if cf w0 (P + i) = (chT 4 (nI i)).toInt then (true, P + i + 1) else (false, P + i) := rfl
    refine ⟨⟨by omega, by omega⟩, fun q => ?_, fun q => ?_⟩
    · rw [ev] at q
      have cp := cf_pos (w := w0) (p := P + i) (by omega)
      rw [nI_1, sI_sI]
      have e2 : tI (P + i) + (1 : Int32) = tI (P + ((i + 1 : Nat) : Int)) := ti_inj (by
        rw [ti_add2 (tI_t (by omega) (by omega)) i_1 (by omega) (by omega), tI_t (by omega) (by omega)]
        omega)
      rw [e2]
      refine ih (i + 1) (by omega) (by omega) ?_ (by omega)
      rw [st, e1, if_pos q]
      have : P + (i : Int) + 1 = P + ((i + 1 : Nat) : Int) := by omega
      rw [this]
    · rw [ev] at q
      refine hQ _ ?_ (by omega) hp
      obtain ⟨l, el⟩ := ltr_a 4 (i + 1) (5 - (i + 1))
      have e3 : i + 1 + (5 - (i + 1)) = 5 := by omega
      rw [e3] at el
      rw [el]
      refine tks_f _ _ _ _ _ ?_
      rw [st, e1, if_neg q]
theorem tx_2004 {w : MW} {Q : Int32 → MW → Prop} (hI : BND w) (hr : w.2.2 91 9 = some 1) (hQ : ∀ (b : Bool) (q : Int), tks (cf w) (ltr 4 5) (w.1 91 10).toInt = (b, q) → 0 ≤ q → q ≤ 4000 → Q (if b then 1 else 0) (sI w 91 10 (tI q))) : p_Pl_takess91_2004 w Q := by
  have b := bd_91_10 hI
  refine Eq.mpr (p_Pl_takess91_2004.eq_1 _ _) ?_
  have k := tl_2004 (w0 := w) (P := (w.1 91 10).toInt) (E := fun w6 => Q 1 w6) (Q := Q) hI hr b.1 b.2 (fun h1 h2 => hQ true _ h1 (by omega) h2) (fun q h1 h2 h3 => hQ false q h1 h2 h3) FU 0 (by omega) (by omega) (by
    show (true, (w.1 91 10).toInt) = (true, (w.1 91 10).toInt + ((0 : Nat) : Int))
    rw [show (w.1 91 10).toInt + ((0 : Nat) : Int) = (w.1 91 10).toInt by omega]) (fu_lt (by decide))
  have e : sI w 91 10 (tI ((w.1 91 10).toInt + ((0 : Nat) : Int))) = w := by
    rw [show (w.1 91 10).toInt + ((0 : Nat) : Int) = (w.1 91 10).toInt by omega, tI_of, sI_eta]
  rw [e] at k
  exact k
theorem tl_2005 {w0 : MW} {P : Int} {E : MW → Prop} {Q : Int32 → MW → Prop} (hI : BND w0) (hr : w0.2.2 91 9 = some 1) (P0 : 0 ≤ P) (P1 : P ≤ 4000) (hE : tks (cf w0) (ltr 5 1) P = (true, P + 1) → P + 1 ≤ 4000 → E (sI w0 91 10 (tI (P + 1)))) (hQ : ∀ q, tks (cf w0) (ltr 5 1) P = (false, q) → 0 ≤ q → q ≤ 4000 → Q 0 (sI w0 91 10 (tI q))) (m : Nat) : ∀ i : Nat, i ≤ 1 → P + i ≤ 4000 → tks (cf w0) (ltr 5 i) P = (true, P + i) → 1 - i < m → q_Pl_takess91_2005_2 E Q m (nI i) (sI w0 91 10 (tI (P + i))) := by
  induction m with
  | zero => intros; omega
  | succ m ih =>
    intro i hi hp ht hm
    have ti : (nI i).toInt = (i : Int) := nI_toInt (by omega)
    have be := bd_1_2 hI
    rw [q_Pl_takess91_2005_2.eq_2]
    refine ⟨fun c => ?_, fun c => ?_⟩
    · obtain rfl : i = 1 := by omega
      exact hE ht hp
    have e9 : (sI w0 91 10 (tI (P + i))).2.2 91 9 = some 1 := hr
    have e10 : (sI w0 91 10 (tI (P + i))).1 91 10 = tI (P + i) := sI_same _ _ _ _
    have hB : BND (sI w0 91 10 (tI (P + i))) := wbd_91_10 hI (by rw [tI_t (by omega) (by omega)]; omega) (by rw [tI_t (by omega) (by omega)]; omega)
    refine ⟨e9, at_x hB ?_⟩
    rw [e10]
    have ev : (cv (sI w0 91 10 (tI (P + i))) (tI (P + i))).toInt = cf w0 (P + i) := by
      rw [cv_cf, cf_sI rfl, tI_t (by omega) (by omega)]
    have cb := nb_ch 5 (nI i)
    have st := tks_st (cf w0) (ltr 5 i) [(chT 5 (nI i)).toInt] P (by rw [ht])
    rw [← ltr_s, ltr_l] at st
    have e1 : tks (cf w0) [(chT 5 (nI i)).toInt] (P + i) = if cf w0 (P + i) = (chT 5 (nI i)).toInt then (true, P + i + 1) else (false, P + i) := rfl
    refine ⟨⟨by omega, by omega⟩, fun q => ?_, fun q => ?_⟩
    · rw [ev] at q
      have cp := cf_pos (w := w0) (p := P + i) (by omega)
      rw [nI_1, sI_sI]
      have e2 : tI (P + i) + (1 : Int32) = tI (P + ((i + 1 : Nat) : Int)) := ti_inj (by
        rw [ti_add2 (tI_t (by omega) (by omega)) i_1 (by omega) (by omega), tI_t (by omega) (by omega)]
        omega)
      rw [e2]
      refine ih (i + 1) (by omega) (by omega) ?_ (by omega)
      rw [st, e1, if_pos q]
      have : P + (i : Int) + 1 = P + ((i + 1 : Nat) : Int) := by omega
      rw [this]
    · rw [ev] at q
      refine hQ _ ?_ (by omega) hp
      obtain ⟨l, el⟩ := ltr_a 5 (i + 1) (1 - (i + 1))
      have e3 : i + 1 + (1 - (i + 1)) = 1 := by omega
      rw [e3] at el
      rw [el]
      refine tks_f _ _ _ _ _ ?_
      rw [st, e1, if_neg q]
theorem tx_2005 {w : MW} {Q : Int32 → MW → Prop} (hI : BND w) (hr : w.2.2 91 9 = some 1) (hQ : ∀ (b : Bool) (q : Int), tks (cf w) (ltr 5 1) (w.1 91 10).toInt = (b, q) → 0 ≤ q → q ≤ 4000 → Q (if b then 1 else 0) (sI w 91 10 (tI q))) : p_Pl_takess91_2005 w Q := by
  have b := bd_91_10 hI
  refine Eq.mpr (p_Pl_takess91_2005.eq_1 _ _) ?_
  have k := tl_2005 (w0 := w) (P := (w.1 91 10).toInt) (E := fun w6 => Q 1 w6) (Q := Q) hI hr b.1 b.2 (fun h1 h2 => hQ true _ h1 (by omega) h2) (fun q h1 h2 h3 => hQ false q h1 h2 h3) FU 0 (by omega) (by omega) (by
    show (true, (w.1 91 10).toInt) = (true, (w.1 91 10).toInt + ((0 : Nat) : Int))
    rw [show (w.1 91 10).toInt + ((0 : Nat) : Int) = (w.1 91 10).toInt by omega]) (fu_lt (by decide))
  have e : sI w 91 10 (tI ((w.1 91 10).toInt + ((0 : Nat) : Int))) = w := by
    rw [show (w.1 91 10).toInt + ((0 : Nat) : Int) = (w.1 91 10).toInt by omega, tI_of, sI_eta]
  rw [e] at k
  exact k
/-! the class reads a plant: numbers -/
/-- how many digits, their number, and where it stands; d digits were read before, at most n more -/
def dgs (f : Int → Int) : Nat → Nat → Int → Int → Nat × Int × Int
  | 0, d, v, p => (d, v, p)
  | n + 1, d, v, p => if (48 ≤ f p ∧ f p ≤ 57) ∧ (d = 0 ∨ 0 < v) then dgs f n (d + 1) (v * 10 + f p - 48) (p + 1) else (d, v, p)
theorem w91 (w : MW) (a b c d : Int32) : sI (sI (sI (sI w 91 11 a) 91 10 b) 91 11 c) 91 10 d = sI (sI w 91 11 c) 91 10 d := by
  rw [sI_cm (sI w 91 11 a) 91 10 91 11 b c (by decide), sI_sI, sI_sI]
theorem tp_dig {w : MW} {a : Int32} {Q : Int32 → MW → Prop} (h1 : 48 ≤ a.toInt → a.toInt ≤ 57 → Q 1 w) (h0 : ¬ (48 ≤ a.toInt ∧ a.toInt ≤ 57) → Q 0 w) : p_Tp_isDigit w a Q :=
  Eq.mpr (p_Tp_isDigit.eq_1 _ _ _) ⟨fun _ => h0 (by omega), fun _ => ⟨fun _ => h0 (by omega), fun _ => h1 (by omega) (by omega)⟩⟩
theorem nl_91 {w0 : MW} {E : Int32 → MW → Prop} {Q : Int32 → MW → Prop} {P : Int} (hI : BND w0) (hr : w0.2.2 91 9 = some 1) (hE : ∀ (c : Nat) (v q : Int), dgs (cf w0) 7 0 0 P = (c, v, q) → c ≤ 7 → 0 ≤ v → v ≤ 9999999 → 0 ≤ q → q ≤ 4000 → E (nI c) (sI (sI w0 91 11 (tI v)) 91 10 (tI q))) (m : Nat) : ∀ (n d : Nat) (v p : Int), n + d = 7 → 0 ≤ v → v < 10 ^ d → 0 ≤ p → p ≤ 4000 → dgs (cf w0) 7 0 0 P = dgs (cf w0) n d v p → n < m → q_Pl_takesNumbers91_7 E Q m (nI d) (sI (sI w0 91 11 (tI v)) 91 10 (tI p)) := by
  induction m with
  | zero => intros; omega
  | succ m ih =>
    intro n d v p hn v0 v1 p0 p1 hd hm
    have td : (nI d).toInt = (d : Int) := nI_toInt (by omega)
    have be := bd_1_2 hI
    have v7 : v ≤ 9999999 := by
      have h10 : (10 : Int) ^ d ≤ 10 ^ 7 := by
        have : d = 0 ∨ d = 1 ∨ d = 2 ∨ d = 3 ∨ d = 4 ∨ d = 5 ∨ d = 6 ∨ d = 7 := by omega
        rcases this with rfl | rfl | rfl | rfl | rfl | rfl | rfl | rfl <;> decide
      have : (10 : Int) ^ 7 = 10000000 := by decide
      omega
    have tv : (tI v).toInt = v := tI_t (by omega) (by omega)
    have tp : (tI p).toInt = p := tI_t (by omega) (by omega)
    have e9 : (sI (sI w0 91 11 (tI v)) 91 10 (tI p)).2.2 91 9 = some 1 := hr
    have e10 : (sI (sI w0 91 11 (tI v)) 91 10 (tI p)).1 91 10 = tI p := sI_same _ _ _ _
    have e11 : (sI (sI w0 91 11 (tI v)) 91 10 (tI p)).1 91 11 = tI v := by
      rw [sI_ne _ _ _ _ _ (by decide), sI_same]
    have hB : BND (sI (sI w0 91 11 (tI v)) 91 10 (tI p)) := wbd_91_10 (wbd_91_11 hI (by omega) (by omega)) (by omega) (by omega)
    have ev : (cv (sI (sI w0 91 11 (tI v)) 91 10 (tI p)) (tI p)).toInt = cf w0 p := by
      rw [cv_cf, cf_sI rfl, cf_sI rfl, tp]
    rw [q_Pl_takesNumbers91_7.eq_2]
    refine ⟨fun c => ?_, fun c => ⟨e9, at_x hB ?_⟩⟩
    · obtain rfl : n = 0 := by omega
      exact hE d v p hd (by omega) v0 v7 p0 p1
    obtain ⟨n, rfl⟩ : ∃ k, n = k + 1 := ⟨n - 1, by omega⟩
    have un : dgs (cf w0) (n + 1) d v p = if (48 ≤ cf w0 p ∧ cf w0 p ≤ 57) ∧ (d = 0 ∨ 0 < v) then dgs (cf w0) n (d + 1) (v * 10 + cf w0 p - 48) (p + 1) else (d, v, p) := rfl
    rw [e10]
    have go : 48 ≤ cf w0 p → cf w0 p ≤ 57 → (d = 0 ∨ 0 < v) → q_Pl_takesNumbers91_41 (nI d) (sI (sI w0 91 11 (tI v)) 91 10 (tI p)) (fun (x7_1 : Int32) (w : MW) => q_Pl_takesNumbers91_7 E Q m x7_1 w) E Q := fun c1 c2 c3 => by
      have cp := cf_pos (w := w0) (p := p) (by omega)
      refine Eq.mpr (q_Pl_takesNumbers91_41.eq_1 _ _ _ _ _) ⟨e9, at_x hB ?_⟩
      rw [e10, e11, w91, nI_1]
      have hp : (10 : Int) ^ (d + 1) = 10 ^ d * 10 := Int.pow_succ 10 d
      have m10 : ((tI v) * (10 : Int32)).toInt = v * 10 := ti_mul2 tv (by decide) (by omega) (by
        have : d = 0 ∨ d = 1 ∨ d = 2 ∨ d = 3 ∨ d = 4 ∨ d = 5 ∨ d = 6 := by omega
        have h10 : (10 : Int) ^ d ≤ 1000000 := by
          rcases this with rfl | rfl | rfl | rfl | rfl | rfl | rfl <;> decide
        omega)
      have h10 : (10 : Int) ^ d ≤ 1000000 := by
        have : d = 0 ∨ d = 1 ∨ d = 2 ∨ d = 3 ∨ d = 4 ∨ d = 5 ∨ d = 6 := by omega
        rcases this with rfl | rfl | rfl | rfl | rfl | rfl | rfl <;> decide
      have a1 := ti_add2 m10 ev (by omega) (by omega)
      have a2 := ti_sub2 a1 (by decide : ((48 : Int32)).toInt = 48) (by omega) (by omega)
      have e1 : (((tI v) * (10 : Int32)) + cv (sI (sI w0 91 11 (tI v)) 91 10 (tI p)) (tI p)) - (48 : Int32) = tI (v * 10 + cf w0 p - 48) := ti_inj (by rw [a2, tI_t (by omega) (by omega)])
      have e2 : tI p + (1 : Int32) = tI (p + 1) := ti_inj (by rw [ti_add2 tp i_1 (by omega) (by omega), tI_t (by omega) (by omega)])
      rw [e1, e2]
      refine ih n (d + 1) _ _ (by omega) (by omega) (by omega) (by omega) (by omega) ?_ (by omega)
      rw [hd, un, if_pos ⟨⟨c1, c2⟩, c3⟩]
    have st : ¬ ((48 ≤ cf w0 p ∧ cf w0 p ≤ 57) ∧ (d = 0 ∨ 0 < v)) → E (nI d) (sI (sI w0 91 11 (tI v)) 91 10 (tI p)) := fun q => hE d v p (by rw [hd, un, if_neg q]) (by omega) v0 v7 p0 p1
    refine tp_dig (fun c1 c2 => ⟨fun z => absurd z (by decide), fun _ => ⟨fun z => ?_, fun z => ⟨fun y => ?_, fun y => ?_⟩⟩⟩) (fun c1 => ⟨fun _ => st (fun q => c1 (by rw [ev]; exact q.1)), fun z => absurd i_0 z⟩)
    · rw [ev] at c1 c2
      exact go c1 c2 (Or.inl (by omega))
    · rw [e11, tv] at y
      exact st (fun q => by have := q.2; omega)
    · rw [e11, tv] at y
      rw [ev] at c1 c2
      exact go c1 c2 (Or.inr (by omega))
theorem nx_91 {w : MW} {Q : Int32 → MW → Prop} (hI : BND w) (hr : w.2.2 91 9 = some 1) (hQ : ∀ (c : Nat) (v q : Int), dgs (cf w) 7 0 0 (w.1 91 10).toInt = (c, v, q) → 0 ≤ v → v ≤ 9999999 → 0 ≤ q → q ≤ 4000 → Q (if c = 0 then 0 else 1) (sI (sI w 91 11 (tI v)) 91 10 (tI q))) : p_Pl_takesNumbers91 w Q := by
  have b := bd_91_10 hI
  refine Eq.mpr (p_Pl_takesNumbers91.eq_1 _ _) ?_
  have k := nl_91 (w0 := w) (P := (w.1 91 10).toInt) (E := fun e w10 => ((e.toInt ≤ 0 → (Q 0 w10)) ∧ (¬ (e.toInt ≤ 0) → (Q 1 w10)))) (Q := Q) hI hr (fun c v q h1 h2 h3 h4 h5 h6 => by
    have tc : (nI c).toInt = (c : Int) := nI_toInt (by omega)
    have g := hQ c v q h1 h3 h4 h5 h6
    refine ⟨fun z => ?_, fun z => ?_⟩
    · rw [if_pos (by omega)] at g
      exact g
    · rw [if_neg (by omega)] at g
      exact g) FU 7 0 0 (w.1 91 10).toInt (by omega) (by omega) (by decide) b.1 b.2 rfl (fu_lt (by decide))
  have e : sI (sI w 91 11 (tI 0)) 91 10 (tI (w.1 91 10).toInt) = sI w 91 11 0 := by
    rw [tI_of]
    have e2 : (sI w 91 11 (tI 0)).1 91 10 = w.1 91 10 := sI_ne _ _ _ _ _ (by decide)
    rw [← e2, sI_eta]
    rfl
  rw [e] at k
  exact k
/-! the class reads a line of a plant, up to its end -/
/-- a pipe's end: a number, or - for -1 -/
def pes (f : Int → Int) (p : Int) : Bool × Int × Int := if f p = 45 then (true, -1, p + 1) else (decide (¬ (dgs f 7 0 0 p).1 = 0), (dgs f 7 0 0 p).2.1, (dgs f 7 0 0 p).2.2)
theorem pe_91 {w : MW} {Q : Int32 → MW → Prop} (hI : BND w) (hr : w.2.2 91 9 = some 1) (hQ : ∀ (b : Bool) (v q : Int), pes (cf w) (w.1 91 10).toInt = (b, v, q) → -1 ≤ v → v ≤ 9999999 → 0 ≤ q → q ≤ 4000 → Q (if b then 1 else 0) (sI (sI w 91 11 (tI v)) 91 10 (tI q))) : p_Pl_takesPipeEnds91 w Q := by
  have b := bd_91_10 hI
  have be := bd_1_2 hI
  refine Eq.mpr (p_Pl_takesPipeEnds91.eq_1 _ _) ⟨hr, at_x hI ⟨fun c => ?_, fun c => ?_⟩⟩
  · rw [cv_cf] at c
    refine nx_91 hI hr (fun n v q h1 h2 h3 h4 h5 => ?_)
    have g := hQ (decide (¬ n = 0)) v q (by unfold pes; rw [if_neg c, h1]) (by omega) h3 h4 h5
    by_cases z : n = 0
    · rw [if_pos z]
      rw [decide_eq_false (fun h => h z)] at g
      exact g
    · rw [if_neg z]
      rw [decide_eq_true z] at g
      exact g
  · rw [cv_cf] at c
    have c45 : cf w (w.1 91 10).toInt = 45 := Classical.not_not.mp c
    have cp := cf_pos (w := w) (p := (w.1 91 10).toInt) (by omega)
    have g := hQ true (-1) ((w.1 91 10).toInt + 1) (by unfold pes; rw [if_pos c45]) (by omega) (by omega) (by omega) (by omega)
    have e1 : tI ((w.1 91 10).toInt + 1) = (w.1 91 10) + (1 : Int32) := ti_inj (by rw [tI_t (by omega) (by omega), ti_add2 (Eq.refl (w.1 91 10).toInt) i_1 (by omega) (by omega)])
    have e2 : tI (-1) = -1 := ti_inj (by rw [tI_t (by omega) (by omega)]; exact i_m1.symm)
    rw [e1, e2, sI_cm w 91 11 91 10 _ _ (by decide)] at g
    exact g
theorem el_91 {w : MW} {Q : Int32 → MW → Prop} (hI : BND w) (hr : w.2.2 91 9 = some 1) (h1 : cf w (w.1 91 10).toInt = 10 → Q 1 w) (h0 : ¬ cf w (w.1 91 10).toInt = 10 → Q 0 w) : p_Pl_endsLines91 w Q := by
  refine Eq.mpr (p_Pl_endsLines91.eq_1 _ _) ⟨hr, at_x hI ⟨fun c => ?_, fun c => ?_⟩⟩
  · rw [cv_cf] at c
    exact h0 c
  · rw [cv_cf] at c
    exact h1 (Classical.not_not.mp c)
/-! the class adds a thing -/
def lAT : Pl := [(91, some 0), (92, none), (93, none), (94, none), (98, none)]
/-- a thing of kind a and room b was added -/
def AdT (w w' : MW) (a b : Int32) : Prop := (w'.1 91 0).toInt = (w.1 91 0).toInt + 1 ∧ (∀ j, w'.1 92 j = if j = (w.1 91 0).toInt.toNat then a else w.1 92 j) ∧ (∀ j, w'.1 93 j = if j = (w.1 91 0).toInt.toNat then b else w.1 93 j) ∧ (∀ j, w'.1 94 j = if j = (w.1 91 0).toInt.toNat then 0 else w.1 94 j) ∧ (∀ j, w'.1 98 j = if 4 * (w.1 91 0).toInt.toNat ≤ j ∧ j < 4 * (w.1 91 0).toInt.toNat + 4 then -1 else w.1 98 j)
theorem at_43 {z : MW} {T : Nat} {E : MW → Prop} {Q : Int32 → MW → Prop} (hT : (z.1 91 0).toInt = (T : Int)) (h20 : T < 20) (hE : ∀ w', BND w' → FR [(98, none)] z w' → (∀ j, w'.1 98 j = if 4 * T ≤ j ∧ j < 4 * T + 4 then -1 else z.1 98 j) → E w') (n : Nat) : ∀ (i : Nat) (w : MW), BND w → FR [(98, none)] z w → i ≤ 4 → (∀ j, w.1 98 j = if 4 * T ≤ j ∧ j < 4 * T + i then -1 else z.1 98 j) → 4 - i < n → q_Pl_addThings91_43 E Q n (nI i) w := by
  induction n with
  | zero => intros; omega
  | succ n ih =>
    intro i w hB hF hi hj hm
    have ti : (nI i).toInt = (i : Int) := nI_toInt (by omega)
    have e0 : (w.1 91 0).toInt = (T : Int) := by rw [(hF 91 0 rfl).1]; exact hT
    rw [q_Pl_addThings91_43.eq_2]
    refine ⟨fun c => ?_, fun c => ?_⟩
    · obtain rfl : i = 4 := by omega
      exact hE w hB hF hj
    have m := ti_mul2 e0 (by decide : ((4 : Int32)).toInt = 4) (by omega) (by omega)
    have s := ti_add2 m ti (by omega) (by omega)
    refine ⟨⟨by omega, by omega⟩, ?_⟩
    rw [nI_1]
    have e1 : (((w.1 91 0) * (4 : Int32)) + nI i).toInt.toNat = 4 * T + i := by omega
    rw [e1]
    refine ih (i + 1) _ (wbd_98 hB _ (by decide) (by decide)) (FR.I hF rfl) (by omega) (fun j => ?_) (by omega)
    by_cases q : j = 4 * T + i
    · rw [q, sI_same, if_pos (by omega)]
    · rw [sI_ne _ _ _ _ _ q, hj j]
      by_cases q2 : 4 * T ≤ j ∧ j < 4 * T + i
      · rw [if_pos q2, if_pos (by omega)]
      · rw [if_neg q2, if_neg (by omega)]
theorem add_t {w : MW} {a b : Int32} {Q : Int32 → MW → Prop} (hI : BND w) (a0 : 0 ≤ a.toInt) (a9 : a.toInt ≤ 9) (b0 : 0 ≤ b.toInt) (b1 : b.toInt ≤ 100000) (h1 : ∀ w', BND w' → FR lAT w w' → (w.1 91 0).toInt < 20 → AdT w w' a b → Q 1 w') (h0 : ¬ (w.1 91 0).toInt < 20 → Q 0 w) : p_Pl_addThings91 w a b Q := by
  have b91 := bd_91_0 hI
  refine Eq.mpr (p_Pl_addThings91.eq_1 _ _ _ _) ⟨fun c => ?_, fun c => h0 c⟩
  have g : 0 ≤ (w.1 91 0).toInt ∧ (w.1 91 0).toInt < 20 := ⟨b91.1, c⟩
  refine ⟨g, g, g, ?_⟩
  have hB : BND (sI (sI (sI w 92 ((w.1 91 0).toInt.toNat) a) 93 ((w.1 91 0).toInt.toNat) b) 94 ((w.1 91 0).toInt.toNat) 0) := wbd_94 (wbd_93 (wbd_92 hI _ a0 a9) _ b0 b1) _ (by decide) (by decide)
  have hF : FR lAT w (sI (sI (sI w 92 ((w.1 91 0).toInt.toNat) a) 93 ((w.1 91 0).toInt.toNat) b) 94 ((w.1 91 0).toInt.toNat) 0) := FR.I (FR.I (FR.I (FR.refl _ w) rfl) rfl) rfl
  have e0 : (sI (sI (sI w 92 ((w.1 91 0).toInt.toNat) a) 93 ((w.1 91 0).toInt.toNat) b) 94 ((w.1 91 0).toInt.toNat) 0).1 91 0 = w.1 91 0 := rfl
  have k2 : ∀ j, (sI (sI (sI w 92 ((w.1 91 0).toInt.toNat) a) 93 ((w.1 91 0).toInt.toNat) b) 94 ((w.1 91 0).toInt.toNat) 0).1 92 j = if j = (w.1 91 0).toInt.toNat then a else w.1 92 j := fun j => by
    rw [sI_oth _ _ _ _ _ _ (by decide), sI_oth _ _ _ _ _ _ (by decide), sI_at]
    by_cases q : j = (w.1 91 0).toInt.toNat
    · rw [if_pos q, if_pos ⟨rfl, q⟩]
    · rw [if_neg q, if_neg (fun z => q z.2)]
  have k3 : ∀ j, (sI (sI (sI w 92 ((w.1 91 0).toInt.toNat) a) 93 ((w.1 91 0).toInt.toNat) b) 94 ((w.1 91 0).toInt.toNat) 0).1 93 j = if j = (w.1 91 0).toInt.toNat then b else w.1 93 j := fun j => by
    rw [sI_oth _ _ _ _ _ _ (by decide), sI_at]
    by_cases q : j = (w.1 91 0).toInt.toNat
    · rw [if_pos q, if_pos ⟨rfl, q⟩]
    · rw [if_neg q, if_neg (fun z => q z.2), sI_oth _ _ _ _ _ _ (by decide)]
  have k4 : ∀ j, (sI (sI (sI w 92 ((w.1 91 0).toInt.toNat) a) 93 ((w.1 91 0).toInt.toNat) b) 94 ((w.1 91 0).toInt.toNat) 0).1 94 j = if j = (w.1 91 0).toInt.toNat then 0 else w.1 94 j := fun j => by
    rw [sI_at]
    by_cases q : j = (w.1 91 0).toInt.toNat
    · rw [if_pos q, if_pos ⟨rfl, q⟩]
    · rw [if_neg q, if_neg (fun z => q z.2), sI_oth _ _ _ _ _ _ (by decide), sI_oth _ _ _ _ _ _ (by decide)]
  have k8 : ∀ j, (sI (sI (sI w 92 ((w.1 91 0).toInt.toNat) a) 93 ((w.1 91 0).toInt.toNat) b) 94 ((w.1 91 0).toInt.toNat) 0).1 98 j = w.1 98 j := fun j => rfl
  generalize (sI (sI (sI w 92 ((w.1 91 0).toInt.toNat) a) 93 ((w.1 91 0).toInt.toNat) b) 94 ((w.1 91 0).toInt.toNat) 0) = z at *
  have e00 : (0 : Int32) = nI 0 := rfl
  rw [e00]
  refine at_43 (z := z) (T := (w.1 91 0).toInt.toNat) (by rw [e0]; omega) (by omega) (fun w7 B7 F7 g7 => ?_) FU 0 z hB (FR.refl _ z) (by omega) (fun j => by rw [if_neg (by omega)]) (fu_lt (by decide))
  have e7 : w7.1 91 0 = w.1 91 0 := ((F7 91 0 rfl).1).trans e0
  have s := ti_add2 (Eq.refl (w7.1 91 0).toInt) i_1 (by rw [e7]; omega) (by rw [e7]; omega)
  have F9 : FR [(98, none), (91, some 0)] z (sI w7 91 0 ((w7.1 91 0) + (1 : Int32))) := FR.I (FR.tr (FR.refl _ z) F7 rfl) rfl
  refine h1 _ (wbd_91_0 B7 (by rw [s, e7]; omega) (by rw [s, e7]; omega)) (hF.tr F9 rfl) c ⟨?_, fun j => ?_, fun j => ?_, fun j => ?_, fun j => ?_⟩
  · rw [sI_same, s, e7]
  · rw [(F9 92 j rfl).1]
    exact k2 j
  · rw [(F9 93 j rfl).1]
    exact k3 j
  · rw [(F9 94 j rfl).1]
    exact k4 j
  · rw [sI_oth _ _ _ _ _ _ (by decide), g7 j, k8 j]
/-! the class joins a pipe's end -/
def lJN : Pl := [(94, none), (96, none), (97, none), (98, none)]
def pcn (k : Int) : Int := ((stT 1000).getD k.toNat 0).toInt
theorem pcn_b : ∀ k : Nat, k < 10 → (0 ≤ pcn (k : Int) ∧ pcn (k : Int) ≤ 48) ∧ (¬ k = 9 → pcn (k : Int) ≤ 4) := by decide +kernel
theorem pcn_c {k : Int} (h0 : 0 ≤ k) (h9 : k ≤ 9) : (0 ≤ pcn k ∧ pcn k ≤ 48) ∧ (¬ k = 9 → pcn k ≤ 4) := by
  have := pcn_b k.toNat (by omega)
  have e : ((k.toNat : Nat) : Int) = k := by omega
  rw [e] at this
  exact ⟨this.1, fun h => this.2 (by omega)⟩
def okJ (w : MW) (b : Int32) : Prop := b.toInt = -1 ∨ (b.toInt < (w.1 91 0).toInt ∧ (w.1 94 b.toInt.toNat).toInt < pcn (w.1 92 b.toInt.toNat).toInt)
def JnS (w w' : MW) (a b : Int32) : Prop := (∀ j, w'.1 96 j = if j = a.toInt.toNat then b else w.1 96 j) ∧ (∀ j, w'.1 97 j = if j = a.toInt.toNat then (if b.toInt = -1 ∨ (w.1 92 b.toInt.toNat).toInt = 9 then 0 else w.1 94 b.toInt.toNat) else w.1 97 j) ∧ (∀ j, w'.1 94 j = if ¬ b.toInt = -1 ∧ j = b.toInt.toNat then w.1 94 b.toInt.toNat + (1 : Int32) else w.1 94 j) ∧ (∀ j, w'.1 98 j = if ¬ b.toInt = -1 ∧ ¬ (w.1 92 b.toInt.toNat).toInt = 9 ∧ (j : Int) = 4 * b.toInt + (w.1 94 b.toInt.toNat).toInt then a else w.1 98 j)
theorem jn_91 {w : MW} {a b : Int32} {Q : Int32 → MW → Prop} (hI : BND w) (a0 : 0 ≤ a.toInt) (a1 : a.toInt ≤ 47) (b0 : -1 ≤ b.toInt) (b1 : b.toInt ≤ 9999999) (h1 : ∀ w', BND w' → FR lJN w w' → okJ w b → JnS w w' a b → Q 1 w') (h0 : ∀ w', BND w' → FR lJN w w' → ¬ okJ w b → Q 0 w') : p_Pl_joinss91 w a b Q := by
  have ga : 0 ≤ a.toInt ∧ a.toInt < 48 := ⟨a0, by omega⟩
  have b91 := bd_91_0 hI
  have B1 : BND (sI (sI w 96 a.toInt.toNat b) 97 a.toInt.toNat 0) := wbd_97 (wbd_96 hI _ b0 b1) _ (by decide) (by decide)
  have F1 : FR lJN w (sI (sI w 96 a.toInt.toNat b) 97 a.toInt.toNat 0) := FR.I (FR.I (FR.refl _ w) rfl) rfl
  have k6 : ∀ j, (sI (sI w 96 a.toInt.toNat b) 97 a.toInt.toNat 0).1 96 j = if j = a.toInt.toNat then b else w.1 96 j := fun j => by
    rw [sI_oth _ _ _ _ _ _ (by decide), sI_at]
    by_cases q : j = a.toInt.toNat
    · rw [if_pos q, if_pos ⟨rfl, q⟩]
    · rw [if_neg q, if_neg (fun z => q z.2)]
  have k7 : ∀ j, (sI (sI w 96 a.toInt.toNat b) 97 a.toInt.toNat 0).1 97 j = if j = a.toInt.toNat then 0 else w.1 97 j := fun j => by
    rw [sI_at]
    by_cases q : j = a.toInt.toNat
    · rw [if_pos q, if_pos ⟨rfl, q⟩]
    · rw [if_neg q, if_neg (fun z => q z.2), sI_oth _ _ _ _ _ _ (by decide)]
  have k4 : ∀ j, (sI (sI w 96 a.toInt.toNat b) 97 a.toInt.toNat 0).1 94 j = w.1 94 j := fun j => rfl
  have k8 : ∀ j, (sI (sI w 96 a.toInt.toNat b) 97 a.toInt.toNat 0).1 98 j = w.1 98 j := fun j => rfl
  refine Eq.mpr (p_Pl_joinss91.eq_1 _ _ _ _) ⟨ga, ga, fun c => ⟨fun ct => ?_, fun ct => ?_⟩, fun c => ?_⟩
  · exact h0 _ B1 F1 (fun q => by
      rcases q with q | q
      · exact c q
      · have := q.1
        omega)
  · have gb : 0 ≤ b.toInt ∧ b.toInt < 20 := ⟨by omega, by omega⟩
    have kb := bd_92 hI b.toInt.toNat
    have pb := pcn_c kb.1 kb.2
    have b94 := bd_94 hI b.toInt.toNat
    refine ⟨gb, gb, ⟨kb.1, by omega⟩, fun cp => ⟨gb, fun c9 => ⟨gb, gb, ?_⟩, fun c9 => ⟨gb, ga, gb, ?_⟩⟩, fun cp => ?_⟩
    · have ok : okJ w b := Or.inr ⟨by omega, cp⟩
      have cp2 : (w.1 94 b.toInt.toNat).toInt < pcn (w.1 92 b.toInt.toNat).toInt := cp
      have s := ti_add2 (Eq.refl (w.1 94 b.toInt.toNat).toInt) i_1 (by omega) (by omega)
      generalize (sI (sI w 96 a.toInt.toNat b) 97 a.toInt.toNat 0) = z at *
      refine h1 _ (wbd_94 B1 _ (by omega) (by omega)) (FR.I F1 rfl) ok ⟨fun j => ?_, fun j => ?_, fun j => ?_, fun j => ?_⟩
      · rw [sI_oth _ _ _ _ _ _ (by decide)]
        exact k6 j
      · rw [sI_oth _ _ _ _ _ _ (by decide), if_pos (Or.inr c9)]
        exact k7 j
      · rw [sI_at]
        by_cases q : j = b.toInt.toNat
        · rw [if_pos ⟨rfl, q⟩, if_pos ⟨c, q⟩]
        · rw [if_neg (fun y => q y.2), if_neg (fun y => q y.2)]
          exact k4 j
      · rw [sI_oth _ _ _ _ _ _ (by decide), if_neg (fun y => y.2.1 c9)]
        exact k8 j
    · have ok : okJ w b := Or.inr ⟨by omega, cp⟩
      have cp2 : (w.1 94 b.toInt.toNat).toInt < pcn (w.1 92 b.toInt.toNat).toInt := cp
      have p4 := pb.2 c9
      have s := ti_add2 (Eq.refl (w.1 94 b.toInt.toNat).toInt) i_1 (by omega) (by omega)
      have m := ti_mul2 (Eq.refl b.toInt) (by decide : ((4 : Int32)).toInt = 4) (by omega) (by omega)
      have s2 := ti_add2 m (Eq.refl (w.1 94 b.toInt.toNat).toInt) (by omega) (by omega)
      refine ⟨⟨by omega, by omega⟩, gb, gb, ?_⟩
      generalize (sI (sI w 96 a.toInt.toNat b) 97 a.toInt.toNat 0) = z at *
      refine h1 _ (wbd_94 (wbd_98 (wbd_97 B1 _ (by omega) (by omega)) _ (by omega) (by omega)) _ (by omega) (by omega)) (FR.I (FR.I (FR.I F1 rfl) rfl) rfl) ok ⟨fun j => ?_, fun j => ?_, fun j => ?_, fun j => ?_⟩
      · rw [sI_oth _ _ _ _ _ _ (by decide), sI_oth _ _ _ _ _ _ (by decide), sI_oth _ _ _ _ _ _ (by decide)]
        exact k6 j
      · rw [sI_oth _ _ _ _ _ _ (by decide), sI_oth _ _ _ _ _ _ (by decide), sI_at]
        have n9 : ¬ (b.toInt = -1 ∨ (w.1 92 b.toInt.toNat).toInt = 9) := fun y => by
          rcases y with y | y
          · exact c y
          · exact c9 y
        by_cases q : j = a.toInt.toNat
        · rw [if_pos ⟨rfl, q⟩, if_pos q, if_neg n9]
        · rw [if_neg (fun y => q y.2), if_neg q, k7 j, if_neg q]
      · rw [sI_at]
        by_cases q : j = b.toInt.toNat
        · rw [if_pos ⟨rfl, q⟩, if_pos ⟨c, q⟩]
        · rw [if_neg (fun y => q y.2), if_neg (fun y => q y.2), sI_oth _ _ _ _ _ _ (by decide), sI_oth _ _ _ _ _ _ (by decide)]
          exact k4 j
      · rw [sI_oth _ _ _ _ _ _ (by decide), sI_at]
        by_cases q : j = ((b * (4 : Int32)) + (w.1 94 b.toInt.toNat)).toInt.toNat
        · rw [if_pos ⟨rfl, q⟩, if_pos ⟨c, c9, by omega⟩]
        · rw [if_neg (fun y => q y.2), if_neg (fun y => q (by omega)), sI_oth _ _ _ _ _ _ (by decide)]
          exact k8 j
    · exact h0 _ B1 F1 (fun q => by
        rcases q with q | q
        · exact c q
        · exact cp q.2)
  · have cb : b.toInt = -1 := Classical.not_not.mp c
    refine h1 _ B1 F1 (Or.inl cb) ⟨k6, fun j => ?_, fun j => ?_, fun j => ?_⟩
    · rw [if_pos (Or.inl cb)]
      exact k7 j
    · rw [if_neg (fun y => y.1 cb)]
      exact k4 j
    · rw [if_neg (fun y => y.1 cb)]
      exact k8 j
/-! the class adds a pipe -/
def lAP : Pl := [(91, some 1), (94, none), (95, none), (96, none), (97, none), (98, none)]
/-- the pipe's first end was joined, then its second one -/
def AdP (w w' : MW) (a b l : Int32) : Prop := ∃ z1 z2 : MW, JnS (sI w 95 (w.1 91 1).toInt.toNat l) z1 (tI (2 * (w.1 91 1).toInt)) a ∧ FR lJN (sI w 95 (w.1 91 1).toInt.toNat l) z1 ∧ JnS z1 z2 (tI (2 * (w.1 91 1).toInt + 1)) b ∧ FR lJN z1 z2 ∧ w' = sI z2 91 1 ((w.1 91 1) + (1 : Int32))
/-- may the pipe be added? -/
def okP (w : MW) (a b l : Int32) : Prop := (w.1 91 1).toInt < 24 ∧ (1 ≤ l.toInt ∧ l.toInt ≤ 200) ∧ okJ w a ∧ (b.toInt = -1 ∨ (b.toInt < (w.1 91 0).toInt ∧ (w.1 94 b.toInt.toNat).toInt + (if a.toInt = b.toInt then 1 else 0) < pcn (w.1 92 b.toInt.toNat).toInt))
theorem okJ_95 {w : MW} {j : Nat} {v b : Int32} : okJ (sI w 95 j v) b ↔ okJ w b := Iff.rfl
theorem okJ_2 {w z : MW} {e a b : Int32} (hI : BND w) (ha : -1 ≤ a.toInt) (hb : -1 ≤ b.toInt) (ok : okJ w a) (hJ : JnS w z e a) (hF : FR lJN w z) : okJ z b ↔ (b.toInt = -1 ∨ (b.toInt < (w.1 91 0).toInt ∧ (w.1 94 b.toInt.toNat).toInt + (if a.toInt = b.toInt then 1 else 0) < pcn (w.1 92 b.toInt.toNat).toInt)) := by
  unfold okJ
  rw [(hF 91 0 rfl).1, (hF 92 b.toInt.toNat rfl).1, hJ.2.2.1 b.toInt.toNat]
  by_cases h1 : b.toInt = -1
  · exact ⟨fun _ => Or.inl h1, fun _ => Or.inl h1⟩
  · by_cases h2 : a.toInt = b.toInt
    · have k := bd_92 hI a.toInt.toNat
      have pk := pcn_c k.1 k.2
      have b9 := bd_94 hI a.toInt.toNat
      have o := ok.resolve_left (by omega)
      have o2 := o.2
      have s := ti_add2 (Eq.refl (w.1 94 a.toInt.toNat).toInt) i_1 (by omega) (by omega)
      rw [if_pos ⟨by omega, by rw [h2]⟩, if_pos h2, s, h2]
    · rw [if_neg (fun y => h2 (by omega)), if_neg h2, show (w.1 94 b.toInt.toNat).toInt + 0 = (w.1 94 b.toInt.toNat).toInt by omega]
theorem add_p {w : MW} {a b l : Int32} {Q : Int32 → MW → Prop} (hI : BND w) (a0 : -1 ≤ a.toInt) (a1 : a.toInt ≤ 9999999) (b0 : -1 ≤ b.toInt) (b1 : b.toInt ≤ 9999999) (h1 : ∀ w', BND w' → FR lAP w w' → okP w a b l → AdP w w' a b l → Q 1 w') (h0 : ∀ w', BND w' → FR lAP w w' → ¬ okP w a b l → Q 0 w') : p_Pl_addPipes91 w a b l Q := by
  have bp := bd_91_1 hI
  refine Eq.mpr (p_Pl_addPipes91.eq_1 _ _ _ _ _) ⟨fun c => h0 w hI (FR.refl _ w) (fun q => by have := q.1; omega), fun c => ⟨fun c1 => h0 w hI (FR.refl _ w) (fun q => by have := q.2.1; omega), fun c1 => ⟨fun c2 => ?_, fun c2 => h0 w hI (FR.refl _ w) (fun q => by have := q.2.1; omega)⟩⟩⟩
  have B1 : BND (sI w 95 (w.1 91 1).toInt.toNat l) := wbd_95 hI _ (by omega) c2
  have F1 : FR lAP w (sI w 95 (w.1 91 1).toInt.toNat l) := FR.I (FR.refl _ w) rfl
  have e1 : (sI w 95 (w.1 91 1).toInt.toNat l).1 91 1 = w.1 91 1 := rfl
  refine ⟨⟨by omega, by omega⟩, ?_⟩
  have m := ti_mul2 (by decide : ((2 : Int32)).toInt = 2) (Eq.refl (w.1 91 1).toInt) (by omega) (by omega)
  have em : (2 : Int32) * (w.1 91 1) = tI (2 * (w.1 91 1).toInt) := ti_inj (by rw [m, tI_t (by omega) (by omega)])
  have ms := ti_add2 m i_1 (by omega) (by omega)
  have em2 : (2 : Int32) * (w.1 91 1) + (1 : Int32) = tI (2 * (w.1 91 1).toInt + 1) := ti_inj (by rw [ms, tI_t (by omega) (by omega)])
  have t1 : (tI (2 * (w.1 91 1).toInt)).toInt = 2 * (w.1 91 1).toInt := tI_t (by omega) (by omega)
  have t2 : (tI (2 * (w.1 91 1).toInt + 1)).toInt = 2 * (w.1 91 1).toInt + 1 := tI_t (by omega) (by omega)
  show p_Pl_joinss91 (sI w 95 (w.1 91 1).toInt.toNat l) ((2 : Int32) * (w.1 91 1)) a _
  rw [em]
  refine jn_91 B1 (by omega) (by omega) a0 a1 (fun z1 Z1 G1 k1 j1 => ⟨fun y => absurd y (by decide), fun _ => ?_⟩) (fun z1 Z1 G1 k1 => ⟨fun _ => h0 z1 Z1 (F1.tr G1 rfl) (fun q => k1 q.2.2.1), fun y => absurd i_0 y⟩)
  have ez : z1.1 91 1 = w.1 91 1 := ((G1 91 1 rfl).1).trans e1
  rw [ez, em2]
  have o2 := okJ_2 (b := b) B1 a0 b0 k1 j1 G1
  refine jn_91 Z1 (by omega) (by omega) b0 b1 (fun z2 Z2 G2 k2 j2 => ⟨fun _ => ?_, fun y => absurd (by decide) y⟩) (fun z2 Z2 G2 k2 => ⟨fun y => absurd i_0 y, fun _ => h0 z2 Z2 ((F1.tr G1 rfl).tr G2 rfl) (fun q => k2 (o2.mpr q.2.2.2))⟩)
  have ez2 : z2.1 91 1 = w.1 91 1 := ((G2 91 1 rfl).1).trans ez
  have s := ti_add2 (Eq.refl (w.1 91 1).toInt) i_1 (by omega) (by omega)
  rw [ez2]
  exact h1 _ (wbd_91_1 Z2 (by omega) (by omega)) (FR.I ((F1.tr G1 rfl).tr G2 rfl) rfl) ⟨by omega, ⟨by omega, c2⟩, k1, o2.mp k2⟩ ⟨z1, z2, j1, G1, j2, G2, rfl⟩
/-! the class reads a line of a plant -/
def lat : Pl := [(91, some 10), (91, some 11)]
theorem cf_fr {l : Pl} {w w' : MW} (hF : FR l w w') (ho : off l [(1, some 2), (2, none)] = true) : cf w' = cf w := by
  funext p
  unfold cf
  rw [(hF 1 2 (off_hit ho rfl)).1, (hF 2 (p.toNat / 4) (off_hit ho rfl)).1]
/-- a world in which the reader stands at q -/
def RdA (w0 : MW) (w : MW) (q : Int) : Prop := BND w ∧ FR lat w0 w ∧ w.2.2 91 9 = some 1 ∧ (w.1 91 10).toInt = q
theorem rda_cf {w0 w : MW} {q : Int} (h : RdA w0 w q) : cf w = cf w0 := cf_fr h.2.1 rfl
theorem rda_tk {w0 w : MW} {p q : Int} (h : RdA w0 w p) (q0 : 0 ≤ q) (q1 : q ≤ 4000) : RdA w0 (sI w 91 10 (tI q)) q := by
  have t := tI_t (n := q) (by omega) (by omega)
  refine ⟨wbd_91_10 h.1 (by omega) (by omega), FR.I h.2.1 rfl, h.2.2.1, ?_⟩
  rw [sI_same, t]
theorem rda_nm {w0 w : MW} {p q v : Int} (h : RdA w0 w p) (v0 : -1 ≤ v) (v1 : v ≤ 9999999) (q0 : 0 ≤ q) (q1 : q ≤ 4000) : RdA w0 (sI (sI w 91 11 (tI v)) 91 10 (tI q)) q ∧ ((sI (sI w 91 11 (tI v)) 91 10 (tI q)).1 91 11).toInt = v := by
  have t := tI_t (n := q) (by omega) (by omega)
  have tv := tI_t (n := v) (by omega) (by omega)
  refine ⟨⟨wbd_91_10 (wbd_91_11 h.1 (by omega) (by omega)) (by omega) (by omega), FR.I (FR.I h.2.1 rfl) rfl, h.2.2.1, ?_⟩, ?_⟩
  · rw [sI_same, t]
  · rw [sI_ne _ _ _ _ _ (by decide), sI_same, tv]
/-- a line of a plant: what it tells (-1 where it is wrong), its numbers, and where the reader stands behind it -/
def lnN (f : Int → Int) (k : Int) (l : List Int) (p : Int) : Int × Int × Int × Int × Int := if (tks f l p).1 = true then (if (dgs f 7 0 0 (tks f l p).2).1 = 0 then (-1, 0, 0, 0, (dgs f 7 0 0 (tks f l p).2).2.2) else if f (dgs f 7 0 0 (tks f l p).2).2.2 = 10 then (k, (dgs f 7 0 0 (tks f l p).2).2.1, 0, 0, (dgs f 7 0 0 (tks f l p).2).2.2) else (-1, 0, 0, 0, (dgs f 7 0 0 (tks f l p).2).2.2)) else (-1, 0, 0, 0, (tks f l p).2)
theorem rl_num {w0 w : MW} {p : Int} {Q : Int32 → MW → Prop} (h : RdA w0 w p) (hQ : ∀ w', (w'.1 91 11).toInt = (dgs (cf w0) 7 0 0 p).2.1 → 0 ≤ (w'.1 91 11).toInt → RdA w0 w' (dgs (cf w0) 7 0 0 p).2.2 → Q (if (dgs (cf w0) 7 0 0 p).1 = 0 then 0 else 1) w') : p_Pl_takesNumbers91 w Q := by
  refine nx_91 h.1 h.2.2.1 (fun c v q h1 v0 v1 q0 q1 => ?_)
  rw [rda_cf h, h.2.2.2] at h1
  have g := rda_nm h (v := v) (q := q) (by omega) v1 q0 q1
  have k := hQ (sI (sI w 91 11 (tI v)) 91 10 (tI q)) (by rw [g.2, h1]) (by rw [g.2]; exact v0) (by rw [h1]; exact g.1)
  rw [h1] at k
  exact k
theorem rl_pe {w0 w : MW} {p : Int} {Q : Int32 → MW → Prop} (h : RdA w0 w p) (hQ : ∀ w', (w'.1 91 11).toInt = (pes (cf w0) p).2.1 → -1 ≤ (w'.1 91 11).toInt → RdA w0 w' (pes (cf w0) p).2.2 → Q (if (pes (cf w0) p).1 = true then 1 else 0) w') : p_Pl_takesPipeEnds91 w Q := by
  refine pe_91 h.1 h.2.2.1 (fun c v q h1 v0 v1 q0 q1 => ?_)
  rw [rda_cf h, h.2.2.2] at h1
  have g := rda_nm h (v := v) (q := q) (by omega) v1 q0 q1
  have k := hQ (sI (sI w 91 11 (tI v)) 91 10 (tI q)) (by rw [g.2, h1]) (by rw [g.2]; exact v0) (by rw [h1]; exact g.1)
  rw [h1] at k
  exact k
theorem rl_el {w0 w : MW} {p : Int} {Q : Int32 → MW → Prop} (h : RdA w0 w p) (h1 : cf w0 p = 10 → Q 1 w) (h0 : ¬ cf w0 p = 10 → Q 0 w) : p_Pl_endsLines91 w Q := by
  refine el_91 h.1 h.2.2.1 (fun c => h1 ?_) (fun c => h0 ?_)
  · rw [rda_cf h, h.2.2.2] at c
    exact c
  · rw [rda_cf h, h.2.2.2] at c
    exact c
theorem rl_at {w0 w : MW} {p : Int} {a : Int32} {Q : Int32 → MW → Prop} (h : RdA w0 w p) (hQ : ∀ r : Int32, r.toInt = cf w0 a.toInt → Q r w) : p_Tp_at w a Q := at_x h.1 (hQ _ (by rw [cv_cf, rda_cf h]))
theorem rl_tx1 {w0 w : MW} {p : Int} {Q : Int32 → MW → Prop} (h : RdA w0 w p) (hQ : ∀ w', RdA w0 w' (tks (cf w0) (ltr 1 5) p).2 → w'.1 91 11 = w.1 91 11 → Q (if (tks (cf w0) (ltr 1 5) p).1 = true then 1 else 0) w') : p_Pl_takess91_2001 w Q := by
  refine tx_2001 h.1 h.2.2.1 (fun b q h1 q0 q1 => ?_)
  rw [rda_cf h, h.2.2.2] at h1
  have k := hQ (sI w 91 10 (tI q)) (by rw [h1]; exact rda_tk h q0 q1) (sI_ne _ _ _ _ _ (by decide))
  rw [h1] at k
  exact k
theorem rl_tx2 {w0 w : MW} {p : Int} {Q : Int32 → MW → Prop} (h : RdA w0 w p) (hQ : ∀ w', RdA w0 w' (tks (cf w0) (ltr 2 6) p).2 → w'.1 91 11 = w.1 91 11 → Q (if (tks (cf w0) (ltr 2 6) p).1 = true then 1 else 0) w') : p_Pl_takess91_2002 w Q := by
  refine tx_2002 h.1 h.2.2.1 (fun b q h1 q0 q1 => ?_)
  rw [rda_cf h, h.2.2.2] at h1
  have k := hQ (sI w 91 10 (tI q)) (by rw [h1]; exact rda_tk h q0 q1) (sI_ne _ _ _ _ _ (by decide))
  rw [h1] at k
  exact k
theorem rl_tx3 {w0 w : MW} {p : Int} {Q : Int32 → MW → Prop} (h : RdA w0 w p) (hQ : ∀ w', RdA w0 w' (tks (cf w0) (ltr 3 4) p).2 → w'.1 91 11 = w.1 91 11 → Q (if (tks (cf w0) (ltr 3 4) p).1 = true then 1 else 0) w') : p_Pl_takess91_2003 w Q := by
  refine tx_2003 h.1 h.2.2.1 (fun b q h1 q0 q1 => ?_)
  rw [rda_cf h, h.2.2.2] at h1
  have k := hQ (sI w 91 10 (tI q)) (by rw [h1]; exact rda_tk h q0 q1) (sI_ne _ _ _ _ _ (by decide))
  rw [h1] at k
  exact k
theorem rl_tx4 {w0 w : MW} {p : Int} {Q : Int32 → MW → Prop} (h : RdA w0 w p) (hQ : ∀ w', RdA w0 w' (tks (cf w0) (ltr 4 5) p).2 → w'.1 91 11 = w.1 91 11 → Q (if (tks (cf w0) (ltr 4 5) p).1 = true then 1 else 0) w') : p_Pl_takess91_2004 w Q := by
  refine tx_2004 h.1 h.2.2.1 (fun b q h1 q0 q1 => ?_)
  rw [rda_cf h, h.2.2.2] at h1
  have k := hQ (sI w 91 10 (tI q)) (by rw [h1]; exact rda_tk h q0 q1) (sI_ne _ _ _ _ _ (by decide))
  rw [h1] at k
  exact k
theorem rl_tx5 {w0 w : MW} {p : Int} {Q : Int32 → MW → Prop} (h : RdA w0 w p) (hQ : ∀ w', RdA w0 w' (tks (cf w0) (ltr 5 1) p).2 → w'.1 91 11 = w.1 91 11 → Q (if (tks (cf w0) (ltr 5 1) p).1 = true then 1 else 0) w') : p_Pl_takess91_2005 w Q := by
  refine tx_2005 h.1 h.2.2.1 (fun b q h1 q0 q1 => ?_)
  rw [rda_cf h, h.2.2.2] at h1
  have k := hQ (sI w 91 10 (tI q)) (by rw [h1]; exact rda_tk h q0 q1) (sI_ne _ _ _ _ _ (by decide))
  rw [h1] at k
  exact k
/-! the class reads a line of a plant: what it tells -/
def L5 : Type := Int × Int × Int × Int × Int
def lnP5 (f : Int → Int) (a b q : Int) : Int × Int × Int × Int × Int := if (dgs f 7 0 0 q).1 = 0 then (-1, 0, 0, 0, (dgs f 7 0 0 q).2.2) else if f (dgs f 7 0 0 q).2.2 = 10 then (3, a, b, (dgs f 7 0 0 q).2.1, (dgs f 7 0 0 q).2.2) else (-1, 0, 0, 0, (dgs f 7 0 0 q).2.2)
def lnP4 (f : Int → Int) (a b q : Int) : Int × Int × Int × Int × Int := if (tks f (ltr 5 1) q).1 = true then lnP5 f a b (tks f (ltr 5 1) q).2 else (-1, 0, 0, 0, (tks f (ltr 5 1) q).2)
def lnP3 (f : Int → Int) (a q : Int) : Int × Int × Int × Int × Int := if (pes f q).1 = true then lnP4 f a (pes f q).2.1 (pes f q).2.2 else (-1, 0, 0, 0, (pes f q).2.2)
def lnP2 (f : Int → Int) (a q : Int) : Int × Int × Int × Int × Int := if (tks f (ltr 5 1) q).1 = true then lnP3 f a (tks f (ltr 5 1) q).2 else (-1, 0, 0, 0, (tks f (ltr 5 1) q).2)
def lnP1 (f : Int → Int) (q : Int) : Int × Int × Int × Int × Int := if (pes f q).1 = true then lnP2 f (pes f q).2.1 (pes f q).2.2 else (-1, 0, 0, 0, (pes f q).2.2)
def lnP (f : Int → Int) (p : Int) : Int × Int × Int × Int × Int := if (tks f (ltr 4 5) p).1 = true then lnP1 f (tks f (ltr 4 5) p).2 else (-1, 0, 0, 0, (tks f (ltr 4 5) p).2)
def lnU (f : Int → Int) (p : Int) : Int × Int × Int × Int × Int := if (tks f (ltr 3 4) p).1 = true then (if f (tks f (ltr 3 4) p).2 = 10 then (1, 0, 0, 0, (tks f (ltr 3 4) p).2) else (-1, 0, 0, 0, (tks f (ltr 3 4) p).2)) else (-1, 0, 0, 0, (tks f (ltr 3 4) p).2)
def lnS (f : Int → Int) (p : Int) : Int × Int × Int × Int × Int := if f p = 116 then lnN f 0 (ltr 1 5) p else if f p = 118 then lnN f 2 (ltr 2 6) p else if f p = 112 ∧ f (p + 1) = 117 then lnU f p else lnP f p
/-- what the line did to the plant -/
def RlE (w0 w' : MW) (r : Int32) (L : Int × Int × Int × Int × Int) : Prop := ∃ z, RdA w0 z L.2.2.2.2 ∧ BND w' ∧
  ((L.1 = -1 ∧ r = 0 ∧ w' = z) ∨
   (L.1 = 0 ∧ ((¬ (1 ≤ L.2.1 ∧ L.2.1 ≤ 100000 ∧ (z.1 91 0).toInt < 20) ∧ r = 0 ∧ w' = z) ∨ ((1 ≤ L.2.1 ∧ L.2.1 ≤ 100000 ∧ (z.1 91 0).toInt < 20) ∧ r = 1 ∧ AdT z w' 9 (tI L.2.1) ∧ FR lAT z w'))) ∨
   (L.1 = 1 ∧ ((¬ (z.1 91 0).toInt < 20 ∧ r = 0 ∧ w' = z) ∨ ((z.1 91 0).toInt < 20 ∧ r = 1 ∧ AdT z w' 8 0 ∧ FR lAT z w'))) ∨
   (L.1 = 2 ∧ ((¬ (L.2.1 ≤ 7 ∧ (z.1 91 0).toInt < 20) ∧ r = 0 ∧ w' = z) ∨ ((0 ≤ L.2.1 ∧ L.2.1 ≤ 7 ∧ (z.1 91 0).toInt < 20) ∧ r = 1 ∧ AdT z w' (tI L.2.1) 0 ∧ FR lAT z w'))) ∨
   (L.1 = 3 ∧ ((-1 ≤ L.2.1 ∧ L.2.1 ≤ 9999999) ∧ (-1 ≤ L.2.2.1 ∧ L.2.2.1 ≤ 9999999) ∧ (0 ≤ L.2.2.2.1 ∧ L.2.2.2.1 ≤ 9999999)) ∧ ((¬ okP z (tI L.2.1) (tI L.2.2.1) (tI L.2.2.2.1) ∧ r = 0 ∧ FR lAP z w') ∨ (okP z (tI L.2.1) (tI L.2.2.1) (tI L.2.2.2.1) ∧ r = 1 ∧ AdP z w' (tI L.2.1) (tI L.2.2.1) (tI L.2.2.2.1) ∧ FR lAP z w'))))
theorem rle_no {w0 z : MW} {q : Int} (h : RdA w0 z q) : RlE w0 z 0 (-1, 0, 0, 0, q) := ⟨z, h, h.1, Or.inl ⟨rfl, rfl, rfl⟩⟩
theorem rd_pipe {w0 w : MW} {p : Int} {Q : Int32 → MW → Prop} (h : RdA w0 w p) (hQ : ∀ r w', RlE w0 w' r (lnP1 (cf w0) p) → Q r w') : p_Pl_readPipes91 w Q := by
  refine Eq.mpr (p_Pl_readPipes91.eq_1 _ _) (rl_pe h (fun w1 n1 m1 h1 => ?_))
  by_cases c1 : ¬ (pes (cf w0) p).1 = true
  · have e : lnP1 (cf w0) p = (-1, 0, 0, 0, (pes (cf w0) p).2.2) := by unfold lnP1; rw [if_neg c1]
    rw [if_neg c1]
    exact ⟨fun y => absurd i_0 y, fun _ => hQ _ _ (by rw [e]; exact rle_no h1)⟩
  have c1 := Classical.not_not.mp c1
  have e1 : lnP1 (cf w0) p = lnP2 (cf w0) (pes (cf w0) p).2.1 (pes (cf w0) p).2.2 := by unfold lnP1; rw [if_pos c1]
  rw [if_pos c1]
  refine ⟨fun _ => ?_, fun y => absurd (by decide) y⟩
  generalize (pes (cf w0) p).2.1 = a at *
  generalize (pes (cf w0) p).2.2 = q1 at *
  refine rl_tx5 h1 (fun w3 h3 n3 => ?_)
  by_cases c3 : ¬ (tks (cf w0) (ltr 5 1) q1).1 = true
  · have e : lnP2 (cf w0) a q1 = (-1, 0, 0, 0, (tks (cf w0) (ltr 5 1) q1).2) := by unfold lnP2; rw [if_neg c3]
    rw [if_neg c3]
    exact ⟨fun _ => hQ _ _ (by rw [e1, e]; exact rle_no h3), fun y => absurd i_0 y⟩
  have c3 := Classical.not_not.mp c3
  have e3 : lnP2 (cf w0) a q1 = lnP3 (cf w0) a (tks (cf w0) (ltr 5 1) q1).2 := by unfold lnP2; rw [if_pos c3]
  rw [if_pos c3]
  refine ⟨fun y => absurd y (by decide), fun _ => ?_⟩
  generalize (tks (cf w0) (ltr 5 1) q1).2 = q3 at *
  refine rl_pe h3 (fun w5 n5 m5 h5 => ?_)
  by_cases c5 : ¬ (pes (cf w0) q3).1 = true
  · have e : lnP3 (cf w0) a q3 = (-1, 0, 0, 0, (pes (cf w0) q3).2.2) := by unfold lnP3; rw [if_neg c5]
    rw [if_neg c5]
    exact ⟨fun y => absurd i_0 y, fun _ => hQ _ _ (by rw [e1, e3, e]; exact rle_no h5)⟩
  have c5 := Classical.not_not.mp c5
  have e5 : lnP3 (cf w0) a q3 = lnP4 (cf w0) a (pes (cf w0) q3).2.1 (pes (cf w0) q3).2.2 := by unfold lnP3; rw [if_pos c5]
  rw [if_pos c5]
  refine ⟨fun _ => ?_, fun y => absurd (by decide) y⟩
  generalize (pes (cf w0) q3).2.1 = b at *
  generalize (pes (cf w0) q3).2.2 = q5 at *
  refine rl_tx5 h5 (fun w7 h7 n7 => ?_)
  by_cases c7 : ¬ (tks (cf w0) (ltr 5 1) q5).1 = true
  · have e : lnP4 (cf w0) a b q5 = (-1, 0, 0, 0, (tks (cf w0) (ltr 5 1) q5).2) := by unfold lnP4; rw [if_neg c7]
    rw [if_neg c7]
    exact ⟨fun _ => hQ _ _ (by rw [e1, e3, e5, e]; exact rle_no h7), fun y => absurd i_0 y⟩
  have c7 := Classical.not_not.mp c7
  have e7 : lnP4 (cf w0) a b q5 = lnP5 (cf w0) a b (tks (cf w0) (ltr 5 1) q5).2 := by unfold lnP4; rw [if_pos c7]
  rw [if_pos c7]
  refine ⟨fun y => absurd y (by decide), fun _ => ?_⟩
  generalize (tks (cf w0) (ltr 5 1) q5).2 = q7 at *
  refine rl_num h7 (fun w9 n9 m9 h9 => ?_)
  by_cases c9 : (dgs (cf w0) 7 0 0 q7).1 = 0
  · have e : lnP5 (cf w0) a b q7 = (-1, 0, 0, 0, (dgs (cf w0) 7 0 0 q7).2.2) := by unfold lnP5; rw [if_pos c9]
    rw [if_pos c9]
    exact ⟨fun _ => hQ _ _ (by rw [e1, e3, e5, e7, e]; exact rle_no h9), fun y => absurd i_0 y⟩
  have e9 : lnP5 (cf w0) a b q7 = if cf w0 (dgs (cf w0) 7 0 0 q7).2.2 = 10 then (3, a, b, (dgs (cf w0) 7 0 0 q7).2.1, (dgs (cf w0) 7 0 0 q7).2.2) else (-1, 0, 0, 0, (dgs (cf w0) 7 0 0 q7).2.2) := by unfold lnP5; rw [if_neg c9]
  rw [if_neg c9]
  refine ⟨fun y => absurd y (by decide), fun _ => ?_⟩
  generalize (dgs (cf w0) 7 0 0 q7).2.1 = l at *
  generalize (dgs (cf w0) 7 0 0 q7).2.2 = q9 at *
  refine rl_el h9 (fun ce => ⟨fun y => absurd y (by decide), fun _ => ?_⟩) (fun ce => ⟨fun _ => hQ _ _ (by rw [e1, e3, e5, e7, e9, if_neg ce]; exact rle_no h9), fun y => absurd i_0 y⟩)
  have eL : lnP1 (cf w0) p = (3, a, b, l, q9) := by rw [e1, e3, e5, e7, e9, if_pos ce]
  have ea : w1.1 91 11 = tI a := by rw [← n1, tI_of]
  have eb : w5.1 91 11 = tI b := by rw [← n5, tI_of]
  have el : w9.1 91 11 = tI l := by rw [← n9, tI_of]
  have b1 := bd_91_11 h1.1
  have b5 := bd_91_11 h5.1
  have b9 := bd_91_11 h9.1
  have bnds : (-1 ≤ a ∧ a ≤ 9999999) ∧ (-1 ≤ b ∧ b ≤ 9999999) ∧ (0 ≤ l ∧ l ≤ 9999999) := by omega
  rw [ea, eb, el]
  rw [ea] at m1 b1
  rw [eb] at m5 b5
  refine add_p h9.1 m1 b1.2 m5 b5.2 (fun w' B' F' ok ad => ⟨fun y => absurd y (by decide), fun _ => hQ _ _ ?_⟩) (fun w' B' F' no => ⟨fun _ => hQ _ _ ?_, fun y => absurd i_0 y⟩)
  · rw [eL]
    exact ⟨w9, h9, B', Or.inr (Or.inr (Or.inr (Or.inr ⟨rfl, bnds, Or.inr ⟨ok, rfl, ad, F'⟩⟩)))⟩
  · rw [eL]
    exact ⟨w9, h9, B', Or.inr (Or.inr (Or.inr (Or.inr ⟨rfl, bnds, Or.inl ⟨no, rfl, F'⟩⟩)))⟩
/-! the class reads a line of a plant: all of it -/
theorem rd_207 {w0 w : MW} {p : Int} {Q : Int32 → MW → Prop} (h : RdA w0 w p) (hQ : ∀ r w', RlE w0 w' r (lnP (cf w0) p) → Q r w') : q_Pl_readLines91_207 w Q := by
  refine Eq.mpr (q_Pl_readLines91_207.eq_1 _ _) (rl_tx4 h (fun w1 h1 n1 => ?_))
  by_cases c1 : ¬ (tks (cf w0) (ltr 4 5) p).1 = true
  · have e : lnP (cf w0) p = (-1, 0, 0, 0, (tks (cf w0) (ltr 4 5) p).2) := by unfold lnP; rw [if_neg c1]
    rw [if_neg c1]
    exact ⟨fun _ => hQ _ _ (by rw [e]; exact rle_no h1), fun y => absurd i_0 y⟩
  have c1 := Classical.not_not.mp c1
  have e : lnP (cf w0) p = lnP1 (cf w0) (tks (cf w0) (ltr 4 5) p).2 := by unfold lnP; rw [if_pos c1]
  rw [if_pos c1]
  refine ⟨fun y => absurd y (by decide), fun _ => rd_pipe h1 (fun r w' hr => ?_)⟩
  have g := hQ r w' (by rw [e]; exact hr)
  refine ⟨fun y => ?_, fun y => ?_⟩
  · have er : r = 0 := ti_inj (by rw [y]; exact i_0.symm)
    rw [er] at g
    exact g
  · have er : r = 1 := by
      obtain ⟨z, _, _, q⟩ := hr
      rcases q with q | q | q | q | q
      · exact absurd (by rw [q.2.1]; exact i_0) y
      · rcases q.2 with q | q
        · exact absurd (by rw [q.2.1]; exact i_0) y
        · exact q.2.1
      · rcases q.2 with q | q
        · exact absurd (by rw [q.2.1]; exact i_0) y
        · exact q.2.1
      · rcases q.2 with q | q
        · exact absurd (by rw [q.2.1]; exact i_0) y
        · exact q.2.1
      · rcases q.2.2 with q | q
        · exact absurd (by rw [q.2.1]; exact i_0) y
        · exact q.2.1
    rw [er] at g
    exact g
theorem rd_line {w : MW} {Q : Int32 → MW → Prop} (hI : BND w) (hr : w.2.2 91 9 = some 1) (hQ : ∀ r w', RlE w w' r (lnS (cf w) (w.1 91 10).toInt) → Q r w') : p_Pl_readLines91 w Q := by
  have h : RdA w w (w.1 91 10).toInt := ⟨hI, FR.refl _ w, hr, rfl⟩
  have b10 := bd_91_10 hI
  refine Eq.mpr (p_Pl_readLines91.eq_1 _ _) ⟨hr, rl_at h (fun r2 e2 => ⟨fun c2 => ⟨hr, rl_at h (fun r5 e5 => ⟨fun c5 => ⟨hr, rl_at h (fun r8 e8 => ⟨fun c8 => ?_, fun c8 => ⟨hr, rl_at h (fun r15 e15 => ⟨fun c15 => ?_, fun c15 => ?_⟩)⟩⟩)⟩, fun c5 => ?_⟩)⟩, fun c2 => ?_⟩)⟩
  · rw [e2] at c2
    rw [e5] at c5
    rw [e8] at c8
    refine rd_207 h (fun r w' q => hQ r w' ?_)
    unfold lnS
    rw [if_neg c2, if_neg c5, if_neg (fun y => c8 y.1)]
    exact q
  · rw [e2] at c2
    rw [e5] at c5
    have s := ti_add2 (Eq.refl (w.1 91 10).toInt) i_1 (by omega) (by omega)
    rw [e15, s] at c15
    refine rd_207 h (fun r w' q => hQ r w' ?_)
    unfold lnS
    rw [if_neg c2, if_neg c5, if_neg (fun y => c15 y.2)]
    exact q
  · rw [e2] at c2
    rw [e5] at c5
    rw [e8] at c8
    have s := ti_add2 (Eq.refl (w.1 91 10).toInt) i_1 (by omega) (by omega)
    rw [e15, s] at c15
    have eS : lnS (cf w) (w.1 91 10).toInt = lnU (cf w) (w.1 91 10).toInt := by
      unfold lnS
      rw [if_neg c2, if_neg c5, if_pos ⟨Classical.not_not.mp c8, Classical.not_not.mp c15⟩]
    rw [eS] at hQ
    refine rl_tx3 h (fun w1 h1 n1 => ?_)
    unfold lnU at hQ
    by_cases c1 : ¬ (tks (cf w) (ltr 3 4) (w.1 91 10).toInt).1 = true
    · rw [if_neg c1] at hQ
      rw [if_neg c1]
      exact ⟨fun _ => hQ _ _ (rle_no h1), fun y => absurd i_0 y⟩
    have c1 := Classical.not_not.mp c1
    rw [if_pos c1] at hQ
    rw [if_pos c1]
    refine ⟨fun y => absurd y (by decide), fun _ => rl_el h1 (fun ce => ⟨fun y => absurd y (by decide), fun _ => ?_⟩) (fun ce => ⟨fun _ => ?_, fun y => absurd i_0 y⟩)⟩
    · rw [if_pos ce] at hQ
      exact add_t h1.1 (by decide) (by decide) (by decide) (by decide) (fun w' B' F' k ad => ⟨fun y => absurd y (by decide), fun _ => hQ _ _ ⟨w1, h1, B', Or.inr (Or.inr (Or.inl ⟨rfl, Or.inr ⟨k, rfl, ad, F'⟩⟩))⟩⟩) (fun k => ⟨fun _ => hQ _ _ ⟨w1, h1, h1.1, Or.inr (Or.inr (Or.inl ⟨rfl, Or.inl ⟨k, rfl, rfl⟩⟩))⟩, fun y => absurd i_0 y⟩)
    · rw [if_neg ce] at hQ
      exact hQ _ _ (rle_no h1)
  · rw [e2] at c2
    rw [e5] at c5
    have eS : lnS (cf w) (w.1 91 10).toInt = lnN (cf w) 2 (ltr 2 6) (w.1 91 10).toInt := by
      unfold lnS
      rw [if_neg c2, if_pos (Classical.not_not.mp c5)]
    rw [eS] at hQ
    refine rl_tx2 h (fun w1 h1 n1 => ?_)
    unfold lnN at hQ
    by_cases c1 : ¬ (tks (cf w) (ltr 2 6) (w.1 91 10).toInt).1 = true
    · rw [if_neg c1] at hQ
      rw [if_neg c1]
      exact ⟨fun _ => hQ _ _ (rle_no h1), fun y => absurd i_0 y⟩
    have c1 := Classical.not_not.mp c1
    rw [if_pos c1] at hQ
    rw [if_pos c1]
    refine ⟨fun y => absurd y (by decide), fun _ => ?_⟩
    generalize (tks (cf w) (ltr 2 6) (w.1 91 10).toInt).2 = q1 at *
    refine rl_num h1 (fun w3 n3 m3 h3 => ?_)
    by_cases c3 : (dgs (cf w) 7 0 0 q1).1 = 0
    · rw [if_pos c3] at hQ
      rw [if_pos c3]
      exact ⟨fun _ => hQ _ _ (rle_no h3), fun y => absurd i_0 y⟩
    rw [if_neg c3] at hQ
    rw [if_neg c3]
    refine ⟨fun y => absurd y (by decide), fun _ => ?_⟩
    generalize (dgs (cf w) 7 0 0 q1).2.1 = v at *
    generalize (dgs (cf w) 7 0 0 q1).2.2 = q3 at *
    refine rl_el h3 (fun ce => ⟨fun y => absurd y (by decide), fun _ => ?_⟩) (fun ce => ⟨fun _ => ?_, fun y => absurd i_0 y⟩)
    · rw [if_pos ce] at hQ
      have ev : w3.1 91 11 = tI v := by rw [← n3, tI_of]
      refine ⟨fun c7 => hQ _ _ ⟨w3, h3, h3.1, Or.inr (Or.inr (Or.inr (Or.inl ⟨rfl, Or.inl ⟨fun y => ?_, rfl, rfl⟩⟩)))⟩, fun c7 => ?_⟩
      · have y1 : v ≤ 7 := y.1
        omega
      · rw [ev]
        have t : (tI v).toInt = v := by rw [← ev]; exact n3
        refine add_t h3.1 (by omega) (by omega) (by decide) (by decide) (fun w' B' F' k ad => ⟨fun y => absurd y (by decide), fun _ => hQ _ _ ⟨w3, h3, B', Or.inr (Or.inr (Or.inr (Or.inl ⟨rfl, Or.inr ⟨⟨?_, ?_, k⟩, rfl, ad, F'⟩⟩)))⟩⟩) (fun k => ⟨fun _ => hQ _ _ ⟨w3, h3, h3.1, Or.inr (Or.inr (Or.inr (Or.inl ⟨rfl, Or.inl ⟨fun y => k y.2, rfl, rfl⟩⟩)))⟩, fun y => absurd i_0 y⟩)
        · show 0 ≤ v
          omega
        · show v ≤ 7
          omega
    · rw [if_neg ce] at hQ
      exact hQ _ _ (rle_no h3)
  · rw [e2] at c2
    have eS : lnS (cf w) (w.1 91 10).toInt = lnN (cf w) 0 (ltr 1 5) (w.1 91 10).toInt := by
      unfold lnS
      rw [if_pos (Classical.not_not.mp c2)]
    rw [eS] at hQ
    refine rl_tx1 h (fun w1 h1 n1 => ?_)
    unfold lnN at hQ
    by_cases c1 : ¬ (tks (cf w) (ltr 1 5) (w.1 91 10).toInt).1 = true
    · rw [if_neg c1] at hQ
      rw [if_neg c1]
      exact ⟨fun _ => hQ _ _ (rle_no h1), fun y => absurd i_0 y⟩
    have c1 := Classical.not_not.mp c1
    rw [if_pos c1] at hQ
    rw [if_pos c1]
    refine ⟨fun y => absurd y (by decide), fun _ => ?_⟩
    generalize (tks (cf w) (ltr 1 5) (w.1 91 10).toInt).2 = q1 at *
    refine rl_num h1 (fun w3 n3 m3 h3 => ?_)
    by_cases c3 : (dgs (cf w) 7 0 0 q1).1 = 0
    · rw [if_pos c3] at hQ
      rw [if_pos c3]
      exact ⟨fun _ => hQ _ _ (rle_no h3), fun y => absurd i_0 y⟩
    rw [if_neg c3] at hQ
    rw [if_neg c3]
    refine ⟨fun y => absurd y (by decide), fun _ => ?_⟩
    generalize (dgs (cf w) 7 0 0 q1).2.1 = v at *
    generalize (dgs (cf w) 7 0 0 q1).2.2 = q3 at *
    refine rl_el h3 (fun ce => ⟨fun y => absurd y (by decide), fun _ => ?_⟩) (fun ce => ⟨fun _ => ?_, fun y => absurd i_0 y⟩)
    · rw [if_pos ce] at hQ
      have ev : w3.1 91 11 = tI v := by rw [← n3, tI_of]
      have t : (tI v).toInt = v := by rw [← ev]; exact n3
      refine ⟨fun c7 => hQ _ _ ⟨w3, h3, h3.1, Or.inr (Or.inl ⟨rfl, Or.inl ⟨fun y => ?_, rfl, rfl⟩⟩)⟩, fun c7 => ⟨fun c8 => hQ _ _ ⟨w3, h3, h3.1, Or.inr (Or.inl ⟨rfl, Or.inl ⟨fun y => ?_, rfl, rfl⟩⟩)⟩, fun c8 => ?_⟩⟩
      · have y1 : 1 ≤ v := y.1
        omega
      · have y1 : v ≤ 100000 := y.2.1
        omega
      · rw [ev]
        refine add_t h3.1 (by decide) (by decide) (by omega) (by omega) (fun w' B' F' k ad => ⟨fun y => absurd y (by decide), fun _ => hQ _ _ ⟨w3, h3, B', Or.inr (Or.inl ⟨rfl, Or.inr ⟨⟨?_, ?_, k⟩, rfl, ad, F'⟩⟩)⟩⟩) (fun k => ⟨fun _ => hQ _ _ ⟨w3, h3, h3.1, Or.inr (Or.inl ⟨rfl, Or.inl ⟨fun y => k y.2.2, rfl, rfl⟩⟩)⟩, fun y => absurd i_0 y⟩)
        · show 1 ≤ v
          omega
        · show v ≤ 100000
          omega
    · rw [if_neg ce] at hQ
      exact hQ _ _ (rle_no h3)
/-! the reference's letters and numbers as functions of the bytes -/
def hf (w : MW) (p : Int) : Int := if 0 ≤ p ∧ p < (w.1 127 22).toInt then (w.1 128 p.toNat).toInt else 0
theorem hv_hf (t : MW) {p : Int32} (h : 0 ≤ p.toInt) : (hv t p).toInt = hf t p.toInt := by
  unfold hv hf
  by_cases q : (t.1 127 22).toInt ≤ p.toInt
  · rw [if_pos q, if_neg (by omega)]
    exact i_0
  · rw [if_neg q, if_pos ⟨h, by omega⟩]
theorem hf_pos {w : MW} {p : Int} (h : ¬ hf w p = 0) : 0 ≤ p ∧ p < (w.1 127 22).toInt := by
  unfold hf at h
  by_cases q : 0 ≤ p ∧ p < (w.1 127 22).toInt
  · exact q
  · rw [if_neg q] at h
    exact absurd rfl h
def LTl : List Int → Int64 → Prop
  | [], l => (lg_cmp l (0 : Int64)).toInt = 0
  | c :: ls, l => ¬ (lg_cmp l (0 : Int64)).toInt = 0 ∧ (Int64.toInt32 (l &&& (255 : Int64))).toInt = c ∧ 1 ≤ c ∧ LTl ls (nx8 l)
theorem ov_tks {t : MW} (hl : (t.1 127 22).toInt ≤ 4000) : ∀ (ls : List Int) (l : Int64), LTl ls l → ∀ (p r q : Int32), 0 ≤ p.toInt → p.toInt ≤ 4000 → OV l t p r q → tks (hf t) ls p.toInt = (decide (¬ r.toInt = 0), q.toInt) ∧ 0 ≤ q.toInt ∧ q.toInt ≤ 4000 := by
  intro ls
  induction ls with
  | nil =>
    intro l hL p r q p0 p1 h
    obtain ⟨n, h⟩ := h
    cases n with
    | zero => exact absurd h (fun y => y)
    | succ n =>
      rcases h with ⟨_, e1, e2⟩ | ⟨c, _⟩ | ⟨c, _⟩
      · rw [e1, e2]
        refine ⟨?_, p0, p1⟩
        show (true, p.toInt) = _
        rfl
      · exact absurd hL c
      · exact absurd hL c
  | cons c ls ih =>
    intro l hL p r q p0 p1 h
    obtain ⟨n, h⟩ := h
    have e : tks (hf t) (c :: ls) p.toInt = if hf t p.toInt = c then tks (hf t) ls (p.toInt + 1) else (false, p.toInt) := rfl
    cases n with
    | zero => exact absurd h (fun y => y)
    | succ n =>
      rcases h with ⟨d, _⟩ | ⟨_, d, k⟩ | ⟨_, d, e1, e2⟩
      · exact absurd d hL.1
      · rw [hv_hf t p0, hL.2.1] at d
        have cp := hf_pos (w := t) (p := p.toInt) (by have := hL.2.2.1; omega)
        have s := ti_add2 (Eq.refl p.toInt) i_1 (by omega) (by omega)
        have g := ih (nx8 l) hL.2.2.2 (p + (1 : Int32)) r q (by omega) (by omega) ⟨n, k⟩
        rw [s] at g
        rw [e, if_pos d]
        exact g
      · rw [hv_hf t p0, hL.2.1] at d
        rw [e, if_neg d, e1, e2]
        refine ⟨?_, p0, p1⟩
        rfl
theorem lt_tank : LTl [116, 97, 110, 107] 1802396020 := by
  refine ⟨by decide, by decide, by decide, by decide, by decide, by decide, by decide, by decide, by decide, by decide, by decide, by decide, ?_⟩
  show (lg_cmp _ _).toInt = 0
  decide
theorem lt_valve : LTl [118, 97, 108, 118, 101] 435778511222 := by
  refine ⟨by decide, by decide, by decide, by decide, by decide, by decide, by decide, by decide, by decide, by decide, by decide, by decide, by decide, by decide, by decide, ?_⟩
  show (lg_cmp _ _).toInt = 0
  decide
theorem lt_p : LTl [112] 112 := by
  refine ⟨by decide, by decide, by decide, ?_⟩
  show (lg_cmp _ _).toInt = 0
  decide
theorem lt_ump : LTl [117, 109, 112] 7368053 := by
  refine ⟨by decide, by decide, by decide, by decide, by decide, by decide, by decide, by decide, by decide, ?_⟩
  show (lg_cmp _ _).toInt = 0
  decide
theorem lt_ipe : LTl [105, 112, 101] 6647913 := by
  refine ⟨by decide, by decide, by decide, by decide, by decide, by decide, by decide, by decide, by decide, ?_⟩
  show (lg_cmp _ _).toInt = 0
  decide
theorem lt_sp : LTl [32] 32 := by
  refine ⟨by decide, by decide, by decide, ?_⟩
  show (lg_cmp _ _).toInt = 0
  decide
theorem ltr_1 : ltr 1 5 = [116, 97, 110, 107] ++ [32] := by decide +kernel
theorem ltr_2 : ltr 2 6 = [118, 97, 108, 118, 101] ++ [32] := by decide +kernel
theorem ltr_3 : ltr 3 4 = [112] ++ [117, 109, 112] := by decide +kernel
theorem ltr_4 : ltr 4 5 = ([112] ++ [105, 112, 101]) ++ [32] := by decide +kernel
theorem ltr_5 : ltr 5 1 = [32] := by decide +kernel
/-- two byte functions that differ behind the end alone -/
def AgF (f g : Int → Int) : Prop := ∀ p, f p = g p ∨ (f p = -1 ∧ g p = 0)
theorem ag_c {f g : Int → Int} (h : AgF f g) {p c : Int} (hc : 1 ≤ c) : f p = c ↔ g p = c := by
  have := h p
  omega
theorem tks_ag {f g : Int → Int} (h : AgF f g) : ∀ (l : List Int), (∀ c ∈ l, 1 ≤ c) → ∀ p, tks f l p = tks g l p := by
  intro l
  induction l with
  | nil => intro _ p; rfl
  | cons c l ih =>
    intro hl p
    have e : ∀ f, tks f (c :: l) p = if f p = c then tks f l (p + 1) else (false, p) := fun _ => rfl
    have a := ag_c h (p := p) (hl c List.mem_cons_self)
    rw [e, e]
    by_cases q : f p = c
    · rw [if_pos q, if_pos (a.mp q), ih (fun d hd => hl d (List.mem_cons_of_mem _ hd))]
    · rw [if_neg q, if_neg (fun y => q (a.mpr y))]
theorem dgs_ag {f g : Int → Int} (h : AgF f g) : ∀ (n d : Nat) (v p : Int), dgs f n d v p = dgs g n d v p := by
  intro n
  induction n with
  | zero => intro d v p; rfl
  | succ n ih =>
    intro d v p
    have e : ∀ f, dgs f (n + 1) d v p = if (48 ≤ f p ∧ f p ≤ 57) ∧ (d = 0 ∨ 0 < v) then dgs f n (d + 1) (v * 10 + f p - 48) (p + 1) else (d, v, p) := fun _ => rfl
    rw [e, e]
    have a := h p
    by_cases q : (48 ≤ f p ∧ f p ≤ 57) ∧ (d = 0 ∨ 0 < v)
    · have ef : f p = g p := by omega
      rw [if_pos q, if_pos (by rw [← ef]; exact q), ih, ef]
    · rw [if_neg q, if_neg (fun y => q (by omega))]
/-! the reference's numbers as functions of the bytes -/
def ivD (d : Nat) (v : Int) : Prop := (d = 0 ∧ v = 0) ∨ (d = 1 ∧ 0 ≤ v ∧ v ≤ 9) ∨ (2 ≤ d ∧ 0 < v)
theorem p10 {d : Nat} (h : d ≤ 6) : (10 : Int) ^ d ≤ 1000000 := by
  have : d = 0 ∨ d = 1 ∨ d = 2 ∨ d = 3 ∨ d = 4 ∨ d = 5 ∨ d = 6 := by omega
  rcases this with rfl | rfl | rfl | rfl | rfl | rfl | rfl <;> decide
theorem p10b {d : Nat} (h : d ≤ 7) : (10 : Int) ^ d ≤ 10000000 := by
  have : d = 0 ∨ d = 1 ∨ d = 2 ∨ d = 3 ∨ d = 4 ∨ d = 5 ∨ d = 6 ∨ d = 7 := by omega
  rcases this with rfl | rfl | rfl | rfl | rfl | rfl | rfl | rfl <;> decide
theorem dg_dgs {t : MW} {o : Int32} (hl : (t.1 127 22).toInt ≤ 4000) (o0 : 0 ≤ o.toInt) (n : Nat) : ∀ (p v v' q : Int32) (d : Nat), p.toInt = o.toInt + (d : Int) → d ≤ 7 → p.toInt ≤ 4000 → ivD d v.toInt → v.toInt < 10 ^ d → DGn n o v t p v' q → dgs (hf t) (7 - d) d v.toInt p.toInt = ((q.toInt - o.toInt).toNat, v'.toInt, q.toInt) ∧ o.toInt ≤ q.toInt ∧ q.toInt ≤ 4000 ∧ 0 ≤ v'.toInt ∧ v'.toInt ≤ 9999999 := by
  induction n with
  | zero => intro p v v' q d _ _ _ _ _ h; exact absurd h (fun y => y)
  | succ n ih =>
    intro p v v' q d hp hd p1 hiv hv1 h
    have v0 : 0 ≤ v.toInt := by
      unfold ivD at hiv
      omega
    have pb := p10b hd
    have hs := ti_sub2 (Eq.refl p.toInt) (Eq.refl o.toInt) (by omega) (by omega)
    have fin : (d = 7 ∨ ¬ ((48 ≤ hf t p.toInt ∧ hf t p.toInt ≤ 57) ∧ (d = 0 ∨ 0 < v.toInt))) → dgs (hf t) (7 - d) d v.toInt p.toInt = (d, v.toInt, p.toInt) := fun c => by
      by_cases c7 : d = 7
      · subst c7
        rfl
      · have cc := c.resolve_left c7
        obtain ⟨m, em⟩ : ∃ m, 7 - d = m + 1 := ⟨6 - d, by omega⟩
        rw [em]
        show (if _ then _ else _) = _
        rw [if_neg cc]
    rcases h with ⟨st, e1, e2⟩ | ⟨st, k⟩
    · rw [e1, e2]
      refine ⟨?_, by omega, p1, v0, by omega⟩
      have ed : (p.toInt - o.toInt).toNat = d := by omega
      rw [ed]
      refine fin ?_
      unfold stopD at st
      rw [hv_hf t (by omega), hs] at st
      unfold ivD at hiv
      omega
    · unfold stopD at st
      rw [hv_hf t (by omega), hs] at st
      have cp := hf_pos (w := t) (p := p.toInt) (by omega)
      obtain ⟨m, em⟩ : ∃ m, 7 - d = m + 1 := ⟨6 - d, by omega⟩
      have cond : (48 ≤ hf t p.toInt ∧ hf t p.toInt ≤ 57) ∧ (d = 0 ∨ 0 < v.toInt) := by
        unfold ivD at hiv
        omega
      have h6 := p10 (d := d) (by omega)
      have s1 := ti_mul2 (by decide : ((10 : Int32)).toInt = 10) (Eq.refl v.toInt) (by omega) (by omega)
      have hh : (hv t p).toInt = hf t p.toInt := hv_hf t (by omega)
      have s2 := ti_add2 s1 hh (by omega) (by omega)
      have s3 := ti_sub2 s2 (by decide : ((48 : Int32)).toInt = 48) (by omega) (by omega)
      have s4 := ti_add2 (Eq.refl p.toInt) i_1 (by omega) (by omega)
      have hpw : (10 : Int) ^ (d + 1) = 10 ^ d * 10 := Int.pow_succ 10 d
      have g := ih (p + (1 : Int32)) ((((10 : Int32) * v) + hv t p) - (48 : Int32)) v' q (d + 1) (by omega) (by omega) (by omega) (by
        rw [s3]
        unfold ivD at hiv ⊢
        omega) (by rw [s3]; omega) k
      have e7 : 7 - (d + 1) = m := by omega
      rw [s3, s4, e7] at g
      refine ⟨?_, g.2⟩
      rw [em]
      show (if _ then _ else _) = _
      rw [if_pos cond]
      have ev : v.toInt * 10 + hf t p.toInt - 48 = 10 * v.toInt + hf t p.toInt - 48 := by omega
      rw [ev]
      exact g.1
/-- a word of a line: -2 where it is wrong -/
def nmS (f : Int → Int) (b : Bool) (p : Int) : Int × Int := if (tks f [32] p).1 = true then (if b = true ∧ f (tks f [32] p).2 = 45 then (-1, (tks f [32] p).2 + 1) else if (dgs f 7 0 0 (tks f [32] p).2).1 = 0 then (-2, (dgs f 7 0 0 (tks f [32] p).2).2.2) else ((dgs f 7 0 0 (tks f [32] p).2).2.1, (dgs f 7 0 0 (tks f [32] p).2).2.2)) else (-2, (tks f [32] p).2)
theorem nm_nmS {t : MW} (hl : (t.1 127 22).toInt ≤ 4000) {a p r q : Int32} (p0 : 0 ≤ p.toInt) (p1 : p.toInt ≤ 4000) (h : NM a t p r q) : nmS (hf t) (decide (¬ a.toInt = 0)) p.toInt = (r.toInt, q.toInt) ∧ 0 ≤ q.toInt ∧ q.toInt ≤ 4000 ∧ -2 ≤ r.toInt ∧ r.toInt ≤ 9999999 := by
  obtain ⟨r1, q1, ho, h⟩ := h
  have k := ov_tks hl [32] 32 lt_sp p r1 q1 p0 p1 ho
  have m2 : ((-2 : Int32)).toInt = -2 := by decide
  unfold nmS
  rw [k.1]
  rcases h with ⟨c, e1, e2⟩ | ⟨c, ⟨c2, c3⟩, e1, e2⟩ | ⟨c, c2, n, v, hd, h⟩
  · rw [if_neg (by show ¬ decide (¬ r1.toInt = 0) = true; rw [decide_eq_false (fun y => y c)]; decide), e1, e2, m2]
    exact ⟨rfl, k.2.1, k.2.2, by omega, by omega⟩
  · rw [hv_hf t k.2.1] at c3
    have cp := hf_pos (w := t) (p := q1.toInt) (by omega)
    have s := ti_add2 (Eq.refl q1.toInt) i_1 (by omega) (by omega)
    rw [if_pos (show decide (¬ r1.toInt = 0) = true from decide_eq_true c), if_pos ⟨decide_eq_true c2, c3⟩, e1, e2, i_m1, s]
    exact ⟨rfl, by omega, by omega, by omega, by omega⟩
  · have g := dg_dgs hl k.2.1 n q1 0 v q 0 (by omega) (by omega) k.2.2 (Or.inl ⟨rfl, i_0⟩) (by rw [i_0]; decide) hd
    have e0 : ((0 : Int32)).toInt = 0 := i_0
    rw [e0] at g
    have n45 : ¬ (decide (¬ a.toInt = 0) = true ∧ hf t q1.toInt = 45) := fun y => c2 ⟨of_decide_eq_true y.1, by rw [hv_hf t k.2.1]; exact y.2⟩
    rw [if_pos (show decide (¬ r1.toInt = 0) = true from decide_eq_true c), if_neg n45]
    show (if (dgs (hf t) (7 - 0) 0 0 q1.toInt).1 = 0 then _ else _) = _ ∧ _
    rw [show dgs (hf t) 7 0 0 q1.toInt = dgs (hf t) (7 - 0) 0 0 q1.toInt from rfl, g.1]
    rcases h with ⟨z, e1⟩ | ⟨z, e1⟩
    · rw [if_neg (by show ¬ (q.toInt - q1.toInt).toNat = 0; omega), e1]
      exact ⟨rfl, by omega, g.2.2.1, by omega, g.2.2.2.2⟩
    · rw [if_pos (by show (q.toInt - q1.toInt).toNat = 0; omega), e1, m2]
      exact ⟨rfl, by omega, g.2.2.1, by omega, by omega⟩
/-! a line as the reference reads it is the line as the class reads it -/
/-- the reference's answer of a line, with its words, tells what L tells -/
def LnE (r q : Int32) (a : Nat → Int32) (L : Int × Int × Int × Int × Int) : Prop := L.2.2.2.2 = q.toInt ∧ ((r.toInt = -1 ∧ L.1 = -1) ∨ (r.toInt = 0 ∧ L.1 = 0 ∧ L.2.1 = (a 0).toInt) ∨ (r.toInt = 1 ∧ L.1 = 1) ∨ (r.toInt = 2 ∧ L.1 = 2 ∧ L.2.1 = (a 0).toInt) ∨ (r.toInt = 3 ∧ L.1 = 3 ∧ L.2.1 = (a 0).toInt ∧ L.2.2.1 = (a 1).toInt ∧ L.2.2.2.1 = (a 2).toInt))
theorem wr_0 {t : MW} {k p q f : Int32} {a : Nat → Int32} {m : Nat} (h : WRn m k 0 0 t p f q a) : f = 1 ∧ q = p := by
  cases m with
  | zero => exact absurd h (fun y => y)
  | succ m =>
    rcases h with ⟨_, e1, e2⟩ | ⟨c, _⟩
    · exact ⟨e1, e2⟩
    · exact absurd (Int.le_refl _) c
theorem wr_1 {t : MW} {k p q f cnt i : Int32} {a : Nat → Int32} {m : Nat} (h : WRn m k cnt i t p f q a) (c : ¬ cnt.toInt ≤ i.toInt) : ∃ p1 : Int32, NM (aN k i) t p (a i.toInt.toNat) p1 ∧ (((a i.toInt.toNat).toInt = -2 ∧ f = 0 ∧ q = p1) ∨ (¬ (a i.toInt.toNat).toInt = -2 ∧ ∃ m, WRn m k cnt (i + (1 : Int32)) t p1 f q a)) := by
  cases m with
  | zero => exact absurd h (fun y => y)
  | succ m =>
    rcases h with ⟨c2, _⟩ | ⟨_, p1, h1, h2⟩
    · exact absurd c2 c
    · refine ⟨p1, h1, ?_⟩
      rcases h2 with h2 | h2
      · exact Or.inl h2
      · exact Or.inr ⟨h2.1, m, h2.2⟩
theorem wr_e {t : MW} {k p q f cnt i : Int32} {a : Nat → Int32} {m : Nat} (h : WRn m k cnt i t p f q a) (c : cnt.toInt ≤ i.toInt) : f = 1 ∧ q = p := by
  cases m with
  | zero => exact absurd h (fun y => y)
  | succ m =>
    rcases h with ⟨_, e1, e2⟩ | ⟨c2, _⟩
    · exact ⟨e1, e2⟩
    · exact absurd c c2
theorem dgs_v (f : Int → Int) : ∀ (n d : Nat) (v p : Int), 0 ≤ v → 0 ≤ (dgs f n d v p).2.1 := by
  intro n
  induction n with
  | zero => intro d v p h; exact h
  | succ n ih =>
    intro d v p h
    have e : dgs f (n + 1) d v p = if (48 ≤ f p ∧ f p ≤ 57) ∧ (d = 0 ∨ 0 < v) then dgs f n (d + 1) (v * 10 + f p - 48) (p + 1) else (d, v, p) := rfl
    rw [e]
    by_cases q : (48 ≤ f p ∧ f p ≤ 57) ∧ (d = 0 ∨ 0 < v)
    · rw [if_pos q]
      exact ih _ _ _ (by omega)
    · rw [if_neg q]
      exact h
/-- one word behind letters: as the class has it -/
theorem ln_one {f : Int → Int} {ls : List Int} {k p p1 q v : Int} (h1 : tks f ls p = (true, p1)) (hp : p1 = p + ls.length) (h2 : nmS f false p1 = (v, q)) (hv : -2 ≤ v) : (v = -2 → lnN f k (ls ++ [32]) p = (-1, 0, 0, 0, q)) ∧ (¬ v = -2 → lnN f k (ls ++ [32]) p = if f q = 10 then (k, v, 0, 0, q) else (-1, 0, 0, 0, q)) := by
  have e := tks_st f ls [32] p (by rw [h1])
  rw [← hp] at e
  unfold lnN
  rw [e]
  unfold nmS at h2
  by_cases c1 : (tks f [32] p1).1 = true
  · rw [if_pos c1] at h2
    rw [if_neg (fun y => absurd y.1 (by decide))] at h2
    rw [if_pos c1]
    by_cases c2 : (dgs f 7 0 0 (tks f [32] p1).2).1 = 0
    · rw [if_pos c2] at h2
      rw [if_pos c2]
      have e1 : (-2 : Int) = v := congrArg Prod.fst h2
      have e2 : (dgs f 7 0 0 (tks f [32] p1).2).2.2 = q := congrArg Prod.snd h2
      exact ⟨fun _ => by rw [e2], fun y => absurd e1.symm y⟩
    · rw [if_neg c2] at h2
      rw [if_neg c2]
      have e1 : (dgs f 7 0 0 (tks f [32] p1).2).2.1 = v := congrArg Prod.fst h2
      have e2 : (dgs f 7 0 0 (tks f [32] p1).2).2.2 = q := congrArg Prod.snd h2
      have vn : 0 ≤ (dgs f 7 0 0 (tks f [32] p1).2).2.1 := dgs_v f 7 0 0 _ (Int.le_refl _)
      rw [e1, e2]
      rw [e1] at vn
      exact ⟨fun y => by omega, fun _ => rfl⟩
  · rw [if_neg c1] at h2
    rw [if_neg c1]
    have e1 : (-2 : Int) = v := congrArg Prod.fst h2
    have e2 : (tks f [32] p1).2 = q := congrArg Prod.snd h2
    exact ⟨fun _ => by rw [e2], fun y => absurd e1.symm y⟩
/-! a line as the reference reads it is the line as the class reads it: all kinds -/
theorem tks_t (f : Int → Int) : ∀ (l : List Int) (p q : Int), tks f l p = (true, q) → q = p + l.length := by
  intro l
  induction l with
  | nil =>
    intro p q h
    have : p = q := congrArg Prod.snd h
    show q = p + ((0 : Nat) : Int)
    omega
  | cons c l ih =>
    intro p q h
    have e : tks f (c :: l) p = if f p = c then tks f l (p + 1) else (false, p) := rfl
    rw [e] at h
    have hl : ((c :: l).length : Int) = (l.length : Int) + 1 := by rw [List.length_cons]; rfl
    by_cases k : f p = c
    · rw [if_pos k] at h
      have := ih (p + 1) q h
      omega
    · rw [if_neg k] at h
      exact absurd (show false = true from congrArg Prod.fst h) (by decide)
/-- a pipe's three words -/
def lnW3 (f : Int → Int) (a b p : Int) : Int × Int × Int × Int × Int := if (nmS f false p).1 = -2 then (-1, 0, 0, 0, (nmS f false p).2) else if f (nmS f false p).2 = 10 then (3, a, b, (nmS f false p).1, (nmS f false p).2) else (-1, 0, 0, 0, (nmS f false p).2)
def lnW2 (f : Int → Int) (a p : Int) : Int × Int × Int × Int × Int := if (nmS f true p).1 = -2 then (-1, 0, 0, 0, (nmS f true p).2) else lnW3 f a (nmS f true p).1 (nmS f true p).2
def lnW1 (f : Int → Int) (p : Int) : Int × Int × Int × Int × Int := if (nmS f true p).1 = -2 then (-1, 0, 0, 0, (nmS f true p).2) else lnW2 f (nmS f true p).1 (nmS f true p).2
theorem nm_pes (f : Int → Int) (p : Int) : nmS f true p = if (tks f [32] p).1 = true then (if (pes f (tks f [32] p).2).1 = true then ((pes f (tks f [32] p).2).2.1, (pes f (tks f [32] p).2).2.2) else (-2, (pes f (tks f [32] p).2).2.2)) else (-2, (tks f [32] p).2) := by
  unfold nmS pes
  by_cases c1 : (tks f [32] p).1 = true
  · rw [if_pos c1, if_pos c1]
    by_cases c2 : f (tks f [32] p).2 = 45
    · rw [if_pos ⟨rfl, c2⟩, if_pos c2, if_pos rfl]
    · rw [if_neg (fun y => c2 y.2), if_neg c2]
      by_cases c3 : (dgs f 7 0 0 (tks f [32] p).2).1 = 0
      · rw [if_pos c3, if_neg (by show ¬ decide (¬ (dgs f 7 0 0 (tks f [32] p).2).1 = 0) = true; rw [decide_eq_false (fun y => y c3)]; decide)]
      · rw [if_neg c3, if_pos (show decide (¬ (dgs f 7 0 0 (tks f [32] p).2).1 = 0) = true from decide_eq_true c3)]
  · rw [if_neg c1, if_neg c1]
theorem pes_v (f : Int → Int) (p : Int) : -1 ≤ (pes f p).2.1 := by
  unfold pes
  by_cases c : f p = 45
  · rw [if_pos c]
    show (-1 : Int) ≤ -1
    omega
  · rw [if_neg c]
    have := dgs_v f 7 0 0 p (Int.le_refl _)
    show -1 ≤ (dgs f 7 0 0 p).2.1
    omega
theorem lw3 (f : Int → Int) (a b p : Int) : lnP4 f a b p = lnW3 f a b p := by
  unfold lnP4 lnW3 lnP5 nmS
  rw [ltr_5]
  by_cases c1 : (tks f [32] p).1 = true
  · rw [if_pos c1, if_pos c1]
    rw [if_neg (fun y : false = true ∧ _ => absurd y.1 (by decide))]
    by_cases c2 : (dgs f 7 0 0 (tks f [32] p).2).1 = 0
    · rw [if_pos c2, if_pos c2, if_pos rfl]
    · have vn := dgs_v f 7 0 0 (tks f [32] p).2 (Int.le_refl _)
      rw [if_neg c2, if_neg c2, if_neg (show ¬ (dgs f 7 0 0 (tks f [32] p).2).2.1 = -2 by omega)]
  · rw [if_neg c1, if_neg c1, if_pos rfl]
theorem lw2 (f : Int → Int) (a p : Int) : lnP2 f a p = lnW2 f a p := by
  unfold lnP2 lnW2 lnP3
  rw [nm_pes, ltr_5]
  by_cases c1 : (tks f [32] p).1 = true
  · rw [if_pos c1, if_pos c1]
    by_cases c2 : (pes f (tks f [32] p).2).1 = true
    · have vn := pes_v f (tks f [32] p).2
      rw [if_pos c2, if_pos c2, if_neg (show ¬ (pes f (tks f [32] p).2).2.1 = -2 by omega), lw3]
    · rw [if_neg c2, if_neg c2, if_pos rfl]
  · rw [if_neg c1, if_neg c1, if_pos rfl]
theorem lw1 (f : Int → Int) (ls : List Int) (p p1 : Int) (h : tks f ls p = (true, p1)) (e : ltr 4 5 = ls ++ [32]) : lnP f p = lnW1 f p1 := by
  have hp := tks_t f ls p p1 h
  have st := tks_st f ls [32] p (by rw [h])
  rw [← hp] at st
  unfold lnP lnW1 lnP1
  rw [nm_pes, e, st]
  by_cases c1 : (tks f [32] p1).1 = true
  · rw [if_pos c1, if_pos c1]
    by_cases c2 : (pes f (tks f [32] p1).2).1 = true
    · have vn := pes_v f (tks f [32] p1).2
      rw [if_pos c2, if_pos c2, if_neg (show ¬ (pes f (tks f [32] p1).2).2.1 = -2 by omega), lw2]
    · rw [if_neg c2, if_neg c2, if_pos rfl]
  · rw [if_neg c1, if_neg c1, if_pos rfl]
/-! a line of a plant is the same to both sides -/
theorem dz {b : Bool} {r : Int32} {q : Int} {x : Bool × Int} (h : x = (decide (¬ r.toInt = 0), q)) : (r.toInt = 0 → x = (false, q)) ∧ (¬ r.toInt = 0 → x = (true, q)) := by
  refine ⟨fun c => ?_, fun c => ?_⟩
  · rw [h, decide_eq_false (fun y => y c)]
  · rw [h, decide_eq_true c]
theorem a30 : aN 3 0 = 1 := by decide
theorem a31 : aN 3 1 = 1 := by decide
theorem a32 : aN 3 2 = 0 := by decide
theorem a00 : aN 0 0 = 0 := by decide
theorem a20 : aN 2 0 = 0 := by decide
theorem cn_m : cnt_ (-1) = 0 := by decide
theorem cn_0 : cnt_ 0 = 1 := by decide
theorem cn_1 : cnt_ 1 = 0 := by decide
theorem cn_2 : cnt_ 2 = 1 := by decide
theorem cn_3 : cnt_ 3 = 3 := by decide
theorem ne01 : ¬ ((0 : Int32) = 1) := by decide
/-- a line with one word -/
theorem pl_one {t : MW} (hl : (t.1 127 22).toInt ≤ 4000) {p p1 r q k : Int32} {a : Nat → Int32} {ls : List Int} (hk : k = 0 ∨ k = 2) (p0 : 0 ≤ p.toInt) (q0 : 0 ≤ p1.toInt) (q1 : p1.toInt ≤ 4000) (h1 : tks (hf t) ls p.toInt = (true, p1.toInt)) (h : (∃ m, WRn m k (cnt_ k) 0 t p1 0 q a) ∧ r = -1 ∨ (∃ m, WRn m k (cnt_ k) 0 t p1 1 q a) ∧ ((k.toInt = -1 ∧ r = -1) ∨ (¬ k.toInt = -1 ∧ ¬ (hv t q).toInt = 10 ∧ r = -1) ∨ (¬ k.toInt = -1 ∧ (hv t q).toInt = 10 ∧ r = k))) : LnE r q a (lnN (hf t) k.toInt (ls ++ [32]) p.toInt) ∧ 0 ≤ q.toInt ∧ q.toInt ≤ 4000 := by
  have ec : cnt_ k = 1 := by rcases hk with e | e <;> rw [e] <;> decide
  have ea : aN k 0 = 0 := by rcases hk with e | e <;> rw [e] <;> decide
  have kt : k.toInt = 0 ∨ k.toInt = 2 := by rcases hk with e | e <;> rw [e] <;> decide
  have hp := tks_t _ _ _ _ h1
  rw [ec] at h
  have one : ∀ f, (∃ m, WRn m k 1 0 t p1 f q a) → (0 ≤ q.toInt ∧ q.toInt ≤ 4000) ∧ ((f = 0 ∧ lnN (hf t) k.toInt (ls ++ [32]) p.toInt = (-1, 0, 0, 0, q.toInt)) ∨ (f = 1 ∧ lnN (hf t) k.toInt (ls ++ [32]) p.toInt = if hf t q.toInt = 10 then (k.toInt, (a 0).toInt, 0, 0, q.toInt) else (-1, 0, 0, 0, q.toInt))) := fun f hm => by
    obtain ⟨m, hm⟩ := hm
    obtain ⟨p2, hn, hh⟩ := wr_1 hm (by decide)
    rw [ea] at hn
    have e0 : (0 : Int32).toInt.toNat = 0 := by decide
    rw [e0] at hn hh
    have g := nm_nmS hl q0 q1 hn
    have eb : decide (¬ ((0 : Int32)).toInt = 0) = false := by decide
    rw [eb] at g
    have L := ln_one (k := k.toInt) h1 hp g.1 g.2.2.2.1
    rcases hh with ⟨c, e1, e2⟩ | ⟨c, m2, hm2⟩
    · rw [e2]
      exact ⟨g.2.1 |> fun x => ⟨x, g.2.2.1⟩, Or.inl ⟨e1, L.1 c⟩⟩
    · have ee := wr_e hm2 (by decide)
      rw [ee.2]
      exact ⟨⟨g.2.1, g.2.2.1⟩, Or.inr ⟨ee.1, L.2 c⟩⟩
  rcases h with ⟨hm, er⟩ | ⟨hm, hh⟩
  · have o := one 0 hm
    refine ⟨?_, o.1⟩
    rcases o.2 with ⟨_, e⟩ | ⟨e, _⟩
    · rw [e, er]
      exact ⟨rfl, Or.inl ⟨i_m1, rfl⟩⟩
    · exact absurd e ne01
  · have o := one 1 hm
    refine ⟨?_, o.1⟩
    rcases o.2 with ⟨e, _⟩ | ⟨_, e⟩
    · exact absurd e.symm ne01
    · rw [e]
      rcases hh with ⟨c, _⟩ | ⟨_, c, er⟩ | ⟨_, c, er⟩
      · omega
      · rw [hv_hf t o.1.1] at c
        rw [if_neg c, er]
        exact ⟨rfl, Or.inl ⟨i_m1, rfl⟩⟩
      · rw [hv_hf t o.1.1] at c
        rw [if_pos c, er]
        rcases kt with kk | kk
        · exact ⟨rfl, Or.inr (Or.inl ⟨kk, kk, rfl⟩)⟩
        · exact ⟨rfl, Or.inr (Or.inr (Or.inr (Or.inl ⟨kk, kk, rfl⟩)))⟩
/-- a line that is wrong in its letters -/
theorem pl_bad {t : MW} {p1 r q : Int32} {a : Nat → Int32} (h : (∃ m, WRn m (-1) (cnt_ (-1)) 0 t p1 0 q a) ∧ r = -1 ∨ (∃ m, WRn m (-1) (cnt_ (-1)) 0 t p1 1 q a) ∧ ((((-1 : Int32)).toInt = -1 ∧ r = -1) ∨ (¬ ((-1 : Int32)).toInt = -1 ∧ ¬ (hv t q).toInt = 10 ∧ r = -1) ∨ (¬ ((-1 : Int32)).toInt = -1 ∧ (hv t q).toInt = 10 ∧ r = -1))) : r = -1 ∧ q = p1 := by
  rw [cn_m] at h
  rcases h with ⟨⟨m, hm⟩, e⟩ | ⟨⟨m, hm⟩, e⟩
  · exact ⟨e, (wr_0 hm).2⟩
  · refine ⟨?_, (wr_0 hm).2⟩
    rcases e with e | e | e
    · exact e.2
    · exact e.2.2
    · exact e.2.2
theorem ln_bad {t : MW} {r q p1 : Int32} {a : Nat → Int32} (h : r = -1 ∧ q = p1) : LnE r q a (-1, 0, 0, 0, p1.toInt) := by
  rw [h.1, h.2]
  exact ⟨rfl, Or.inl ⟨i_m1, rfl⟩⟩
