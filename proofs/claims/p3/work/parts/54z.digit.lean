/-! the reference's text: a number that is read is not negative -/
theorem li_add {x y : Int64} {a b : Int} (hx : x.toInt = a) (hy : y.toInt = b) (h1 : -9223372036854775808 ≤ a + b) (h2 : a + b ≤ 9223372036854775807) : (x + y).toInt = a + b := by
  rw [Int64.toInt_add, hx, hy, Int.bmod_eq_of_le (by omega) (by omega)]
theorem li_sub {x y : Int64} {a b : Int} (hx : x.toInt = a) (hy : y.toInt = b) (h1 : -9223372036854775808 ≤ a - b) (h2 : a - b ≤ 9223372036854775807) : (x - y).toInt = a - b := by
  rw [Int64.toInt_sub, hx, hy, Int.bmod_eq_of_le (by omega) (by omega)]
theorem li_mul {x y : Int64} {a b : Int} (hx : x.toInt = a) (hy : y.toInt = b) (h1 : -9223372036854775808 ≤ a * b) (h2 : a * b ≤ 9223372036854775807) : (x * y).toInt = a * b := by
  rw [Int64.toInt_mul, hx, hy, Int.bmod_eq_of_le (by omega) (by omega)]
def VG (w : MW) : Prop := 0 ≤ (w.2.1 129 8).toInt
theorem pw_9 : ∀ k : Nat, k ≤ 9 → (10 : Int) ^ k ≤ 1000000000 := by
  intro k hk
  have : ∀ j : Fin 10, (10 : Int) ^ j.val ≤ 1000000000 := by decide
  exact this ⟨k, by omega⟩
theorem d_5 {E Q : MW → Prop} (n : Nat) : ∀ (w : MW), BND w → PZ w → (w.1 129 5).toInt ≤ (w.1 129 2).toInt → (w.1 129 2).toInt ≤ (w.1 129 5).toInt + 9 → 0 ≤ (w.2.1 129 8).toInt → (w.2.1 129 8).toInt < (10 : Int) ^ ((w.1 129 2).toInt - (w.1 129 5).toInt).toNat → (4020 - (w.1 129 2).toInt).toNat < n → (∀ (w' : MW), BND w' → FR l_Tx_digits_5 w w' → PZ w' → 0 ≤ (w'.2.1 129 8).toInt → (w'.2.1 129 8).toInt ≤ 1000000000 → E w') → q_Tx_digits_5 E Q n w := by
  induction n with
  | zero => intros; omega
  | succ n ih =>
    intro w hI hZ hb hc v0 v1 hm hE
    have b1 := bd_129_1 hI
    have b2 := bd_129_2 hI
    have b5 := bd_129_5 hI
    have hp := pw_9 ((w.1 129 2).toInt - (w.1 129 5).toInt).toNat (by omega)
    have hZ' : (w.1 129 2).toInt ≤ (w.1 129 1).toInt := hZ
    have stop := hE w hI (FR.refl _ w) hZ v0 (by omega)
    rw [q_Tx_digits_5.eq_2]
    refine Eq.mpr (p_Tx_at.eq_1 _ _ _) ⟨fun c => Eq.mpr (p_Tx_isDigit.eq_1 _ _ _) ⟨fun _ => ⟨fun _ => stop, fun h => absurd i_0 h⟩, fun h => absurd (by decide) h⟩, fun c => ⟨⟨by omega, by omega⟩, Eq.mpr (p_Tx_isDigit.eq_1 _ _ _) ⟨fun _ => ⟨fun _ => stop, fun h => absurd i_0 h⟩, fun d => ⟨fun _ => ⟨fun _ => stop, fun h => absurd i_0 h⟩, fun d2 => ⟨fun h => absurd h (by decide), fun _ => ⟨fun _ => stop, fun k => Eq.mpr (p_Tx_at.eq_1 _ _ _) ⟨fun c2 => absurd c2 c, fun _ => ⟨⟨by omega, by omega⟩, ?_⟩⟩⟩⟩⟩⟩⟩⟩
    have ek := ti_sub2 (Eq.refl (w.1 129 2).toInt) (Eq.refl (w.1 129 5).toInt) (by omega) (by omega)
    rw [ek] at k
    have e1 := li_mul (by decide : ((10 : Int64)).toInt = 10) (Eq.refl (w.2.1 129 8).toInt) (by omega) (by omega)
    have e2 := li_add e1 (nb_i2l (w.1 130 (w.1 129 2).toInt.toNat)) (by omega) (by omega)
    have e3 := li_sub e2 (by decide : ((48 : Int64)).toInt = 48) (by omega) (by omega)
    have s2 := ti_add2 (Eq.refl (w.1 129 2).toInt) i_1 (by omega) (by omega)
    have hF : FR l_Tx_digits_5 w (sI (sJ w 129 8 ((((10 : Int64) * (w.2.1 129 8)) + (Int32.toInt64 (w.1 130 (w.1 129 2).toInt.toNat))) - (48 : Int64))) 129 2 ((w.1 129 2) + (1 : Int32))) := FR.I (FR.J (FR.refl _ w) rfl) rfl
    have hB : BND (sI (sJ w 129 8 ((((10 : Int64) * (w.2.1 129 8)) + (Int32.toInt64 (w.1 130 (w.1 129 2).toInt.toNat))) - (48 : Int64))) 129 2 ((w.1 129 2) + (1 : Int32))) := wbd_129_2 (bnd_J hI) (by omega) (by omega)
    have r8 : (sI (sJ w 129 8 ((((10 : Int64) * (w.2.1 129 8)) + (Int32.toInt64 (w.1 130 (w.1 129 2).toInt.toNat))) - (48 : Int64))) 129 2 ((w.1 129 2) + (1 : Int32))).2.1 129 8 = ((((10 : Int64) * (w.2.1 129 8)) + (Int32.toInt64 (w.1 130 (w.1 129 2).toInt.toNat))) - (48 : Int64)) := rfl
    have r2 : ((sI (sJ w 129 8 ((((10 : Int64) * (w.2.1 129 8)) + (Int32.toInt64 (w.1 130 (w.1 129 2).toInt.toNat))) - (48 : Int64))) 129 2 ((w.1 129 2) + (1 : Int32))).1 129 2).toInt = (w.1 129 2).toInt + 1 := s2
    have r5 : ((sI (sJ w 129 8 ((((10 : Int64) * (w.2.1 129 8)) + (Int32.toInt64 (w.1 130 (w.1 129 2).toInt.toNat))) - (48 : Int64))) 129 2 ((w.1 129 2) + (1 : Int32))).1 129 5).toInt = (w.1 129 5).toInt := rfl
    have r1 : ((sI (sJ w 129 8 ((((10 : Int64) * (w.2.1 129 8)) + (Int32.toInt64 (w.1 130 (w.1 129 2).toInt.toNat))) - (48 : Int64))) 129 2 ((w.1 129 2) + (1 : Int32))).1 129 1).toInt = (w.1 129 1).toInt := rfl
    show q_Tx_digits_5 E Q n (sI (sJ w 129 8 ((((10 : Int64) * (w.2.1 129 8)) + (Int32.toInt64 (w.1 130 (w.1 129 2).toInt.toNat))) - (48 : Int64))) 129 2 ((w.1 129 2) + (1 : Int32)))
    generalize (sI (sJ w 129 8 ((((10 : Int64) * (w.2.1 129 8)) + (Int32.toInt64 (w.1 130 (w.1 129 2).toInt.toNat))) - (48 : Int64))) 129 2 ((w.1 129 2) + (1 : Int32))) = w1 at *
    rw [← r8] at e3
    refine ih w1 hB (by unfold PZ; omega) (by omega) (by omega) (by omega) ?_ (by omega) (fun w' a b c d e => hE w' a (hF.tr b rfl) c d e)
    have ep : ((w1.1 129 2).toInt - (w1.1 129 5).toInt).toNat = ((w.1 129 2).toInt - (w.1 129 5).toInt).toNat + 1 := by omega
    rw [ep, Int.pow_succ, e3]
    generalize (10 : Int) ^ ((w.1 129 2).toInt - (w.1 129 5).toInt).toNat = P at *
    omega
theorem d_143 {E Q : MW → Prop} (n : Nat) : ∀ (x : Int64) (w : MW), BND w → PZ w → 0 ≤ x.toInt → x.toInt ≤ 100 → 0 ≤ (w.2.1 129 8).toInt → (w.2.1 129 8).toInt + 10 * x.toInt ≤ 1000000001000 → (4020 - (w.1 129 2).toInt).toNat < n → (∀ (w' : MW), BND w' → FR l_Tx_digits_143 w w' → PZ w' → 0 ≤ (w'.2.1 129 8).toInt → E w') → q_Tx_digits_143 E Q n x w := by
  induction n with
  | zero => intros; omega
  | succ n ih =>
    intro x w hI hZ x0 x1 v0 v1 hm hE
    have b1 := bd_129_1 hI
    have b2 := bd_129_2 hI
    have hZ' : (w.1 129 2).toInt ≤ (w.1 129 1).toInt := hZ
    have stop := hE w hI (FR.refl _ w) hZ v0
    rw [q_Tx_digits_143.eq_2]
    refine Eq.mpr (p_Tx_at.eq_1 _ _ _) ⟨fun c => Eq.mpr (p_Tx_isDigit.eq_1 _ _ _) ⟨fun _ => ⟨fun _ => stop, fun h => absurd i_0 h⟩, fun h => absurd (by decide) h⟩, fun c => ⟨⟨by omega, by omega⟩, Eq.mpr (p_Tx_isDigit.eq_1 _ _ _) ⟨fun _ => ⟨fun _ => stop, fun h => absurd i_0 h⟩, fun d => ⟨fun _ => ⟨fun _ => stop, fun h => absurd i_0 h⟩, fun d2 => ⟨fun h => absurd h (by decide), fun _ => ⟨fun _ => stop, fun k => Eq.mpr (p_Tx_at.eq_1 _ _ _) ⟨fun c2 => absurd c2 c, fun _ => ⟨⟨by omega, by omega⟩, ?_⟩⟩⟩⟩⟩⟩⟩⟩
    have e1 := ti_sub2 (Eq.refl (w.1 130 (w.1 129 2).toInt.toNat).toInt) (by decide : ((48 : Int32)).toInt = 48) (by omega) (by omega)
    have e2 := (nb_i2l ((w.1 130 (w.1 129 2).toInt.toNat) - (48 : Int32))).trans e1
    have m0 : 0 ≤ x.toInt * ((w.1 130 (w.1 129 2).toInt.toNat).toInt - 48) := Int.mul_nonneg x0 (by omega)
    have m1 : x.toInt * ((w.1 130 (w.1 129 2).toInt.toNat).toInt - 48) ≤ x.toInt * 9 := Int.mul_le_mul_of_nonneg_left (by omega) x0
    have e3 := li_mul (Eq.refl x.toInt) e2 (by omega) (by omega)
    have e4 := li_add (Eq.refl (w.2.1 129 8).toInt) e3 (by omega) (by omega)
    have s2 := ti_add2 (Eq.refl (w.1 129 2).toInt) i_1 (by omega) (by omega)
    have ex := nb_ldiv x0 (by decide : ((10 : Int64)).toInt = 10) (by omega)
    have hF : FR l_Tx_digits_143 w (sI (sJ w 129 8 ((w.2.1 129 8) + (x * (Int32.toInt64 ((w.1 130 (w.1 129 2).toInt.toNat) - (48 : Int32)))))) 129 2 ((w.1 129 2) + (1 : Int32))) := FR.I (FR.J (FR.refl _ w) rfl) rfl
    have hB : BND (sI (sJ w 129 8 ((w.2.1 129 8) + (x * (Int32.toInt64 ((w.1 130 (w.1 129 2).toInt.toNat) - (48 : Int32)))))) 129 2 ((w.1 129 2) + (1 : Int32))) := wbd_129_2 (bnd_J hI) (by omega) (by omega)
    have r8 : ((sI (sJ w 129 8 ((w.2.1 129 8) + (x * (Int32.toInt64 ((w.1 130 (w.1 129 2).toInt.toNat) - (48 : Int32)))))) 129 2 ((w.1 129 2) + (1 : Int32))).2.1 129 8).toInt = (w.2.1 129 8).toInt + x.toInt * ((w.1 130 (w.1 129 2).toInt.toNat).toInt - 48) := e4
    have r2 : ((sI (sJ w 129 8 ((w.2.1 129 8) + (x * (Int32.toInt64 ((w.1 130 (w.1 129 2).toInt.toNat) - (48 : Int32)))))) 129 2 ((w.1 129 2) + (1 : Int32))).1 129 2).toInt = (w.1 129 2).toInt + 1 := s2
    have r1 : ((sI (sJ w 129 8 ((w.2.1 129 8) + (x * (Int32.toInt64 ((w.1 130 (w.1 129 2).toInt.toNat) - (48 : Int32)))))) 129 2 ((w.1 129 2) + (1 : Int32))).1 129 1).toInt = (w.1 129 1).toInt := rfl
    show q_Tx_digits_143 E Q n (x / (10 : Int64)) (sI (sJ w 129 8 ((w.2.1 129 8) + (x * (Int32.toInt64 ((w.1 130 (w.1 129 2).toInt.toNat) - (48 : Int32)))))) 129 2 ((w.1 129 2) + (1 : Int32)))
    generalize (sI (sJ w 129 8 ((w.2.1 129 8) + (x * (Int32.toInt64 ((w.1 130 (w.1 129 2).toInt.toNat) - (48 : Int32)))))) 129 2 ((w.1 129 2) + (1 : Int32))) = w1 at *
    exact ih _ w1 hB (by unfold PZ; omega) (by omega) (by omega) (by omega) (by omega) (by omega) (fun w' a b c d => hE w' a (hF.tr b rfl) c d)
theorem d_119 {y : Int32} {w : MW} {Q : MW → Prop} (hI : BND w) (hZ : PZ w) (v0 : 0 ≤ (w.2.1 129 8).toInt) (v1 : (w.2.1 129 8).toInt ≤ 1000000000000) (hy : y.toInt = 0 ∨ (y.toInt = 1 ∧ (w.1 129 2).toInt < (w.1 129 1).toInt)) (hQ : ∀ w', BND w' → FR l_Tx_digits_119 w w' → PZ w' → VG w' → Q w') : q_Tx_digits_119 y w Q := by
  have b1 := bd_129_1 hI
  have b2 := bd_129_2 hI
  have hB : BND (sI w 129 9 y) := wbd_129_9 hI (by omega) (by omega)
  refine Eq.mpr (q_Tx_digits_119.eq_1 _ _ _) ⟨by omega, fun _ => hQ _ hB (FR.I (FR.refl _ w) rfl) (PZ_fr (l := [(129, some 9)]) (FR.I (FR.refl _ w) rfl) rfl hZ) v0, fun c => ?_⟩
  have s2 := ti_add2 (Eq.refl (w.1 129 2).toInt) i_1 (by omega) (by omega)
  refine d_143 FU 100 _ (wbd_129_2 hB (by omega) (by omega)) ?_ (by decide) (by decide) v0 ?_ (fu_lt ?_) (fun w' a b d e => hQ w' a ((FR.I (FR.I (FR.refl _ w) rfl) rfl : FR l_Tx_digits_119 w _).tr b rfl) d e)
  · show ((w.1 129 2) + (1 : Int32)).toInt ≤ (w.1 129 1).toInt
    omega
  · show (w.2.1 129 8).toInt + 10 * (100 : Int64).toInt ≤ 1000000001000
    rw [(by decide : ((100 : Int64)).toInt = 100)]
    omega
  · show (4020 - ((w.1 129 2) + (1 : Int32)).toInt).toNat < 100000000000000000000
    omega
theorem t_digits {w : MW} {Q : MW → Prop} (hI : BND w) (hZ : PZ w) (hb : (w.1 129 5).toInt = (w.1 129 2).toInt) (hQ : ∀ w', BND w' → FR l_Tx_digits w w' → PZ w' → VG w' → Q w') : p_Tx_digits w Q := by
  have b2 := bd_129_2 hI
  refine Eq.mpr (p_Tx_digits.eq_1 _ _) (d_5 FU (sJ w 129 8 0) (bnd_J hI) hZ (Int.le_of_eq hb) (by show (w.1 129 2).toInt ≤ (w.1 129 5).toInt + 9; omega) (by show 0 ≤ (0 : Int64).toInt; decide) ?_ (fu_lt (by show (4020 - (w.1 129 2).toInt).toNat < 100000000000000000000; omega)) (fun w6 hI6 hF6 hZ6 v0 v1 => ?_))
  · show (0 : Int64).toInt < (10 : Int) ^ ((w.1 129 2).toInt - (w.1 129 5).toInt).toNat
    have e : ((w.1 129 2).toInt - (w.1 129 5).toInt).toNat = 0 := by omega
    rw [e]
    decide
  · have b1 := bd_129_1 hI6
    have c2 := bd_129_2 hI6
    have e1 := li_mul (Eq.refl (w6.2.1 129 8).toInt) (by decide : ((1000 : Int64)).toInt = 1000) (by omega) (by omega)
    have hF7 : FR l_Tx_digits w (sJ w6 129 8 ((w6.2.1 129 8) * (1000 : Int64))) := FR.J ((FR.J (FR.refl _ w) rfl : FR l_Tx_digits w (sJ w 129 8 0)).tr hF6 rfl) rfl
    have hI7 : BND (sJ w6 129 8 ((w6.2.1 129 8) * (1000 : Int64))) := bnd_J hI6
    have hZ7 : PZ (sJ w6 129 8 ((w6.2.1 129 8) * (1000 : Int64))) := hZ6
    have s2 := ti_add2 (Eq.refl (w6.1 129 2).toInt) i_1 (by omega) (by omega)
    have V0 : 0 ≤ ((sJ w6 129 8 ((w6.2.1 129 8) * (1000 : Int64))).2.1 129 8).toInt := by
      show 0 ≤ ((w6.2.1 129 8) * (1000 : Int64)).toInt
      omega
    have V1 : ((sJ w6 129 8 ((w6.2.1 129 8) * (1000 : Int64))).2.1 129 8).toInt ≤ 1000000000000 := by
      show ((w6.2.1 129 8) * (1000 : Int64)).toInt ≤ 1000000000000
      omega
    have r1 : (sJ w6 129 8 ((w6.2.1 129 8) * (1000 : Int64))).1 = w6.1 := rfl
    generalize (sJ w6 129 8 ((w6.2.1 129 8) * (1000 : Int64))) = w7 at *
    have f0 : ∀ y : Int32, y.toInt = 0 ∨ (y.toInt = 1 ∧ (w7.1 129 2).toInt < (w7.1 129 1).toInt) → q_Tx_digits_119 y w7 Q := fun y hy => d_119 hI7 hZ7 V0 V1 hy (fun w' a b c d => hQ w' a (hF7.tr b rfl) c d)
    have z := f0 0 (Or.inl i_0)
    refine Eq.mpr (p_Tx_at.eq_1 _ _ _) ⟨fun c => ⟨fun _ => z, fun h => absurd (by decide) h⟩, fun c => ⟨⟨by omega, by rw [r1] at c; omega⟩, ⟨fun _ => z, fun _ => ?_⟩⟩⟩
    rw [r1] at c ⊢
    refine Eq.mpr (p_Tx_at.eq_1 _ _ _) ⟨fun c => Eq.mpr (p_Tx_isDigit.eq_1 _ _ _) ⟨fun _ => ⟨fun _ => z, fun h => absurd i_0 h⟩, fun h => absurd (by decide) h⟩, fun c3 => ⟨⟨by omega, by rw [r1] at c3; omega⟩, Eq.mpr (p_Tx_isDigit.eq_1 _ _ _) ⟨fun _ => ⟨fun _ => z, fun h => absurd i_0 h⟩, fun d => ⟨fun _ => ⟨fun _ => z, fun h => absurd i_0 h⟩, fun d2 => ⟨fun h => absurd h (by decide), fun _ => f0 1 (Or.inr ⟨i_1, by rw [r1]; omega⟩)⟩⟩⟩⟩⟩
theorem g_tail {w w1 : MW} {c8 : Int32} {Q : Int32 → MW → Prop} (hI : BND w1) (hF : FR l_Tx_go w w1) (hZ : PZ w1) (hV : VG w1) (hc : (48 ≤ c8.toInt ∧ c8.toInt ≤ 57) ∨ ((w1.1 129 5).toInt ≤ (w1.1 129 2).toInt ∧ (w1.1 129 2).toInt ≤ (w1.1 129 5).toInt + 12)) (hQ : ∀ (r : Int32) (w' : MW), BND w' → FR l_Tx_go w w' → PZ w' → VG w' → 0 ≤ r.toInt → r.toInt ≤ 1 → r.toInt = 0 ∨ (w'.1 129 4).toInt < 900 ∨ 2000 ≤ (w'.1 129 4).toInt ∨ ((w'.1 129 5).toInt ≤ (w'.1 129 6).toInt ∧ (w'.1 129 6).toInt ≤ (w'.1 129 5).toInt + 12) → Q r w') : p_Tx_at (sI w1 129 6 (w1.1 129 2)) (w1.1 129 2) (fun r28 w28 => (p_Tx_isLetter w28 r28 (fun r29 w29 => ((¬ r29.toInt = 0 → (Q 0 (sI w29 129 10 (w29.1 129 2)))) ∧ (¬ (¬ r29.toInt = 0) → (p_Tx_isDigit w29 r28 (fun r31 w31 => ((¬ r31.toInt = 0 → (Q 0 (sI w31 129 10 (w31.1 129 2)))) ∧ (¬ (¬ r31.toInt = 0) → ((¬ r28.toInt = 46 → (p_Tx_isLetter w31 c8 (fun r34 w34 => ((r34.toInt = 0 → (Q 1 (sI w34 129 4 2000))) ∧ (¬ (r34.toInt = 0) → (p_Tx_meaning w34  (fun r36 w36 => (Q 1 (sI w36 129 4 ((1000 : Int32) + r36)))))))))) ∧ (¬ (¬ r28.toInt = 46) → (Q 0 (sI w31 129 10 (w31.1 129 2)))))))))))))) := by
  have b1 := bd_129_1 hI
  have b2 := bd_129_2 hI
  have hZ' : (w1.1 129 2).toInt ≤ (w1.1 129 1).toInt := hZ
  have hI2 : BND (sI w1 129 6 (w1.1 129 2)) := wbd_129_6 hI b2.1 b2.2
  have hF2 : FR l_Tx_go w (sI w1 129 6 (w1.1 129 2)) := FR.I hF rfl
  have hZ2 : PZ (sI w1 129 6 (w1.1 129 2)) := PZ_fr (l := [(129, some 6)]) (FR.I (FR.refl _ w1) rfl) rfl hZ
  have hV2 : VG (sI w1 129 6 (w1.1 129 2)) := hV
  have r1 : (sI w1 129 6 (w1.1 129 2)).1 129 1 = w1.1 129 1 := rfl
  have r2 : (sI w1 129 6 (w1.1 129 2)).1 129 2 = w1.1 129 2 := rfl
  have r5 : (sI w1 129 6 (w1.1 129 2)).1 129 5 = w1.1 129 5 := rfl
  have r6 : (sI w1 129 6 (w1.1 129 2)).1 129 6 = w1.1 129 2 := rfl
  generalize (sI w1 129 6 (w1.1 129 2)) = w2 at *
  have bad : Q 0 (sI w2 129 10 (w2.1 129 2)) := hQ 0 _ (wbd_129_10 hI2) (FR.I hF2 rfl) (PZ_fr (l := [(129, some 10)]) (FR.I (FR.refl _ w2) rfl) rfl hZ2) hV2 (by decide) (by decide) (Or.inl i_0)
  have K4 : ∀ v : Int32, -128 ≤ v.toInt → v.toInt ≤ 2000 → (2000 ≤ v.toInt ∨ ((w1.1 129 5).toInt ≤ (w1.1 129 2).toInt ∧ (w1.1 129 2).toInt ≤ (w1.1 129 5).toInt + 12)) → Q 1 (sI w2 129 4 v) := fun v v0 v1 hv => hQ 1 _ (wbd_129_4 hI2 v0 v1) (FR.I hF2 rfl) (PZ_fr (l := [(129, some 4)]) (FR.I (FR.refl _ w2) rfl) rfl hZ2) hV2 (by decide) (by decide) (by
    right; right
    show 2000 ≤ v.toInt ∨ (w2.1 129 5).toInt ≤ (w2.1 129 6).toInt ∧ (w2.1 129 6).toInt ≤ (w2.1 129 5).toInt + 12
    rw [r5, r6]
    exact hv)
  have L0 : ((0 : Int32).toInt = 0 → (Q 1 (sI w2 129 4 2000))) ∧ (¬ ((0 : Int32).toInt = 0) → (p_Tx_meaning w2  (fun r36 w36 => (Q 1 (sI w36 129 4 ((1000 : Int32) + r36)))))) := ⟨fun _ => K4 2000 (by decide) (by decide) (Or.inl (by decide)), fun h => absurd i_0 h⟩
  have D : ∀ r28 : Int32, (p_Tx_isDigit w2 r28 (fun r31 w31 => ((¬ r31.toInt = 0 → (Q 0 (sI w31 129 10 (w31.1 129 2)))) ∧ (¬ (¬ r31.toInt = 0) → ((¬ r28.toInt = 46 → (p_Tx_isLetter w31 c8 (fun r34 w34 => ((r34.toInt = 0 → (Q 1 (sI w34 129 4 2000))) ∧ (¬ (r34.toInt = 0) → (p_Tx_meaning w34  (fun r36 w36 => (Q 1 (sI w36 129 4 ((1000 : Int32) + r36)))))))))) ∧ (¬ (¬ r28.toInt = 46) → (Q 0 (sI w31 129 10 (w31.1 129 2))))))))) := fun r28 => by
    have M : ((¬ r28.toInt = 46 → (p_Tx_isLetter w2 c8 (fun r34 w34 => ((r34.toInt = 0 → (Q 1 (sI w34 129 4 2000))) ∧ (¬ (r34.toInt = 0) → (p_Tx_meaning w34  (fun r36 w36 => (Q 1 (sI w36 129 4 ((1000 : Int32) + r36)))))))))) ∧ (¬ (¬ r28.toInt = 46) → (Q 0 (sI w2 129 10 (w2.1 129 2))))) := ⟨fun _ => Eq.mpr (p_Tx_isLetter.eq_1 _ _ _) ⟨fun _ => L0, fun d => ⟨fun _ => L0, fun d2 => ⟨fun h => absurd h (by decide), fun _ => h_Tx_meaning hI2 (fun r36 w36 _ hN m0 m1 => by
      obtain rfl := fr_nil hN rfl
      have s := ti_add2 (by decide : ((1000 : Int32)).toInt = 1000) (Eq.refl r36.toInt) (by omega) (by omega)
      exact K4 _ (by omega) (by omega) (by right; omega))⟩⟩⟩, fun _ => bad⟩
    exact Eq.mpr (p_Tx_isDigit.eq_1 _ _ _) ⟨fun _ => ⟨fun h => absurd i_0 h, fun _ => M⟩, fun _ => ⟨fun _ => ⟨fun h => absurd i_0 h, fun _ => M⟩, fun _ => ⟨fun _ => bad, fun h => absurd (by decide) h⟩⟩⟩
  have A : ∀ r28 : Int32, (p_Tx_isLetter w2 r28 (fun r29 w29 => ((¬ r29.toInt = 0 → (Q 0 (sI w29 129 10 (w29.1 129 2)))) ∧ (¬ (¬ r29.toInt = 0) → (p_Tx_isDigit w29 r28 (fun r31 w31 => ((¬ r31.toInt = 0 → (Q 0 (sI w31 129 10 (w31.1 129 2)))) ∧ (¬ (¬ r31.toInt = 0) → ((¬ r28.toInt = 46 → (p_Tx_isLetter w31 c8 (fun r34 w34 => ((r34.toInt = 0 → (Q 1 (sI w34 129 4 2000))) ∧ (¬ (r34.toInt = 0) → (p_Tx_meaning w34  (fun r36 w36 => (Q 1 (sI w36 129 4 ((1000 : Int32) + r36)))))))))) ∧ (¬ (¬ r28.toInt = 46) → (Q 0 (sI w31 129 10 (w31.1 129 2))))))))))))) := fun r28 => Eq.mpr (p_Tx_isLetter.eq_1 _ _ _) ⟨fun _ => ⟨fun h => absurd i_0 h, fun _ => D r28⟩, fun _ => ⟨fun _ => ⟨fun h => absurd i_0 h, fun _ => D r28⟩, fun _ => ⟨fun _ => bad, fun h => absurd (by decide) h⟩⟩⟩
  exact Eq.mpr (p_Tx_at.eq_1 _ _ _) ⟨fun _ => A 0, fun c => ⟨⟨by omega, by rw [r1] at c; omega⟩, A _⟩⟩
theorem g_go {w : MW} {Q : Int32 → MW → Prop} (hI : BND w) (hZ : PZ w) (hV : VG w) (hQ : ∀ (r : Int32) (w' : MW), BND w' → FR l_Tx_go w w' → PZ w' → VG w' → 0 ≤ r.toInt → r.toInt ≤ 1 → r.toInt = 0 ∨ (w'.1 129 4).toInt < 900 ∨ 2000 ≤ (w'.1 129 4).toInt ∨ ((w'.1 129 5).toInt ≤ (w'.1 129 6).toInt ∧ (w'.1 129 6).toInt ≤ (w'.1 129 5).toInt + 12) → Q r w') : p_Tx_go w Q := by
  have b2 := bd_129_2 hI
  refine Eq.mpr (p_Tx_go.eq_1 _ _) (hq_Tx_go_0 FU w hI hZ (fu_lt (by omega)) (fun w7 hI7 hF7 hZ7 => ?_) (fun _ _ _ _ _ q => q.elim))
  have c1 := bd_129_1 hI7
  have c2 := bd_129_2 hI7
  have hZ' : (w7.1 129 2).toInt ≤ (w7.1 129 1).toInt := hZ7
  have hV7 : VG w7 := by unfold VG; rw [(hF7 129 8 rfl).2.1]; exact hV
  have hI8 : BND (sI (sI w7 129 5 (w7.1 129 2)) 129 7 (w7.1 129 3)) := wbd_129_7 (wbd_129_5 hI7 c2.1 c2.2)
  have hF8 : FR l_Tx_go w (sI (sI w7 129 5 (w7.1 129 2)) 129 7 (w7.1 129 3)) := FR.I (FR.I ((FR.refl _ w).tr hF7 rfl) rfl) rfl
  have hZ8 : PZ (sI (sI w7 129 5 (w7.1 129 2)) 129 7 (w7.1 129 3)) := PZ_fr (l := [(129, some 5), (129, some 7)]) (FR.I (FR.I (FR.refl _ w7) rfl) rfl) rfl hZ7
  have hV8 : VG (sI (sI w7 129 5 (w7.1 129 2)) 129 7 (w7.1 129 3)) := hV7
  have r1 : (sI (sI w7 129 5 (w7.1 129 2)) 129 7 (w7.1 129 3)).1 129 1 = w7.1 129 1 := rfl
  have r2 : (sI (sI w7 129 5 (w7.1 129 2)) 129 7 (w7.1 129 3)).1 129 2 = w7.1 129 2 := rfl
  have r5 : (sI (sI w7 129 5 (w7.1 129 2)) 129 7 (w7.1 129 3)).1 129 5 = w7.1 129 2 := rfl
  generalize (sI (sI w7 129 5 (w7.1 129 2)) 129 7 (w7.1 129 3)) = w8 at *
  have fin : Q 1 (sI (sI w8 129 6 (w8.1 129 2)) 129 4 1) := hQ 1 _ (wbd_129_4 (wbd_129_6 hI8 (by rw [r2]; omega) (by rw [r2]; omega)) (by decide) (by decide)) (FR.I (FR.I hF8 rfl) rfl) (PZ_fr (l := [(129, some 6), (129, some 4)]) (FR.I (FR.I (FR.refl _ w8) rfl) rfl) rfl hZ8) hV8 (by decide) (by decide) (Or.inr (Or.inl (by show (1 : Int32).toInt < 900; decide)))
  refine Eq.mpr (p_Tx_at.eq_1 _ _ _) ⟨fun c => ⟨fun d => absurd (by rw [r1] at c; rw [r1, r2]; omega) d, fun _ => fin⟩, fun c => ⟨⟨by omega, by rw [r1] at c; omega⟩, ⟨fun _ => ?_, fun _ => fin⟩⟩⟩
  have b130 := bd_130 hI8 (w7.1 129 2).toInt.toNat
  generalize w8.1 130 (w7.1 129 2).toInt.toNat = r8 at *
  have S : ∀ y ys : Int32, 0 ≤ y.toInt → y.toInt ≤ 1 → q_Tx_go_287 r8 y ys w8 Q := fun y ys y0 y1 => hq_Tx_go_287 hI8 hZ8 b130.1 b130.2 y0 y1 (by rw [r1] at c; rw [r1, r2]; omega) (fun r w' hI' hF' hZ'' r0 r1 hr => hQ r w' hI' (hF8.tr hF' rfl) hZ'' (by unfold VG; rw [(hF' 129 8 rfl).2.1]; exact hV8) r0 r1 (Or.inr (Or.inl hr)))
  have s1 := fun ys => S 1 ys (by decide) (by decide)
  have s0 := fun ys => S 0 ys (by decide) (by decide)
  have z1 : ∀ ys : Int32, ((r8.toInt = 123 → (q_Tx_go_287 r8 1 ys w8 Q)) ∧ (¬ (r8.toInt = 123) → ((r8.toInt = 125 → (q_Tx_go_287 r8 1 ys w8 Q)) ∧ (¬ (r8.toInt = 125) → ((r8.toInt = 40 → (q_Tx_go_287 r8 1 ys w8 Q)) ∧ (¬ (r8.toInt = 40) → ((r8.toInt = 41 → (q_Tx_go_287 r8 1 ys w8 Q)) ∧ (¬ (r8.toInt = 41) → ((r8.toInt = 59 → (q_Tx_go_287 r8 1 ys w8 Q)) ∧ (¬ (r8.toInt = 59) → ((r8.toInt = 43 → (q_Tx_go_287 r8 1 ys w8 Q)) ∧ (¬ (r8.toInt = 43) → ((r8.toInt = 45 → (q_Tx_go_287 r8 1 ys w8 Q)) ∧ (¬ (r8.toInt = 45) → ((r8.toInt = 42 → (q_Tx_go_287 r8 1 ys w8 Q)) ∧ (¬ (r8.toInt = 42) → ((r8.toInt = 47 → (q_Tx_go_287 r8 1 ys w8 Q)) ∧ (¬ (r8.toInt = 47) → ((r8.toInt = 60 → (q_Tx_go_287 r8 1 ys w8 Q)) ∧ (¬ (r8.toInt = 60) → ((r8.toInt = 61 → (q_Tx_go_287 r8 1 ys w8 Q)) ∧ (¬ (r8.toInt = 61) → ((¬ r8.toInt = 62 → (q_Tx_go_287 r8 0 (w8.1 129 2) w8 Q)) ∧ (¬ (¬ r8.toInt = 62) → (q_Tx_go_287 r8 1 ys w8 Q))))))))))))))))))))))))) := fun ys => ⟨fun _ => s1 ys, fun _ => ⟨fun _ => s1 ys, fun _ => ⟨fun _ => s1 ys, fun _ => ⟨fun _ => s1 ys, fun _ => ⟨fun _ => s1 ys, fun _ => ⟨fun _ => s1 ys, fun _ => ⟨fun _ => s1 ys, fun _ => ⟨fun _ => s1 ys, fun _ => ⟨fun _ => s1 ys, fun _ => ⟨fun _ => s1 ys, fun _ => ⟨fun _ => s1 ys, fun _ => ⟨fun _ => s0 _, fun _ => s1 ys⟩⟩⟩⟩⟩⟩⟩⟩⟩⟩⟩⟩
  refine Eq.mpr (p_Tx_isLetter.eq_1 _ _ _) ⟨fun _ => ⟨fun _ => ?_, fun h => absurd i_0 h⟩, fun a => ⟨fun _ => ⟨fun _ => ?_, fun h => absurd i_0 h⟩, fun a2 => ⟨fun h => absurd h (by decide), fun _ => ?_⟩⟩⟩
  · refine Eq.mpr (p_Tx_isDigit.eq_1 _ _ _) ⟨fun _ => ⟨fun _ => z1 _, fun h => absurd i_0 h⟩, fun d => ⟨fun _ => ⟨fun _ => z1 _, fun h => absurd i_0 h⟩, fun d2 => ⟨fun h => absurd h (by decide), fun _ => ?_⟩⟩⟩
    exact t_digits hI8 hZ8 (by rw [r5, r2]) (fun w9 hI9 hF9 hZ9 hV9 => g_tail hI9 (hF8.tr hF9 rfl) hZ9 hV9 (Or.inl ⟨by omega, by omega⟩) hQ)
  · refine Eq.mpr (p_Tx_isDigit.eq_1 _ _ _) ⟨fun _ => ⟨fun _ => z1 _, fun h => absurd i_0 h⟩, fun d => ⟨fun _ => ⟨fun _ => z1 _, fun h => absurd i_0 h⟩, fun d2 => ⟨fun h => absurd h (by decide), fun _ => ?_⟩⟩⟩
    exact t_digits hI8 hZ8 (by rw [r5, r2]) (fun w9 hI9 hF9 hZ9 hV9 => g_tail hI9 (hF8.tr hF9 rfl) hZ9 hV9 (Or.inl ⟨by omega, by omega⟩) hQ)
  · exact hq_Tx_go_124 FU w8 hI8 hZ8 (by omega) (by omega) (by rw [r5, r2]; omega) (by rw [r5, r2]; omega) (fu_lt (by rw [r2]; omega)) (fun w9 hI9 hF9 hZ9 p0 p1 => g_tail hI9 (hF8.tr hF9 rfl) hZ9 (by unfold VG; rw [(hF9 129 8 rfl).2.1]; exact hV8) (Or.inr ⟨p0, p1⟩) hQ) (fun _ _ _ _ _ q => q.elim)
def PV (w : MW) : Prop := PZ w ∧ VG w
theorem PV_fr {l : Pl} {w w' : MW} (hF : FR l w w') (ho : off l [(129, some 1), (129, some 2), (129, some 8)] = true) (h : PV w) : PV w' := by
  refine ⟨PZ_fr hF (off_mono ho (by decide)) h.1, ?_⟩
  unfold VG
  rw [(hF 129 8 (off_hit ho rfl)).2.1]
  exact h.2
