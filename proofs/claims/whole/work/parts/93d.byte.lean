/-! bytes of a text on both sides -/
def cby (x : Int32) (r : Nat) : Int32 := ((x.toUInt32 >>> (((24 : Int32) - ((8 : Int32) * nI r)).toUInt32 &&& Int32.toUInt32 31)).toInt32) &&& (255 : Int32)
theorem and255 (y : Int32) : (y &&& (255 : Int32)).toInt = y.toInt % 256 := by
  have h := pk_and y (m := 255) 8 (by decide)
  have e : (2 : Nat) ^ 8 = 256 := by decide
  rw [h, e]
  have l : y.toBitVec.toNat % 256 < 256 := Nat.mod_lt _ (by decide)
  rw [nI_toInt (by omega)]
  have t : y.toInt = y.toBitVec.toInt := rfl
  rw [t, BitVec.toInt_eq_toNat_cond]
  have b := y.toBitVec.isLt
  split <;> omega
theorem byt_c (x : Int32) (r : Nat) : (byt x r).toInt = if (cby x r).toInt < 128 then (cby x r).toInt else (cby x r).toInt - 256 := by
  unfold byt cby
  rw [and255]
  generalize ((x.toUInt32 >>> (((24 : Int32) - ((8 : Int32) * nI r)).toUInt32 &&& Int32.toUInt32 31)).toInt32) = y
  have b := nb_i2b y
  rw [nb_byteq b.1 b.2]
  have e : (y.toInt8).toInt32.toInt = y.toInt.bmod 256 := by
    rw [Int8.toInt_toInt32, Int32.toInt_toInt8]
  rw [e]
  unfold Int.bmod
  simp only []
  have h1 : ((256 : Nat) : Int) = 256 := rfl
  split <;> split <;> omega
theorem cby_b (x : Int32) (r : Nat) : 0 ≤ (cby x r).toInt ∧ (cby x r).toInt ≤ 255 := by
  unfold cby
  rw [and255]
  omega
/-- byte p of the class's text; -1 behind its end -/
def cv (w : MW) (p : Int32) : Int32 := if 0 ≤ p.toInt ∧ p.toInt < (w.1 1 2).toInt then cby (w.1 2 (p.toInt.toNat / 4)) (p.toInt.toNat % 4) else -1
theorem and3 (y : Int32) (h : 0 ≤ y.toInt) : y &&& (3 : Int32) = nI (y.toInt.toNat % 4) := by
  have h1 := pk_and y (m := 3) 2 (by decide)
  have e : (2 : Nat) ^ 2 = 4 := by decide
  rw [h1, e]
  have t : y.toInt = y.toBitVec.toInt := rfl
  rw [t] at h ⊢
  rw [BitVec.toInt_eq_toNat_cond] at h ⊢
  have b := y.toBitVec.isLt
  congr 1
  split at h <;> split <;> omega
theorem at_x {w : MW} {p : Int32} {Q : Int32 → MW → Prop} (hI : BND w) (hQ : Q (cv w p) w) : p_Tp_at w p Q := by
  have b := bd_1_2 hI
  have m : ((4 : Int32) * (1005 : Int32)).toInt = 4020 := by decide
  have s := nb_shr p ((2 : Int32) &&& 31) 2 4 (by decide) (by decide)
  unfold cv at hQ
  refine Eq.mpr (p_Tp_at.eq_1 _ _ _) ⟨fun c => ?_, fun c => ⟨fun c2 => ?_, fun c2 => ⟨fun c3 => ⟨⟨by omega, by omega⟩, ?_⟩, fun c3 => by omega⟩⟩⟩
  · rw [if_neg (by omega)] at hQ
    exact hQ
  · rw [if_neg (by omega)] at hQ
    exact hQ
  · rw [if_pos ⟨by omega, by omega⟩] at hQ
    have e1 : (p >>> ((2 : Int32) &&& 31)).toInt.toNat = p.toInt.toNat / 4 := by omega
    rw [e1, and3 p (by omega)]
    exact hQ
