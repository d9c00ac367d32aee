/-! a long as a stack of bits -/
def Bst (x : Int64) (st : List Bool) : Prop := ∀ j : Nat, x.toBitVec.getLsbD j = (st[j]?).getD false
theorem l_sh (x : Int64) : (x <<< ((1 : Int32).toInt64 &&& 63)).toBitVec = x.toBitVec <<< 1 := by
  rw [Int64.toBitVec_shiftLeft]
  rfl
theorem l_us (x : Int64) : ((x.toUInt64 >>> ((1 : Int32).toInt64.toUInt64 &&& Int64.toUInt64 63)).toInt64).toBitVec = x.toBitVec >>> 1 := rfl
theorem l_or (x y : Int64) : (x ||| y).toBitVec = x.toBitVec ||| y.toBitVec := rfl
theorem l_an (x y : Int64) : (x &&& y).toBitVec = x.toBitVec &&& y.toBitVec := rfl
theorem l_xo (x y : Int64) : (x ^^^ y).toBitVec = x.toBitVec ^^^ y.toBitVec := rfl
theorem l_1 (j : Nat) : (1 : Int64).toBitVec.getLsbD j = decide (j = 0) := by
  show (1#64).getLsbD j = _
  rw [BitVec.getLsbD_one]
  simp
theorem l_m2 (j : Nat) : ((-2) : Int64).toBitVec.getLsbD j = (decide (j < 64) && !(decide (j = 0))) := by
  have e : ((-2) : Int64).toBitVec = ~~~ (1 : Int64).toBitVec := by decide
  rw [e, BitVec.getLsbD_not, l_1]
theorem b_push {x : Int64} {st : List Bool} {b : Int32} {v : Bool} (h : Bst x st) (hl : st.length ≤ 63) (hb : b.toInt = (if v = true then 1 else 0)) : Bst ((x <<< ((1 : Int32).toInt64 &&& 63)) ||| (Int32.toInt64 b)) (v :: st) := by
  have eb : ∀ j, (Int32.toInt64 b).toBitVec.getLsbD j = (v && decide (j = 0)) := fun j => by
    cases v with
    | true =>
      have e : b = 1 := ti_inj (by rw [hb]; rfl)
      rw [e]
      show (1 : Int64).toBitVec.getLsbD j = _
      rw [l_1, Bool.true_and]
    | false =>
      have e : b = 0 := ti_inj (by rw [hb]; rfl)
      rw [e]
      show (0#64).getLsbD j = _
      rw [BitVec.getLsbD_zero, Bool.false_and]
  intro j
  rw [l_or, BitVec.getLsbD_or, l_sh, BitVec.getLsbD_shiftLeft, eb]
  cases j with
  | zero => simp
  | succ j =>
    have hj := h j
    simp only [Nat.add_sub_cancel]
    rw [hj]
    by_cases q : j + 1 < 64
    · simp [q]
    · rw [List.getElem?_eq_none (show st.length ≤ j by omega)]
      simp
      exact (List.getElem?_eq_none (show st.length ≤ j by omega)) ▸ rfl
theorem b_not {x : Int64} {st : List Bool} {a : Bool} (h : Bst x (a :: st)) : Bst (x ^^^ (1 : Int64)) ((!a) :: st) := by
  intro j
  rw [l_xo, BitVec.getLsbD_xor, l_1, h j]
  cases j with
  | zero => cases a <;> rfl
  | succ j => simp
theorem b_and {x : Int64} {st : List Bool} {y a : Bool} (h : Bst x (y :: a :: st)) : Bst (((x.toUInt64 >>> ((1 : Int32).toInt64.toUInt64 &&& Int64.toUInt64 63)).toInt64) &&& (((-2) : Int64) ||| (x &&& (1 : Int64)))) ((a && y) :: st) := by
  intro j
  rw [l_an, BitVec.getLsbD_and, l_us, BitVec.getLsbD_ushiftRight, l_or, BitVec.getLsbD_or, l_an, BitVec.getLsbD_and, l_1, l_m2]
  cases j with
  | zero =>
    rw [h 1, h 0]
    cases a <;> cases y <;> rfl
  | succ j =>
    have e := h (1 + (j + 1))
    have e2 : (y :: a :: st)[1 + (j + 1)]? = st[j]? := by
      rw [show 1 + (j + 1) = j + 2 by omega]
      rfl
    rw [e2] at e
    show (_ && _) = (st[j]?).getD false
    by_cases q : j + 1 < 64
    · rw [e]
      simp [q]
    · have e0 : x.toBitVec.getLsbD (1 + (j + 1)) = false := BitVec.getLsbD_of_ge _ _ (by omega)
      rw [← e, e0, Bool.false_and]
theorem b_or {x : Int64} {st : List Bool} {y a : Bool} (h : Bst x (y :: a :: st)) : Bst (((x.toUInt64 >>> ((1 : Int32).toInt64.toUInt64 &&& Int64.toUInt64 63)).toInt64) ||| (x &&& (1 : Int64))) ((a || y) :: st) := by
  intro j
  rw [l_or, BitVec.getLsbD_or, l_us, BitVec.getLsbD_ushiftRight, l_an, BitVec.getLsbD_and, l_1]
  cases j with
  | zero =>
    rw [h 1, h 0]
    cases a <;> cases y <;> rfl
  | succ j =>
    have e := h (1 + (j + 1))
    have e2 : (y :: a :: st)[1 + (j + 1)]? = st[j]? := by
      rw [show 1 + (j + 1) = j + 2 by omega]
      rfl
    rw [e2] at e
    rw [e]
    show (_ || _) = (st[j]?).getD false
    simp
