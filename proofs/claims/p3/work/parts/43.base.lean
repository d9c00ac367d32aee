/-! numbers that the walks meet -/
theorem nb_and (x : Int32) (m : Int32) (n : Nat) (hm : m.toBitVec.toNat = n) (hn : n < 2147483648) : 0 ≤ (x &&& m).toInt ∧ (x &&& m).toInt ≤ (n : Int) := by
  have h1 : (x &&& m).toBitVec.toNat ≤ n := by
    rw [Int32.toBitVec_and, BitVec.toNat_and, hm]; exact Nat.and_le_right
  have h2 : (x &&& m).toInt = ((x &&& m).toBitVec.toNat : Int) := by
    rw [← Int32.toInt_toBitVec]
    exact BitVec.toInt_eq_toNat_of_lt (by omega)
  rw [h2]
  omega
theorem nb_nat {x : Int32} (h : 0 ≤ x.toInt) : (x.toBitVec.toNat : Int) = x.toInt := by
  have h1 := x.toBitVec.isLt
  have h2 : x.toInt = x.toBitVec.toInt := rfl
  rw [BitVec.toInt_eq_toNat_cond] at h2
  split at h2 <;> omega
theorem nb_ofnat {x : Int32} {n : Nat} (h : x.toBitVec.toNat = n) (hn : n < 2147483648) : x.toInt = (n : Int) := by
  rw [← Int32.toInt_toBitVec, BitVec.toInt_eq_toNat_of_lt (by omega), h]
theorem nat_xor1 (n : Nat) : n ^^^ 1 = n + 1 - 2 * (n % 2) := by
  have h0 : (n ^^^ 1) / 2 = n / 2 := by rw [Nat.xor_div_two]; simp
  have h1 : (n ^^^ 1) % 2 = (n + 1) % 2 := by
    have h2 : (n ^^^ 1) % 2 = 1 ↔ ¬ ((n % 2 = 1) ↔ (1 % 2 = 1)) := Nat.xor_mod_two_eq_one
    have h3 : (1 : Nat) % 2 = 1 := rfl
    rcases Nat.mod_two_eq_zero_or_one n with h | h
    · have h4 := h2.mpr (by omega); omega
    · have h4 : ¬ (n ^^^ 1) % 2 = 1 := fun h5 => h2.mp h5 ⟨fun _ => h3, fun _ => h⟩
      omega
  omega
theorem nb_xor1 {x : Int32} (h : 0 ≤ x.toInt) : (x ^^^ (1 : Int32)).toInt = x.toInt + 1 - 2 * (x.toInt % 2) := by
  have h1 := nb_nat h
  have h3 : (x ^^^ (1 : Int32)).toBitVec.toNat = x.toBitVec.toNat + 1 - 2 * (x.toBitVec.toNat % 2) := by
    rw [Int32.toBitVec_xor, BitVec.toNat_xor]
    exact nat_xor1 _
  have h4 := Int32.toInt_lt x
  rw [nb_ofnat h3 (by omega)]
  omega
theorem nb_shr (x s : Int32) (k : Nat) (p : Int) (hs : (s.toBitVec.smod 32).toNat = k) (hp : (2 : Int) ^ k = p) : (x >>> s).toInt = x.toInt / p := by
  rw [pk_shr x s k hs, Int.shiftRight_eq_div_pow, ← hp]
  norm_cast
theorem nb_div {x y : Int32} {c : Int} (hx : 0 ≤ x.toInt) (hy : y.toInt = c) (hc : 0 < c) : (x / y).toInt = x.toInt / c := by
  rw [Int32.toInt_div, hy, Int.tdiv_eq_ediv_of_nonneg hx]
  have h1 := Int.ediv_nonneg hx (Int.le_of_lt hc)
  have h2 := Int.ediv_le_self c hx
  have h3 := ti_hi x
  exact Int.bmod_eq_of_le (by omega) (by omega)
theorem nb_rem {x y : Int32} {c : Int} (hx : 0 ≤ x.toInt) (hy : y.toInt = c) (hc : 0 < c) : (x - x / y * y).toInt = x.toInt % c := by
  have h1 := nb_div hx hy hc
  have h2 := Int.ediv_nonneg hx (Int.le_of_lt hc)
  have h3 : x.toInt / c * c ≤ x.toInt := Int.ediv_mul_le _ (by omega)
  have h4 := ti_hi x
  have h6 : 0 ≤ x.toInt / c * c := Int.mul_nonneg h2 (by omega)
  have h5 : (x / y * y).toInt = x.toInt / c * c := ti_mul2 h1 hy (by omega) (by omega)
  rw [ti_sub2 rfl h5 (by omega) (by omega), Int.emod_def, Int.mul_comm c]
theorem nb_remb {x y : Int32} (hx : 0 ≤ x.toInt) (hy : 0 < y.toInt) : 0 ≤ (x - x / y * y).toInt ∧ (x - x / y * y).toInt < y.toInt := by
  rw [nb_rem hx rfl hy]
  exact ⟨Int.emod_nonneg _ (by omega), Int.emod_lt_of_pos _ hy⟩
theorem nb_divb {x y : Int32} (hx : 0 ≤ x.toInt) (hy : 0 < y.toInt) : 0 ≤ (x / y).toInt ∧ (x / y).toInt ≤ x.toInt := by
  rw [nb_div hx rfl hy]
  exact ⟨Int.ediv_nonneg hx (by omega), Int.ediv_le_self _ hx⟩
theorem nb_bool (x : Int32) : 0 ≤ (vp_nar .boolean x).toInt ∧ (vp_nar .boolean x).toInt ≤ 1 := nb_and x 1 1 rfl (by decide)
theorem nb_bool0 : (vp_nar .boolean 0).toInt = 0 := rfl
theorem nb_bool1 : (vp_nar .boolean 1).toInt = 1 := rfl
theorem nb_byte (x : Int32) : -128 ≤ (vp_nar .byte x).toInt ∧ (vp_nar .byte x).toInt ≤ 127 := by
  rw [vp_nar_byte, Int8.toInt_toInt32]
  have h1 := Int8.le_toInt x.toInt8
  have h2 := Int8.toInt_lt x.toInt8
  omega
theorem nb_byteq {x : Int32} (h1 : -128 ≤ x.toInt) (h2 : x.toInt ≤ 127) : (vp_nar .byte x).toInt = x.toInt := by
  rw [vp_nar_byte, Int8.toInt_toInt32, Int32.toInt_toInt8, Int.bmod_eq_of_le (by omega) (by omega)]
theorem nb_i2b (x : Int32) : -128 ≤ (x.toInt8).toInt32.toInt ∧ (x.toInt8).toInt32.toInt ≤ 127 := by
  have h := nb_byte x
  rw [vp_nar_byte] at h
  exact h
theorem nb_i2beq {x : Int32} (h1 : -128 ≤ x.toInt) (h2 : x.toInt ≤ 127) : (x.toInt8).toInt32.toInt = x.toInt := by
  have h := nb_byteq h1 h2
  rw [vp_nar_byte] at h
  exact h
theorem nb_mul {x y : Int32} {a b : Int} (hx0 : 0 ≤ x.toInt) (hx : x.toInt ≤ a) (hy0 : 0 ≤ y.toInt) (hy : y.toInt ≤ b) (h : a * b ≤ 2147483647) : 0 ≤ (x * y).toInt ∧ (x * y).toInt ≤ a * b := by
  have h1 : 0 ≤ x.toInt * y.toInt := Int.mul_nonneg hx0 hy0
  have h2 : x.toInt * y.toInt ≤ a * b := Int.mul_le_mul hx hy hy0 (by omega)
  rw [ti_mul (by omega) (by omega)]
  exact ⟨h1, h2⟩
theorem nb_cmp (x y : Int64) : ((lg_cmp x y).toInt < 0 ∧ x.toInt < y.toInt) ∨ ((lg_cmp x y).toInt = 0 ∧ x.toInt = y.toInt) ∨ (0 < (lg_cmp x y).toInt ∧ y.toInt < x.toInt) := by
  unfold lg_cmp
  split
  · next h => exact Or.inr (Or.inr ⟨by decide, Int64.lt_iff_toInt_lt.mp h⟩)
  · next h =>
    split
    · next h2 => exact Or.inr (Or.inl ⟨by decide, by rw [h2]⟩)
    · next h2 =>
      refine Or.inl ⟨by decide, ?_⟩
      have h3 : ¬ y.toInt < x.toInt := fun h4 => h (Int64.lt_iff_toInt_lt.mpr h4)
      have h4 : ¬ x.toInt = y.toInt := fun h5 => h2 (Int64.toInt_inj.mp h5)
      omega
theorem nb_ch (k : Nat) (i : Int32) : 0 ≤ (chT k i).toInt ∧ (chT k i).toInt ≤ 255 := nb_and _ 255 255 rfl (by decide)
/-- the places that a walk may have changed -/
abbrev Pl := List (Nat × Option Nat)
def hit (l : Pl) (k j : Nat) : Bool := l.any fun c => c.1 == k && (match c.2 with | none => true | some i => i == j)
def FR (l : Pl) (w w' : MW) : Prop := ∀ k j, hit l k j = false → w'.1 k j = w.1 k j ∧ w'.2.1 k j = w.2.1 k j ∧ w'.2.2 k j = w.2.2 k j
theorem FR.refl (l : Pl) (w : MW) : FR l w w := fun _ _ _ => ⟨rfl, rfl, rfl⟩
theorem FR.I {l : Pl} {w0 w : MW} (h : FR l w0 w) {k j : Nat} {v : Int32} (hk : hit l k j = true) : FR l w0 (sI w k j v) := fun a b hab => by
  refine ⟨?_, (h a b hab).2⟩
  rw [sI_at, if_neg (fun e => by rw [e.1, e.2, hk] at hab; cases hab)]
  exact (h a b hab).1
theorem FR.J {l : Pl} {w0 w : MW} (h : FR l w0 w) {k j : Nat} {v : Int64} (hk : hit l k j = true) : FR l w0 (sJ w k j v) := fun a b hab => by
  refine ⟨(h a b hab).1, ?_, (h a b hab).2.2⟩
  rw [sJ_at, if_neg (fun e => by rw [e.1, e.2, hk] at hab; cases hab)]
  exact (h a b hab).2.1
theorem FR.R {l : Pl} {w0 w : MW} (h : FR l w0 w) {k j : Nat} {v : Option Nat} (hk : hit l k j = true) : FR l w0 (sR w k j v) := fun a b hab => by
  refine ⟨(h a b hab).1, (h a b hab).2.1, ?_⟩
  rw [sR_at, if_neg (fun e => by rw [e.1, e.2, hk] at hab; cases hab)]
  exact (h a b hab).2.2
def sub (l m : Pl) : Bool := l.all fun c => m.any fun e => e.1 == c.1 && (match e.2 with | none => true | some i => c.2 == some i)
theorem sub_hit {l m : Pl} (h : sub l m = true) {k j : Nat} (hk : hit l k j = true) : hit m k j = true := by
  unfold hit at hk
  obtain ⟨c, hc, h1⟩ := List.any_eq_true.mp hk
  have h2 := List.all_eq_true.mp h c hc
  obtain ⟨e, he, h3⟩ := List.any_eq_true.mp h2
  refine List.any_eq_true.mpr ⟨e, he, ?_⟩
  simp only [Bool.and_eq_true, beq_iff_eq] at h1 h3 ⊢
  refine ⟨h3.1.trans h1.1, ?_⟩
  rcases e with ⟨e1, _ | e2⟩
  · rfl
  · have h4 : c.2 = some e2 := by simpa using h3.2
    have h5 := h1.2
    rw [h4] at h5
    exact h5
theorem FR.tr {l m : Pl} {w0 w w' : MW} (h : FR l w0 w) (h2 : FR m w w') (hs : sub m l = true) : FR l w0 w' := fun a b hab => by
  have e : hit m a b = false := by
    cases hm : hit m a b
    · rfl
    · rw [sub_hit hs hm] at hab; cases hab
  have h3 := h2 a b e
  have h4 := h a b hab
  exact ⟨h3.1.trans h4.1, h3.2.1.trans h4.2.1, h3.2.2.trans h4.2.2⟩
theorem st_1000a : ∀ n : Nat, n < 10 → 1 ≤ ((stT 1000).getD n 0).toInt ∧ ((stT 1000).getD n 0).toInt ≤ 48 ∧ (n = 9 ∨ ((stT 1000).getD n 0).toInt ≤ 4) := by decide
theorem st_1000 (i : Int32) (h : 0 ≤ i.toInt ∧ i.toInt < 10) : 1 ≤ ((stT 1000).getD i.toInt.toNat 0).toInt ∧ ((stT 1000).getD i.toInt.toNat 0).toInt ≤ 48 ∧ (i.toInt = 9 ∨ ((stT 1000).getD i.toInt.toNat 0).toInt ≤ 4) := by
  have h1 := st_1000a i.toInt.toNat (by omega)
  refine ⟨h1.1, h1.2.1, ?_⟩
  rcases h1.2.2 with h2 | h2
  · exact Or.inl (by omega)
  · exact Or.inr h2
theorem nb_ushr {x : Int32} (s : Int32) (k : Nat) (p : Int) (hs : ((s.toUInt32 &&& Int32.toUInt32 31).toBitVec % 32).toNat = k) (hp : ((2 ^ k : Nat) : Int) = p) (hx : 0 ≤ x.toInt) : ((x.toUInt32 >>> (s.toUInt32 &&& Int32.toUInt32 31)).toInt32).toInt = x.toInt / p := by
  have h1 := pk_ushr x s k hs
  have h2 := nb_nat hx
  have h3 := ti_hi x
  have h4 : x.toBitVec.toNat / 2 ^ k ≤ x.toBitVec.toNat := Nat.div_le_self _ _
  rw [nb_ofnat h1 (by omega), ← hp, ← h2]
  exact Int.natCast_ediv _ _
theorem nb_div10 {x y : Int32} (hx : 0 ≤ x.toInt) (hy : 0 < y.toInt) : 10 ≤ (x / y).toInt → 10 * y.toInt ≤ x.toInt := by
  rw [nb_div hx rfl hy]
  intro h
  have h1 : x.toInt / y.toInt * y.toInt ≤ x.toInt := Int.ediv_mul_le _ (by omega)
  have h2 : 10 * y.toInt ≤ x.toInt / y.toInt * y.toInt := Int.mul_le_mul_of_nonneg_right h (by omega)
  omega
theorem nb_ldiv {x y : Int64} {c : Int} (hx : 0 ≤ x.toInt) (hy : y.toInt = c) (hc : 0 < c) : (x / y).toInt = x.toInt / c := by
  rw [Int64.toInt_div, hy, Int.tdiv_eq_ediv_of_nonneg hx]
  have h1 := Int.ediv_nonneg hx (Int.le_of_lt hc)
  have h2 := Int.ediv_le_self c hx
  have h3 := Int64.toInt_lt x
  exact Int.bmod_eq_of_le (by omega) (by omega)
