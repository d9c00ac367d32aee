/-! the bits of a long -/
def lb (v : Int64) (x : Nat) : Bool := v.toBitVec.getLsbD x
theorem lb_or (a b : Int64) (x : Nat) : lb (a ||| b) x = (lb a x || lb b x) := by
  unfold lb
  rw [l_or, BitVec.getLsbD_or]
theorem lb_and (a b : Int64) (x : Nat) : lb (a &&& b) x = (lb a x && lb b x) := by
  unfold lb
  rw [l_an, BitVec.getLsbD_and]
theorem lb_ge (a : Int64) (x : Nat) (h : 64 ≤ x) : lb a x = false := BitVec.getLsbD_of_ge _ _ h
theorem lb_0 (x : Nat) : lb 0 x = false := by
  show (0#64).getLsbD x = false
  rw [BitVec.getLsbD_zero]
theorem lb_1 (x : Nat) : lb 1 x = decide (x = 0) := l_1 x
theorem lb_m1 (x : Nat) : lb ((-1) : Int64) x = decide (x < 64) := by
  have e : ((-1 : Int64)).toBitVec = BitVec.allOnes 64 := by decide
  unfold lb
  rw [e, BitVec.getLsbD_allOnes]
theorem lb_andn (a b : Int64) (x : Nat) : lb (a &&& (b ^^^ ((-1) : Int64))) x = (lb a x && !(lb b x)) := by
  by_cases h : x < 64
  · have e : lb (b ^^^ ((-1) : Int64)) x = !(lb b x) := by
      have m := lb_m1 x
      rw [decide_eq_true h] at m
      unfold lb at m ⊢
      rw [l_xo, BitVec.getLsbD_xor, m]
      cases b.toBitVec.getLsbD x <;> rfl
    rw [lb_and, e]
  · rw [lb_ge _ x (by omega), lb_ge a x (by omega)]
    rfl
theorem cmp_0 (x y : Int64) : (lg_cmp x y).toInt = 0 ↔ x = y := by
  have h := nb_cmp x y
  constructor
  · intro e
    exact Int64.toInt_inj.mp (by omega)
  · intro e
    subst e
    omega
theorem lb_ext {a b : Int64} (h : ∀ x, x < 64 → lb a x = lb b x) : a = b := by
  apply Int64.toBitVec_inj.mp
  apply BitVec.eq_of_getLsbD_eq
  intro i hi
  exact h i hi
theorem lb_tpn {n x : Nat} (hn : n < 64) : (BitVec.twoPow 64 n).getLsbD x = decide (x = n) := by
  rw [BitVec.getLsbD_twoPow]
  by_cases h : x = n
  · subst h
    simp [hn]
  · have h' : ¬ n = x := fun e => h e.symm
    simp [h, h']
theorem lb_tp : ∀ n, n < 64 → ((1 : Int64) <<< ((nI n).toInt64 &&& 63)).toBitVec = BitVec.twoPow 64 n := by decide +kernel
theorem lb_set {a : Int32} (h0 : 0 ≤ a.toInt) (h1 : a.toInt < 64) (x : Nat) : lb ((1 : Int64) <<< (a.toInt64 &&& 63)) x = decide (x = a.toInt.toNat) := by
  have e := lb_tp a.toInt.toNat (by omega)
  rw [nI_tn h0] at e
  unfold lb
  rw [e]
  exact lb_tpn (by omega)
theorem lb_and1 (y : Int64) : (lg_cmp (y &&& (1 : Int64)) (0 : Int64)).toInt = 0 ↔ lb y 0 = false := by
  rw [cmp_0]
  constructor
  · intro e
    have h : lb (y &&& (1 : Int64)) 0 = lb 0 0 := by rw [e]
    rw [lb_and, lb_1, lb_0, decide_eq_true rfl, Bool.and_true] at h
    exact h
  · intro e
    refine lb_ext (fun x _ => ?_)
    rw [lb_and, lb_1, lb_0]
    by_cases q : x = 0
    · rw [q, e]
      rfl
    · rw [decide_eq_false q, Bool.and_false]
theorem lb_sm : ∀ n, n < 64 → (((nI n).toInt64 &&& 63).toBitVec.smod 64).toNat = n := by decide +kernel
theorem lb_bitn (v : Int64) {n : Nat} (hn : n < 63) : (lg_cmp ((v >>> ((nI n).toInt64 &&& 63)) &&& (1 : Int64)) (0 : Int64)).toInt = 0 ↔ lb v n = false := by
  rw [lb_and1]
  unfold lb
  rw [Int64.toBitVec_shiftRight]
  show (v.toBitVec.sshiftRight (((nI n).toInt64 &&& 63).toBitVec.smod 64).toNat).getLsbD 0 = false ↔ _
  rw [lb_sm n (by omega), BitVec.getLsbD_sshiftRight]
  have e : n + 0 < 64 := by omega
  simp [e]
  intro h
  omega
theorem lb_bit (v : Int64) {a : Int32} (h0 : 0 ≤ a.toInt) (h1 : a.toInt < 63) : (lg_cmp ((v >>> (a.toInt64 &&& 63)) &&& (1 : Int64)) (0 : Int64)).toInt = 0 ↔ lb v a.toInt.toNat = false := by
  have e := lb_bitn v (n := a.toInt.toNat) (by omega)
  rw [nI_tn h0] at e
  exact e
/-- the lowest bit that is set -/
def low (v : Int64) (k : Nat) : Prop := k < 64 ∧ lb v k = true ∧ ∀ j, j < k → lb v j = false
theorem least_ex {P : Nat → Prop} (n : Nat) (h : P n) : ∃ k, P k ∧ ∀ j, j < k → ¬ P j := by
  induction n using Nat.strongRecOn with
  | ind n ih =>
    by_cases q : ∃ j, j < n ∧ P j
    · obtain ⟨j, hj, pj⟩ := q
      exact ih j hj pj
    · exact ⟨n, h, fun j hj pj => q ⟨j, hj, pj⟩⟩
theorem low_ex {v : Int64} (h : ¬ v = 0) : ∃ k, low v k := by
  have hx : ∃ x, lb v x = true := by
    apply Classical.byContradiction
    intro n
    refine h (lb_ext (fun x _ => ?_))
    rw [lb_0]
    cases e : lb v x with
    | false => rfl
    | true => exact absurd ⟨x, e⟩ n
  obtain ⟨x, hx⟩ := hx
  obtain ⟨k, hk, hl⟩ := least_ex (P := fun k => lb v k = true) x hx
  refine ⟨k, ?_, hk, fun j hj => ?_⟩
  · by_cases q : k < 64
    · exact q
    · have := lb_ge v k (by omega)
      rw [this] at hk
      cases hk
  · cases e : lb v j with
    | false => rfl
    | true => exact absurd e (hl j hj)
theorem low_u {v : Int64} {k l : Nat} (h : low v k) (h' : low v l) : k = l := by
  rcases Nat.lt_trichotomy k l with q | q | q
  · have := h'.2.2 k q
    rw [h.2.1] at this
    cases this
  · exact q
  · have := h.2.2 l q
    rw [h'.2.1] at this
    cases this
theorem tb_pred : ∀ (k n : Nat), n.testBit k = true → (∀ j, j < k → n.testBit j = false) → ∀ j, (n - 1).testBit j = (if j < k then true else if j = k then false else n.testBit j) := by
  intro k
  induction k with
  | zero =>
    intro n h _ j
    rw [if_neg (by omega)]
    have h1 : n % 2 = 1 := by
      rw [Nat.testBit_zero] at h
      exact of_decide_eq_true h
    cases j with
    | zero =>
      rw [if_pos rfl, Nat.testBit_zero]
      exact decide_eq_false (by omega)
    | succ j =>
      rw [if_neg (by omega), Nat.testBit_add_one, Nat.testBit_add_one]
      have : (n - 1) / 2 = n / 2 := by omega
      rw [this]
  | succ k ih =>
    intro n h hl j
    have h0 : n % 2 = 0 := by
      have z := hl 0 (by omega)
      rw [Nat.testBit_zero] at z
      have z2 := of_decide_eq_false z
      omega
    have hm : (n / 2).testBit k = true := by
      rw [← Nat.testBit_add_one]
      exact h
    have hn : 0 < n / 2 := by
      rcases Nat.eq_zero_or_pos (n / 2) with z | z
      · rw [z, Nat.zero_testBit] at hm
        cases hm
      · exact z
    have hl2 : ∀ i, i < k → (n / 2).testBit i = false := fun i hi => by
      rw [← Nat.testBit_add_one]
      exact hl (i + 1) (by omega)
    cases j with
    | zero =>
      rw [if_pos (by omega), Nat.testBit_zero]
      exact decide_eq_true (by omega)
    | succ j =>
      have e : (n - 1) / 2 = n / 2 - 1 := by omega
      rw [Nat.testBit_add_one, Nat.testBit_add_one, e, ih (n / 2) hm hl2 j]
      by_cases c1 : j < k
      · rw [if_pos c1, if_pos (by omega)]
      · rw [if_neg c1, if_neg (show ¬ j + 1 < k + 1 by omega)]
        by_cases c2 : j = k
        · rw [if_pos c2, if_pos (show j + 1 = k + 1 by omega)]
        · rw [if_neg c2, if_neg (show ¬ j + 1 = k + 1 by omega)]
theorem lb_pred {v : Int64} {k : Nat} (h : low v k) (j : Nat) : lb (v - (1 : Int64)) j = (if j < k then true else if j = k then false else lb v j) := by
  have hp : v.toBitVec.toNat ≠ 0 := fun z => by
    have q : v.toBitVec.toNat.testBit k = true := h.2.1
    rw [z, Nat.zero_testBit] at q
    cases q
  have e : (v - (1 : Int64)).toBitVec.toNat = v.toBitVec.toNat - 1 := by
    rw [Int64.toBitVec_sub, BitVec.toNat_sub]
    have e1 : ((1 : Int64).toBitVec).toNat = 1 := by decide
    have hl := v.toBitVec.isLt
    rw [e1]
    omega
  show (v - (1 : Int64)).toBitVec.toNat.testBit j = _
  rw [e]
  exact tb_pred k v.toBitVec.toNat h.2.1 h.2.2 j
/-- the lowest bit is taken away -/
theorem lb_clr {v : Int64} {k : Nat} (h : low v k) (j : Nat) : lb (v &&& (v - (1 : Int64))) j = (lb v j && !(decide (j = k))) := by
  rw [lb_and, lb_pred h j]
  by_cases c1 : j < k
  · rw [h.2.2 j c1]
    rfl
  · rw [if_neg c1]
    by_cases c2 : j = k
    · rw [if_pos c2, decide_eq_true c2]
      rfl
    · rw [if_neg c2, decide_eq_false c2]
      cases lb v j <;> rfl
/-! numberOfTrailingZeros -/
def lo32 (v : Int32) (k : Nat) : Prop := k < 32 ∧ mb v k = true ∧ ∀ j, j < k → mb v j = false
theorem mb_pred {v : Int32} {k : Nat} (h : lo32 v k) (j : Nat) : mb (v - (1 : Int32)) j = (if j < k then true else if j = k then false else mb v j) := by
  have hp : v.toBitVec.toNat ≠ 0 := fun z => by
    have q : v.toBitVec.toNat.testBit k = true := h.2.1
    rw [z, Nat.zero_testBit] at q
    cases q
  have e : (v - (1 : Int32)).toBitVec.toNat = v.toBitVec.toNat - 1 := by
    rw [Int32.toBitVec_sub, BitVec.toNat_sub]
    have e1 : ((1 : Int32).toBitVec).toNat = 1 := by decide
    have hl := v.toBitVec.isLt
    rw [e1]
    omega
  show (v - (1 : Int32)).toBitVec.toNat.testBit j = _
  rw [e]
  exact tb_pred k v.toBitVec.toNat h.2.1 h.2.2 j
theorem mb_m1 {j : Nat} (h : j < 32) : ((-1) : Int32).toBitVec.getLsbD j = true := by
  have e : ((-1 : Int32)).toBitVec = BitVec.allOnes 32 := by decide
  rw [e, BitVec.getLsbD_allOnes, decide_eq_true h]
def i32m (k : Nat) : Int32 := ((1 : Int32) <<< (nI k &&& 31)) - (1 : Int32)
theorem i32m_b : ∀ k, k < 32 → ∀ j, j < 32 → mb (i32m k) j = decide (j < k) := by decide +kernel
theorem nz_mask {v : Int32} {k : Nat} (h : lo32 v k) : ((v ^^^ ((-1) : Int32)) &&& (v - (1 : Int32))) = i32m k := by
  apply Int32.toBitVec_inj.mp
  apply BitVec.eq_of_getLsbD_eq
  intro j hj
  have e1 := i32m_b k h.1 j hj
  have e2 := mb_pred h j
  have e3 := mb_m1 hj
  unfold mb at e1 e2
  rw [e1, Int32.toBitVec_and, BitVec.getLsbD_and, Int32.toBitVec_xor, BitVec.getLsbD_xor, e2, e3]
  by_cases c1 : j < k
  · have z : v.toBitVec.getLsbD j = false := h.2.2 j c1
    rw [if_pos c1, z, decide_eq_true c1]
    rfl
  · rw [if_neg c1, decide_eq_false c1]
    by_cases c2 : j = k
    · rw [if_pos c2, Bool.and_false]
    · rw [if_neg c2]
      cases v.toBitVec.getLsbD j <;> rfl
def nz62 (a b : Int32) : Int32 := if a.toInt ≤ 4 then b + ((a.toUInt32 >>> ((1 : Int32).toUInt32 &&& Int32.toUInt32 31)).toInt32) else (b + (2 : Int32)) + ((((a.toUInt32 >>> ((2 : Int32).toUInt32 &&& Int32.toUInt32 31)).toInt32).toUInt32 >>> ((1 : Int32).toUInt32 &&& Int32.toUInt32 31)).toInt32)
def nz34 (a b : Int32) : Int32 := if a.toInt ≤ 256 then (if a.toInt ≤ 16 then nz62 a b else nz62 ((a.toUInt32 >>> ((4 : Int32).toUInt32 &&& Int32.toUInt32 31)).toInt32) (b + (4 : Int32))) else (if ((a.toUInt32 >>> ((8 : Int32).toUInt32 &&& Int32.toUInt32 31)).toInt32).toInt ≤ 16 then nz62 ((a.toUInt32 >>> ((8 : Int32).toUInt32 &&& Int32.toUInt32 31)).toInt32) (b + (8 : Int32)) else nz62 ((((a.toUInt32 >>> ((8 : Int32).toUInt32 &&& Int32.toUInt32 31)).toInt32).toUInt32 >>> ((4 : Int32).toUInt32 &&& Int32.toUInt32 31)).toInt32) ((b + (8 : Int32)) + (4 : Int32)))
def nzf (i : Int32) : Int32 := if 0 < i.toInt then (if i.toInt ≤ 65536 then nz34 i 1 else nz34 ((i.toUInt32 >>> ((16 : Int32).toUInt32 &&& Int32.toUInt32 31)).toInt32) ((1 : Int32) + (16 : Int32))) else i &&& (32 : Int32)
theorem nzf_t : ∀ k, k < 32 → nzf (i32m k) = nI k := by decide +kernel
theorem pif {c : Prop} [Decidable c] {A B : Prop} {P : Int32 → Prop} {a b : Int32} (hA : A ↔ P a) (hB : B ↔ P b) : ((c → A) ∧ (¬ c → B)) ↔ P (if c then a else b) := by
  by_cases h : c
  · rw [if_pos h]
    exact ⟨fun x => hA.mp (x.1 h), fun x => ⟨fun _ => hA.mpr x, fun n => absurd h n⟩⟩
  · rw [if_neg h]
    exact ⟨fun x => hB.mp (x.2 h), fun x => ⟨fun z => absurd z h, fun _ => hB.mpr x⟩⟩
theorem nz_62 (a b : Int32) (w : MW) (Q : Int32 → MW → Prop) : q_In_numberOfTrailingZeros_62 a b w Q ↔ Q (nz62 a b) w := by
  rw [q_In_numberOfTrailingZeros_62.eq_1]
  exact pif (P := fun r => Q r w) Iff.rfl Iff.rfl
theorem nz_34 (a b : Int32) (w : MW) (Q : Int32 → MW → Prop) : q_In_numberOfTrailingZeros_34 a b w Q ↔ Q (nz34 a b) w := by
  rw [q_In_numberOfTrailingZeros_34.eq_1]
  exact pif (P := fun r => Q r w) (pif (P := fun r => Q r w) (nz_62 _ _ _ _) (nz_62 _ _ _ _)) (pif (P := fun r => Q r w) (nz_62 _ _ _ _) (nz_62 _ _ _ _))
theorem nz_in0 (a : Int32) (w : MW) (Q : Int32 → MW → Prop) : p_In_numberOfTrailingZeros w a Q ↔ Q (nzf ((a ^^^ ((-1) : Int32)) &&& (a - (1 : Int32)))) w := by
  rw [p_In_numberOfTrailingZeros.eq_1]
  exact pif (P := fun r => Q r w) (pif (P := fun r => Q r w) (nz_34 _ _ _ _) (nz_34 _ _ _ _)) Iff.rfl
theorem nz_in {a : Int32} {k : Nat} (h : lo32 a k) (w : MW) (Q : Int32 → MW → Prop) : p_In_numberOfTrailingZeros w a Q ↔ Q (nI k) w := by
  rw [nz_in0, nz_mask h, nzf_t k h.1]
theorem mb_l2i (v : Int64) {j : Nat} (h : j < 32) : mb (Int64.toInt32 v) j = lb v j := by
  show (v.toBitVec.signExtend 32).getLsbD j = _
  rw [BitVec.getLsbD_signExtend, decide_eq_true h, if_pos (by omega), Bool.true_and]
  rfl
theorem mb_h2i (v : Int64) {j : Nat} (h : j < 32) : mb (Int64.toInt32 ((v.toUInt64 >>> ((32 : Int32).toInt64.toUInt64 &&& Int64.toUInt64 63)).toInt64)) j = lb v (32 + j) := by
  have e : ((v.toUInt64 >>> ((32 : Int32).toInt64.toUInt64 &&& Int64.toUInt64 63)).toInt64).toBitVec = v.toBitVec >>> 32 := rfl
  rw [mb_l2i _ h]
  unfold lb
  rw [e, BitVec.getLsbD_ushiftRight]
theorem mb_0 {x : Int32} (h : ∀ j, j < 32 → mb x j = false) : x.toInt = 0 := by
  have e : x = 0 := by
    apply Int32.toBitVec_inj.mp
    apply BitVec.eq_of_getLsbD_eq
    intro i hi
    have q : x.toBitVec.getLsbD i = false := h i hi
    rw [q]
    show false = (0#32).getLsbD i
    rw [BitVec.getLsbD_zero]
  rw [e]
  exact i_0
theorem nI_32 : ∀ k, k < 32 → (32 : Int32) + nI k = nI (32 + k) := by decide +kernel
theorem nz_lo {v : Int64} {k : Nat} (h : low v k) (w : MW) (Q : Int32 → MW → Prop) : p_Lo_numberOfTrailingZeros w v Q ↔ Q (nI k) w := by
  rw [p_Lo_numberOfTrailingZeros.eq_1]
  by_cases c : k < 32
  · have l : lo32 (Int64.toInt32 v) k := ⟨c, by rw [mb_l2i v c]; exact h.2.1, fun j hj => by rw [mb_l2i v (by omega)]; exact h.2.2 j hj⟩
    have nz : ¬ (Int64.toInt32 v).toInt = 0 := fun z => by
      have e : Int64.toInt32 v = 0 := ti_inj (by rw [z, i_0])
      have q := l.2.1
      rw [e] at q
      have q2 : mb 0 k = false := by
        show (0#32).getLsbD k = false
        rw [BitVec.getLsbD_zero]
      rw [q2] at q
      cases q
    constructor
    · intro x
      exact (nz_in l w _).mp (x.1 nz)
    · intro x
      exact ⟨fun _ => (nz_in l w _).mpr x, fun n => absurd nz n⟩
  · have z : (Int64.toInt32 v).toInt = 0 := mb_0 (fun j hj => by rw [mb_l2i v hj]; exact h.2.2 j (by omega))
    have hk := h.1
    have l : lo32 (Int64.toInt32 ((v.toUInt64 >>> ((32 : Int32).toInt64.toUInt64 &&& Int64.toUInt64 63)).toInt64)) (k - 32) := ⟨by omega, by rw [mb_h2i v (by omega), show 32 + (k - 32) = k by omega]; exact h.2.1, fun j hj => by rw [mb_h2i v (by omega)]; exact h.2.2 (32 + j) (by omega)⟩
    have e : (32 : Int32) + nI (k - 32) = nI k := by rw [nI_32 (k - 32) (by omega), show 32 + (k - 32) = k by omega]
    constructor
    · intro x
      have q := (nz_in l w _).mp (x.2 (fun n => n z))
      rw [← e]
      exact q
    · intro x
      refine ⟨fun n => absurd z n, fun _ => (nz_in l w _).mpr ?_⟩
      show Q ((32 : Int32) + nI (k - 32)) w
      rw [e]
      exact x
