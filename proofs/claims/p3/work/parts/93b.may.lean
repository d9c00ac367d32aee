/-! may: what may meet, as bits and as a table -/
def mb (x : Int32) (k : Nat) : Bool := x.toBitVec.getLsbD k
theorem mb_sm : ∀ n, n < 32 → ((nI n &&& 31).toBitVec.smod 32).toNat = n := by decide +kernel
theorem mb_tp : ∀ n, n < 32 → ((1 : Int32) <<< (nI n &&& 31)).toBitVec = BitVec.twoPow 32 n := by decide +kernel
theorem mb_or (x : Int32) {n j : Nat} (hn : n < 32) : mb (x ||| ((1 : Int32) <<< (nI n &&& 31))) j = (mb x j || decide (j = n)) := by
  unfold mb
  rw [Int32.toBitVec_or, BitVec.getLsbD_or, mb_tp n hn, BitVec.getLsbD_twoPow]
  by_cases h : j = n
  · subst h
    simp [hn]
  · have h' : ¬ n = j := fun e => h e.symm
    simp [h, h']
theorem mb_1b : ∀ i, i < 32 → ¬ i = 0 → ((1 : Int32).toBitVec).getLsbD i = false := by decide +kernel
theorem mb_and1 (y : Int32) : (y &&& (1 : Int32)).toInt = 0 ↔ mb y 0 = false := by
  have e0 : ((1 : Int32).toBitVec).getLsbD 0 = true := by decide
  constructor
  · intro h
    have h2 : y &&& (1 : Int32) = 0 := ti_inj (by rw [h]; exact i_0.symm)
    have h3 : (y &&& (1 : Int32)).toBitVec.getLsbD 0 = (0 : Int32).toBitVec.getLsbD 0 := by rw [h2]
    rw [Int32.toBitVec_and, BitVec.getLsbD_and, e0, Bool.and_true] at h3
    exact h3
  · intro h
    have h2 : y &&& (1 : Int32) = 0 := by
      apply Int32.toBitVec_inj.mp
      apply BitVec.eq_of_getLsbD_eq
      intro i hi
      rw [Int32.toBitVec_and, BitVec.getLsbD_and]
      by_cases e : i = 0
      · subst e
        have : y.toBitVec.getLsbD 0 = false := h
        rw [this]
        decide
      · rw [mb_1b i hi e, Bool.and_false]
        show false = (0#32).getLsbD i
        rw [BitVec.getLsbD_zero]
    rw [h2]
    exact i_0
theorem mb_bit (x : Int32) {n : Nat} (hn : n < 31) : ((x >>> (nI n &&& 31)) &&& (1 : Int32)).toInt = 0 ↔ mb x n = false := by
  rw [mb_and1]
  unfold mb
  rw [Int32.toBitVec_shiftRight]
  show (x.toBitVec.sshiftRight ((nI n &&& 31).toBitVec.smod 32).toNat).getLsbD 0 = false ↔ _
  rw [mb_sm n (by omega), BitVec.getLsbD_sshiftRight]
  have e : n + 0 < 32 := by omega
  simp [e]
  intro h
  omega
theorem nI_tn {a : Int32} (h : 0 ≤ a.toInt) : nI a.toInt.toNat = a := by
  apply ti_inj
  have h2 := ti_hi a
  rw [nI_toInt (by omega)]
  omega
/-- liquids that may meet: the bits of the class are the table of the reference -/
def MM (w : MW) : Prop := ∀ i j : Nat, 1 ≤ i → i ≤ 14 → 1 ≤ j → j ≤ 14 → (mb (w.1 22 i) j = false ↔ (w.1 175 (16 * i + j)).toInt = 0)
def CMy (w : MW) (a b : Int32) : Prop := (1 ≤ a.toInt ∧ a.toInt ≤ 14) ∧ (1 ≤ b.toInt ∧ b.toInt ≤ 14) ∧ ¬ a.toInt = b.toInt ∧ mb (w.1 22 a.toInt.toNat) b.toInt.toNat = false
/-- what the class's table is behind a call that was taken -/
def MyC (w w' : MW) (a b : Int32) : Prop := ∀ i j : Nat, 1 ≤ i → i ≤ 14 → 1 ≤ j → j ≤ 14 → mb (w'.1 22 i) j = (mb (w.1 22 i) j || decide ((i = a.toInt.toNat ∧ j = b.toInt.toNat) ∨ (i = b.toInt.toNat ∧ j = a.toInt.toNat)))
theorem cv_may {w : MW} {a b : Int32} {Q : Int32 → MW → Prop} (h : CI w) (hQ : ∀ r w', CI w' → FR l_Bh_may w w' → VL (CMy w a b) r → ((¬ CMy w a b ∧ w' = w) ∨ (CMy w a b ∧ MyC w w' a b)) → Q r w') : p_Bh_may w a b Q := by
  have no : ¬ CMy w a b → Q 0 w := fun n => hQ 0 w h (FR.refl _ w) (Or.inr ⟨n, rfl⟩) (Or.inl ⟨n, rfl⟩)
  refine Eq.mpr (p_Bh_may.eq_1 _ _ _ _) (bh_liq (fun n => ⟨fun _ => no (fun q => n q.1), fun z => absurd i_0 z⟩) (fun a1 a2 => ⟨fun z => absurd z (by decide), fun _ => bh_liq (fun n => ⟨fun _ => no (fun q => n q.2.1), fun z => absurd i_0 z⟩) (fun b1 b2 => ⟨fun z => absurd z (by decide), fun _ => ⟨fun c => no (fun q => q.2.2.1 c), fun c => ?_⟩⟩)⟩))
  have ga : 0 ≤ a.toInt ∧ a.toInt < 15 := ⟨by omega, by omega⟩
  have gb : 0 ≤ b.toInt ∧ b.toInt < 15 := ⟨by omega, by omega⟩
  have eb : nI b.toInt.toNat = b := nI_tn (by omega)
  have ea : nI a.toInt.toNat = a := nI_tn (by omega)
  have B := mb_bit (w.1 22 a.toInt.toNat) (n := b.toInt.toNat) (by omega)
  rw [eb] at B
  refine Eq.mpr (p_St_mayMeet.eq_1 _ _ _ _) ⟨ga, fun z => ⟨fun _ => ⟨ga, ga, gb, gb, ?_⟩, fun y => absurd i_0 y⟩, fun z => ⟨fun y => absurd y (by decide), fun _ => no (fun q => z (B.mpr q.2.2.2))⟩⟩
  have C : CMy w a b := ⟨⟨a1, a2⟩, ⟨b1, b2⟩, c, B.mp z⟩
  have F : FR l_Bh_may w (sI (sI w 22 a.toInt.toNat ((w.1 22 a.toInt.toNat) ||| ((1 : Int32) <<< (b &&& 31)))) 22 b.toInt.toNat (((sI w 22 a.toInt.toNat ((w.1 22 a.toInt.toNat) ||| ((1 : Int32) <<< (b &&& 31)))).1 22 b.toInt.toNat) ||| ((1 : Int32) <<< (a &&& 31)))) := FR.I (FR.I (FR.refl _ w) rfl) rfl
  refine hQ 1 _ (ci_fr h F (wbd_22 (wbd_22 h.1 _) _) rfl) F (Or.inl ⟨C, rfl⟩) (Or.inr ⟨C, fun i j i1 i2 j1 j2 => ?_⟩)
  have nab : ¬ b.toInt.toNat = a.toInt.toNat := by omega
  rw [sI_ne w 22 _ _ _ nab]
  have oa := mb_or (w.1 22 b.toInt.toNat) (n := a.toInt.toNat) (j := j) (by omega)
  have ob := mb_or (w.1 22 a.toInt.toNat) (n := b.toInt.toNat) (j := j) (by omega)
  rw [ea] at oa
  rw [eb] at ob
  by_cases e : i = b.toInt.toNat
  · rw [e, sI_same, oa]
    congr 1
    apply decide_eq_decide.mpr
    omega
  · rw [sI_ne _ _ _ _ _ e]
    by_cases e2 : i = a.toInt.toNat
    · rw [e2, sI_same, ob]
      congr 1
      apply decide_eq_decide.mpr
      omega
    · rw [sI_ne _ _ _ _ _ e2]
      have : decide ((i = a.toInt.toNat ∧ j = b.toInt.toNat) ∨ (i = b.toInt.toNat ∧ j = a.toInt.toNat)) = false := decide_eq_false (by omega)
      rw [this, Bool.or_false]
def CMm (w : MW) (a b : Int32) : Prop := (1 ≤ a.toInt ∧ a.toInt ≤ 14) ∧ (1 ≤ b.toInt ∧ b.toInt ≤ 14) ∧ ¬ a.toInt = b.toInt ∧ (w.1 175 (16 * a.toInt + b.toInt).toNat).toInt = 0
def MyM (w w' : MW) (a b : Int32) : Prop := ∀ i j : Nat, 1 ≤ i → i ≤ 14 → 1 ≤ j → j ≤ 14 → (w'.1 175 (16 * i + j)).toInt = (if (i = a.toInt.toNat ∧ j = b.toInt.toNat) ∨ (i = b.toInt.toNat ∧ j = a.toInt.toNat) then 1 else (w.1 175 (16 * i + j)).toInt)
theorem nb_b1 : (vp_nar .boolean (1 : Int32)).toInt = 1 := by decide
theorem mv_may {w : MW} {a b : Int32} {Q : Int32 → MW → Prop} (h : MdJ w) (hQ : ∀ r w', MdJ w' → FR l_Mo_may w w' → VL (CMm w a b) r → ((¬ CMm w a b ∧ w' = w) ∨ (CMm w a b ∧ MyM w w' a b)) → Q r w') : p_Mo_may w a b Q := by
  have no : ¬ CMm w a b → q_Mo_may_46 a b 0 w Q := fun n => Eq.mpr (q_Mo_may_46.eq_1 _ _ _ _ _) ⟨fun _ => ⟨Or.inl i_0, hQ 0 w h (FR.refl _ w) (Or.inr ⟨n, rfl⟩) (Or.inl ⟨n, rfl⟩)⟩, fun z => absurd i_0 z⟩
  refine Eq.mpr (p_Mo_may.eq_1 _ _ _ _) ⟨fun c => no (fun q => by have := q.1; omega), fun a1 => ⟨fun c => no (fun q => by have := q.1; omega), fun a2 => ⟨fun c => no (fun q => by have := q.2.1; omega), fun b1 => ⟨fun c => no (fun q => by have := q.2.1; omega), fun b2 => ⟨fun c => no (fun q => q.2.2.1 c), fun c => ?_⟩⟩⟩⟩⟩
  have m := ti_mul2 (by decide : ((16 : Int32)).toInt = 16) (Eq.refl a.toInt) (by omega) (by omega)
  have s := ti_add2 m (Eq.refl b.toInt) (by omega) (by omega)
  have m2 := ti_mul2 (by decide : ((16 : Int32)).toInt = 16) (Eq.refl b.toInt) (by omega) (by omega)
  have s2 := ti_add2 m2 (Eq.refl a.toInt) (by omega) (by omega)
  refine ⟨⟨by omega, by omega⟩, fun z => no (fun q => z (by rw [s]; exact q.2.2.2)), fun z => ?_⟩
  have z0 : (w.1 175 (16 * a.toInt + b.toInt).toNat).toInt = 0 := by
    rw [s] at z
    exact Classical.not_not.mp z
  have C : CMm w a b := ⟨⟨by omega, by omega⟩, ⟨by omega, by omega⟩, c, z0⟩
  have F : FR l_Mo_may w (sI (sI w 175 ((((16 : Int32) * a) + b).toInt.toNat) (vp_nar .boolean (1 : Int32))) 175 ((((16 : Int32) * b) + a).toInt.toNat) (vp_nar .boolean (1 : Int32))) := FR.I (FR.I (FR.refl _ w) rfl) rfl
  have n1 := nb_b1
  refine Eq.mpr (q_Mo_may_46.eq_1 _ _ _ _ _) ⟨fun y => absurd y (by decide), fun _ => ⟨⟨by omega, by omega⟩, ⟨by omega, by omega⟩, Or.inr i_1, hQ 1 _ (mj_fr h (wbd_175 (wbd_175 h.1.1 _ (by omega) (by omega)) _ (by omega) (by omega)) F rfl) F (Or.inl ⟨C, rfl⟩) (Or.inr ⟨C, fun i j i1 i2 j1 j2 => ?_⟩)⟩⟩
  rw [s, s2]
  by_cases e : 16 * i + j = (16 * b.toInt + a.toInt).toNat
  · rw [e, sI_same, n1, if_pos (by omega)]
  · rw [sI_ne _ _ _ _ _ e]
    by_cases e2 : 16 * i + j = (16 * a.toInt + b.toInt).toNat
    · rw [e2, sI_same, n1, if_pos (by omega)]
    · rw [sI_ne _ _ _ _ _ e2, if_neg (by omega)]
theorem cm_iff {w : MW} (hm : MM w) (a b : Int32) : CMy w a b ↔ CMm w a b := by
  constructor
  · intro q
    have q1 := q.1
    have q2 := q.2.1
    refine ⟨q.1, q.2.1, q.2.2.1, ?_⟩
    have g := (hm a.toInt.toNat b.toInt.toNat (by omega) (by omega) (by omega) (by omega)).mp q.2.2.2
    have e : 16 * a.toInt.toNat + b.toInt.toNat = (16 * a.toInt + b.toInt).toNat := by omega
    rw [e] at g
    exact g
  · intro q
    have q1 := q.1
    have q2 := q.2.1
    refine ⟨q.1, q.2.1, q.2.2.1, ?_⟩
    refine (hm a.toInt.toNat b.toInt.toNat (by omega) (by omega) (by omega) (by omega)).mpr ?_
    have e : 16 * a.toInt.toNat + b.toInt.toNat = (16 * a.toInt + b.toInt).toNat := by omega
    rw [e]
    exact q.2.2.2
/-- both tables behind a call on both sides -/
theorem mm_pair {w w1 w2 : MW} {a b : Int32} (hm : MM w) (h1 : (¬ CMy w a b ∧ w1.1 22 = w.1 22) ∨ (CMy w a b ∧ MyC w w1 a b)) (h2 : (¬ CMm w a b ∧ w2.1 175 = w.1 175) ∨ (CMm w a b ∧ MyM w w2 a b)) (e22 : w2.1 22 = w1.1 22) : MM w2 := by
  have ci := cm_iff hm a b
  rcases h1 with ⟨n1, k1⟩ | ⟨y1, k1⟩
  · rcases h2 with ⟨n2, k2⟩ | ⟨y2, k2⟩
    · intro i j i1 i2 j1 j2
      rw [e22, k1, k2]
      exact hm i j i1 i2 j1 j2
    · exact absurd (ci.mpr y2) n1
  · rcases h2 with ⟨n2, k2⟩ | ⟨y2, k2⟩
    · exact absurd (ci.mp y1) n2
    · intro i j i1 i2 j1 j2
      have g := hm i j i1 i2 j1 j2
      rw [e22, k1 i j i1 i2 j1 j2, k2 i j i1 i2 j1 j2]
      by_cases c : (i = a.toInt.toNat ∧ j = b.toInt.toNat) ∨ (i = b.toInt.toNat ∧ j = a.toInt.toNat)
      · rw [if_pos c, decide_eq_true c, Bool.or_true]
        exact ⟨fun z => absurd z (by decide), fun z => absurd z (by decide)⟩
      · rw [if_neg c, decide_eq_false c, Bool.or_false]
        exact g
