/-! the class adds a thing -/
def lAT : Pl := [(91, some 0), (92, none), (93, none), (94, none), (98, none)]
/-- a thing of kind a and room b was added -/
def AdT (w w' : MW) (a b : Int32) : Prop := (w'.1 91 0).toInt = (w.1 91 0).toInt + 1 ∧ (∀ j, w'.1 92 j = if j = (w.1 91 0).toInt.toNat then a else w.1 92 j) ∧ (∀ j, w'.1 93 j = if j = (w.1 91 0).toInt.toNat then b else w.1 93 j) ∧ (∀ j, w'.1 94 j = if j = (w.1 91 0).toInt.toNat then 0 else w.1 94 j) ∧ (∀ j, w'.1 98 j = if 4 * (w.1 91 0).toInt.toNat ≤ j ∧ j < 4 * (w.1 91 0).toInt.toNat + 4 then -1 else w.1 98 j)
theorem at_43 {z : MW} {T : Nat} {E : MW → Prop} {Q : Int32 → MW → Prop} (hT : (z.1 91 0).toInt = (T : Int)) (h20 : T < 20) (hE : ∀ w', BND w' → FR [(98, none)] z w' → (∀ j, w'.1 98 j = if 4 * T ≤ j ∧ j < 4 * T + 4 then -1 else z.1 98 j) → E w') (n : Nat) : ∀ (i : Nat) (w : MW), BND w → FR [(98, none)] z w → i ≤ 4 → (∀ j, w.1 98 j = if 4 * T ≤ j ∧ j < 4 * T + i then -1 else z.1 98 j) → 4 - i < n → q_Pl_addThings91_43 E Q n (nI i) w := by
  induction n with
  | zero => intros; omega
  | succ n ih =>
    intro i w hB hF hi hj hm
    have ti : (nI i).toInt = (i : Int) := nI_toInt (by omega)
    have e0 : (w.1 91 0).toInt = (T : Int) := by rw [(hF 91 0 rfl).1]; exact hT
    rw [q_Pl_addThings91_43.eq_2]
    refine ⟨fun c => ?_, fun c => ?_⟩
    · obtain rfl : i = 4 := by omega
      exact hE w hB hF hj
    have m := ti_mul2 e0 (by decide : ((4 : Int32)).toInt = 4) (by omega) (by omega)
    have s := ti_add2 m ti (by omega) (by omega)
    refine ⟨⟨by omega, by omega⟩, ?_⟩
    rw [nI_1]
    have e1 : (((w.1 91 0) * (4 : Int32)) + nI i).toInt.toNat = 4 * T + i := by omega
    rw [e1]
    refine ih (i + 1) _ (wbd_98 hB _ (by decide) (by decide)) (FR.I hF rfl) (by omega) (fun j => ?_) (by omega)
    by_cases q : j = 4 * T + i
    · rw [q, sI_same, if_pos (by omega)]
    · rw [sI_ne _ _ _ _ _ q, hj j]
      by_cases q2 : 4 * T ≤ j ∧ j < 4 * T + i
      · rw [if_pos q2, if_pos (by omega)]
      · rw [if_neg q2, if_neg (by omega)]
theorem add_t {w : MW} {a b : Int32} {Q : Int32 → MW → Prop} (hI : BND w) (a0 : 0 ≤ a.toInt) (a9 : a.toInt ≤ 9) (b0 : 0 ≤ b.toInt) (b1 : b.toInt ≤ 100000) (h1 : ∀ w', BND w' → FR lAT w w' → (w.1 91 0).toInt < 20 → AdT w w' a b → Q 1 w') (h0 : ¬ (w.1 91 0).toInt < 20 → Q 0 w) : p_Pl_addThings91 w a b Q := by
  have b91 := bd_91_0 hI
  refine Eq.mpr (p_Pl_addThings91.eq_1 _ _ _ _) ⟨fun c => ?_, fun c => h0 c⟩
  have g : 0 ≤ (w.1 91 0).toInt ∧ (w.1 91 0).toInt < 20 := ⟨b91.1, c⟩
  refine ⟨g, g, g, ?_⟩
  have hB : BND (sI (sI (sI w 92 ((w.1 91 0).toInt.toNat) a) 93 ((w.1 91 0).toInt.toNat) b) 94 ((w.1 91 0).toInt.toNat) 0) := wbd_94 (wbd_93 (wbd_92 hI _ a0 a9) _ b0 b1) _ (by decide) (by decide)
  have hF : FR lAT w (sI (sI (sI w 92 ((w.1 91 0).toInt.toNat) a) 93 ((w.1 91 0).toInt.toNat) b) 94 ((w.1 91 0).toInt.toNat) 0) := FR.I (FR.I (FR.I (FR.refl _ w) rfl) rfl) rfl
  have e0 : (sI (sI (sI w 92 ((w.1 91 0).toInt.toNat) a) 93 ((w.1 91 0).toInt.toNat) b) 94 ((w.1 91 0).toInt.toNat) 0).1 91 0 = w.1 91 0 := rfl
  have k2 : ∀ j, (sI (sI (sI w 92 ((w.1 91 0).toInt.toNat) a) 93 ((w.1 91 0).toInt.toNat) b) 94 ((w.1 91 0).toInt.toNat) 0).1 92 j = if j = (w.1 91 0).toInt.toNat then a else w.1 92 j := fun j => by
    rw [sI_oth _ _ _ _ _ _ (by decide), sI_oth _ _ _ _ _ _ (by decide), sI_at]
    by_cases q : j = (w.1 91 0).toInt.toNat
    · rw [if_pos q, if_pos ⟨rfl, q⟩]
    · rw [if_neg q, if_neg (fun z => q z.2)]
  have k3 : ∀ j, (sI (sI (sI w 92 ((w.1 91 0).toInt.toNat) a) 93 ((w.1 91 0).toInt.toNat) b) 94 ((w.1 91 0).toInt.toNat) 0).1 93 j = if j = (w.1 91 0).toInt.toNat then b else w.1 93 j := fun j => by
    rw [sI_oth _ _ _ _ _ _ (by decide), sI_at]
    by_cases q : j = (w.1 91 0).toInt.toNat
    · rw [if_pos q, if_pos ⟨rfl, q⟩]
    · rw [if_neg q, if_neg (fun z => q z.2), sI_oth _ _ _ _ _ _ (by decide)]
  have k4 : ∀ j, (sI (sI (sI w 92 ((w.1 91 0).toInt.toNat) a) 93 ((w.1 91 0).toInt.toNat) b) 94 ((w.1 91 0).toInt.toNat) 0).1 94 j = if j = (w.1 91 0).toInt.toNat then 0 else w.1 94 j := fun j => by
    rw [sI_at]
    by_cases q : j = (w.1 91 0).toInt.toNat
    · rw [if_pos q, if_pos ⟨rfl, q⟩]
    · rw [if_neg q, if_neg (fun z => q z.2), sI_oth _ _ _ _ _ _ (by decide), sI_oth _ _ _ _ _ _ (by decide)]
  have k8 : ∀ j, (sI (sI (sI w 92 ((w.1 91 0).toInt.toNat) a) 93 ((w.1 91 0).toInt.toNat) b) 94 ((w.1 91 0).toInt.toNat) 0).1 98 j = w.1 98 j := fun j => rfl
  generalize (sI (sI (sI w 92 ((w.1 91 0).toInt.toNat) a) 93 ((w.1 91 0).toInt.toNat) b) 94 ((w.1 91 0).toInt.toNat) 0) = z at *
  have e00 : (0 : Int32) = nI 0 := rfl
  rw [e00]
  refine at_43 (z := z) (T := (w.1 91 0).toInt.toNat) (by rw [e0]; omega) (by omega) (fun w7 B7 F7 g7 => ?_) FU 0 z hB (FR.refl _ z) (by omega) (fun j => by rw [if_neg (by omega)]) (fu_lt (by decide))
  have e7 : w7.1 91 0 = w.1 91 0 := ((F7 91 0 rfl).1).trans e0
  have s := ti_add2 (Eq.refl (w7.1 91 0).toInt) i_1 (by rw [e7]; omega) (by rw [e7]; omega)
  have F9 : FR [(98, none), (91, some 0)] z (sI w7 91 0 ((w7.1 91 0) + (1 : Int32))) := FR.I (FR.tr (FR.refl _ z) F7 rfl) rfl
  refine h1 _ (wbd_91_0 B7 (by rw [s, e7]; omega) (by rw [s, e7]; omega)) (hF.tr F9 rfl) c ⟨?_, fun j => ?_, fun j => ?_, fun j => ?_, fun j => ?_⟩
  · rw [sI_same, s, e7]
  · rw [(F9 92 j rfl).1]
    exact k2 j
  · rw [(F9 93 j rfl).1]
    exact k3 j
  · rw [(F9 94 j rfl).1]
    exact k4 j
  · rw [sI_oth _ _ _ _ _ _ (by decide), g7 j, k8 j]
