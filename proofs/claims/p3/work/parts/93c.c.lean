/-! the text of a plant, and how the class writes it -/
def pwu : Nat → Int
  | 0 => 0
  | 1 => 1
  | 2 => 10
  | 3 => 100
  | 4 => 1000
  | 5 => 10000
  | _ => 100000
def dgt : Nat → Int → List Int
  | 0, _ => []
  | k + 1, n => (48 + n / pwu (k + 1) % 10) :: dgt k n
def npw (n : Int) : Nat := if n < 10 then 0 else if n < 100 then 1 else if n < 1000 then 2 else if n < 10000 then 3 else if n < 100000 then 4 else 5
/-- a number's digits -/
def num (n : Int) : List Int := dgt (npw n + 1) n
def endT (n : Int) : List Int := if n = -1 then [45] else num n
/-- a line's bytes -/
def lnT (x : Ln) : List Int := if x.1 = 0 then [116, 97, 110, 107, 32] ++ num x.2.1 ++ [10] else if x.1 = 1 then [112, 117, 109, 112] ++ [10] else if x.1 = 2 then [118, 97, 108, 118, 101, 32] ++ num x.2.1 ++ [10] else [112, 105, 112, 101, 32] ++ endT x.2.1 ++ [32] ++ endT x.2.2.1 ++ [32] ++ num x.2.2.2 ++ [10]
def txl (l : List Ln) : List Int := (l.map lnT).flatten
def txt (ls : List Ln) : List Int := txl (thg ls) ++ txl (pip ls)
theorem txl_s (l : List Ln) (x : Ln) : txl (l ++ [x]) = txl l ++ lnT x := by
  unfold txl
  rw [List.map_append, List.flatten_append, List.map_cons, List.map_nil, List.flatten_cons, List.flatten_nil, List.append_nil]
theorem npw_v (n : Int) : (n < 10 ∧ npw n = 0) ∨ (10 ≤ n ∧ n < 100 ∧ npw n = 1) ∨ (100 ≤ n ∧ n < 1000 ∧ npw n = 2) ∨ (1000 ≤ n ∧ n < 10000 ∧ npw n = 3) ∨ (10000 ≤ n ∧ n < 100000 ∧ npw n = 4) ∨ (100000 ≤ n ∧ npw n = 5) := by
  unfold npw
  by_cases c1 : n < 10
  · exact Or.inl ⟨c1, if_pos c1⟩
  rw [if_neg c1]
  by_cases c2 : n < 100
  · exact Or.inr (Or.inl ⟨by omega, c2, if_pos c2⟩)
  rw [if_neg c2]
  by_cases c3 : n < 1000
  · exact Or.inr (Or.inr (Or.inl ⟨by omega, c3, if_pos c3⟩))
  rw [if_neg c3]
  by_cases c4 : n < 10000
  · exact Or.inr (Or.inr (Or.inr (Or.inl ⟨by omega, c4, if_pos c4⟩)))
  rw [if_neg c4]
  by_cases c5 : n < 100000
  · exact Or.inr (Or.inr (Or.inr (Or.inr (Or.inl ⟨by omega, c5, if_pos c5⟩))))
  · exact Or.inr (Or.inr (Or.inr (Or.inr (Or.inr ⟨by omega, if_neg c5⟩))))
theorem pwu_c {k : Nat} (h : k ≤ 5) : (k = 0 ∧ pwu (k + 1) = 1) ∨ (k = 1 ∧ pwu (k + 1) = 10) ∨ (k = 2 ∧ pwu (k + 1) = 100) ∨ (k = 3 ∧ pwu (k + 1) = 1000) ∨ (k = 4 ∧ pwu (k + 1) = 10000) ∨ (k = 5 ∧ pwu (k + 1) = 100000) := by
  have : k = 0 ∨ k = 1 ∨ k = 2 ∨ k = 3 ∨ k = 4 ∨ k = 5 := by omega
  rcases this with rfl | rfl | rfl | rfl | rfl | rfl <;> decide
theorem npw_c {n : Int} {k : Nat} (n0 : 0 ≤ n) (h : k ≤ npw n) : (n / pwu (k + 1) < 10 → n < 1000000 → k = npw n) ∧ (¬ n / pwu (k + 1) < 10 → n < 1000000 → k + 1 ≤ npw n) := by
  have v := npw_v n
  have k5 : k ≤ 5 := by omega
  rcases pwu_c k5 with ⟨e, p⟩ | ⟨e, p⟩ | ⟨e, p⟩ | ⟨e, p⟩ | ⟨e, p⟩ | ⟨e, p⟩
  · rw [p]
    exact ⟨fun _ _ => by omega, fun _ _ => by omega⟩
  · rw [p]
    exact ⟨fun _ _ => by omega, fun _ _ => by omega⟩
  · rw [p]
    exact ⟨fun _ _ => by omega, fun _ _ => by omega⟩
  · rw [p]
    exact ⟨fun _ _ => by omega, fun _ _ => by omega⟩
  · rw [p]
    exact ⟨fun _ _ => by omega, fun _ _ => by omega⟩
  · rw [p]
    exact ⟨fun _ _ => by omega, fun _ _ => by omega⟩
theorem pwu_p {k : Nat} (h : k ≤ 5) : 1 ≤ pwu (k + 1) ∧ pwu (k + 1) ≤ 100000 ∧ pwu (k + 1) / 10 = pwu k := by
  have : k = 0 ∨ k = 1 ∨ k = 2 ∨ k = 3 ∨ k = 4 ∨ k = 5 := by omega
  rcases this with rfl | rfl | rfl | rfl | rfl | rfl <;> decide
theorem pwu_10 {k : Nat} (h : k ≤ 4) : pwu (k + 1) * 10 = pwu (k + 1 + 1) := by
  have : k = 0 ∨ k = 1 ∨ k = 2 ∨ k = 3 ∨ k = 4 := by omega
  rcases this with rfl | rfl | rfl | rfl | rfl <;> decide
theorem dgt_l (k : Nat) (n : Int) : (dgt k n).length = k := by
  induction k with
  | zero => rfl
  | succ k ih =>
    show (dgt k n).length + 1 = k + 1
    rw [ih]
theorem npw_5 (n : Int) : npw n ≤ 5 := by
  have := npw_v n
  omega
theorem num_l (n : Int) : (num n).length = npw n + 1 := dgt_l _ _
/-- what is written so far, up to place a -/
def WT (w : MW) (a : Int32) (L : List Int) : Prop := a.toInt = (L.length : Int) ∧ ∀ (j : Nat) (c : Int), L[j]? = some c → (w.1 123 j).toInt = c
theorem wt_s {w : MW} {a v : Int32} {L : List Int} {c : Int} (h : WT w a L) (hl : L.length < 640) (hv : v.toInt = c) : WT (sI w 123 a.toInt.toNat v) (a + (1 : Int32)) (L ++ [c]) := by
  have h1 := h.1
  have e := ti_add2 h1 i_1 (by omega) (by omega)
  have n : a.toInt.toNat = L.length := by omega
  refine ⟨?_, fun j d q => ?_⟩
  · rw [e, List.length_append]
    rfl
  · rw [sI_if, n]
    by_cases c1 : j = L.length
    · rw [if_pos c1]
      rw [c1, List.getElem?_append_right (Nat.le_refl _), Nat.sub_self] at q
      have : c = d := Option.some.inj q
      rw [hv, this]
    · rw [if_neg c1]
      have l2 := (List.getElem?_eq_some_iff.mp q).1
      rw [List.length_append] at l2
      have : ([c] : List Int).length = 1 := rfl
      rw [List.getElem?_append_left (by omega)] at q
      exact h.2 j d q
theorem nby {x : Int32} (h1 : -128 ≤ x.toInt) (h2 : x.toInt ≤ 127) : (vp_nar .byte ((Int32.toInt8 x).toInt32)).toInt = x.toInt := by
  have e := nb_i2beq h1 h2
  rw [nb_byteq (by omega) (by omega), e]
theorem ch_1 : ∀ i, i < 5 → 0 ≤ (chT 1 (nI i)).toInt ∧ (chT 1 (nI i)).toInt ≤ 127 := by decide +kernel
theorem pw_1 {w0 : MW} {L : List Int} {E Q : Int32 → MW → Prop} (hl : L.length + 5 ≤ 640) (hE : ∀ r w', BND w' → FR [(123, none)] w0 w' → WT w' r (L ++ ltr 1 5) → E r w') (n : Nat) : ∀ (i : Nat) (a : Int32) (w : MW), BND w → FR [(123, none)] w0 w → i ≤ 5 → WT w a (L ++ ltr 1 i) → 5 - i < n → q_Pl_put_123_2001_5 E Q n a (nI i) w := by
  induction n with
  | zero => intros; omega
  | succ n ih =>
    intro i a w hB hF hi hw hm
    have ti : (nI i).toInt = (i : Int) := nI_toInt (by omega)
    have h1 := hw.1
    rw [List.length_append, ltr_l] at h1
    rw [q_Pl_put_123_2001_5.eq_2]
    refine ⟨fun c => ?_, fun c => ⟨fun c2 => by omega, fun c2 => ⟨⟨by omega, by omega⟩, ⟨by omega, by omega⟩, ?_⟩⟩⟩
    · have e : i = 5 := by omega
      subst e
      exact hE a w hB hF hw
    have b := ch_1 i (by omega)
    have y := nby (x := chT 1 (nI i)) (by omega) b.2
    rw [nI_1]
    refine ih (i + 1) _ _ (wbd_123 hB _ (by omega) (by omega)) (FR.I hF rfl) (by omega) ?_ (by omega)
    rw [ltr_s, ← List.append_assoc]
    exact wt_s hw (by rw [List.length_append, ltr_l]; omega) y
theorem px_1 {w : MW} {L : List Int} {a : Int32} {Q : Int32 → MW → Prop} (hI : BND w) (hw : WT w a L) (hl : L.length + 5 ≤ 640) (hQ : ∀ r w', BND w' → FR [(123, none)] w w' → WT w' r (L ++ ltr 1 5) → Q r w') : p_Pl_put_123_2001 w a Q := by
  refine Eq.mpr (p_Pl_put_123_2001.eq_1 _ _ _) (pw_1 (i := 0) hl hQ FU a w hI (FR.refl _ w) (by omega) ?_ (fu_lt (by decide)))
  have e : L ++ ltr 1 0 = L := List.append_nil L
  rw [e]
  exact hw
theorem ch_2 : ∀ i, i < 6 → 0 ≤ (chT 2 (nI i)).toInt ∧ (chT 2 (nI i)).toInt ≤ 127 := by decide +kernel
theorem pw_2 {w0 : MW} {L : List Int} {E Q : Int32 → MW → Prop} (hl : L.length + 6 ≤ 640) (hE : ∀ r w', BND w' → FR [(123, none)] w0 w' → WT w' r (L ++ ltr 2 6) → E r w') (n : Nat) : ∀ (i : Nat) (a : Int32) (w : MW), BND w → FR [(123, none)] w0 w → i ≤ 6 → WT w a (L ++ ltr 2 i) → 6 - i < n → q_Pl_put_123_2002_5 E Q n a (nI i) w := by
  induction n with
  | zero => intros; omega
  | succ n ih =>
    intro i a w hB hF hi hw hm
    have ti : (nI i).toInt = (i : Int) := nI_toInt (by omega)
    have h1 := hw.1
    rw [List.length_append, ltr_l] at h1
    rw [q_Pl_put_123_2002_5.eq_2]
    refine ⟨fun c => ?_, fun c => ⟨fun c2 => by omega, fun c2 => ⟨⟨by omega, by omega⟩, ⟨by omega, by omega⟩, ?_⟩⟩⟩
    · have e : i = 6 := by omega
      subst e
      exact hE a w hB hF hw
    have b := ch_2 i (by omega)
    have y := nby (x := chT 2 (nI i)) (by omega) b.2
    rw [nI_1]
    refine ih (i + 1) _ _ (wbd_123 hB _ (by omega) (by omega)) (FR.I hF rfl) (by omega) ?_ (by omega)
    rw [ltr_s, ← List.append_assoc]
    exact wt_s hw (by rw [List.length_append, ltr_l]; omega) y
theorem px_2 {w : MW} {L : List Int} {a : Int32} {Q : Int32 → MW → Prop} (hI : BND w) (hw : WT w a L) (hl : L.length + 6 ≤ 640) (hQ : ∀ r w', BND w' → FR [(123, none)] w w' → WT w' r (L ++ ltr 2 6) → Q r w') : p_Pl_put_123_2002 w a Q := by
  refine Eq.mpr (p_Pl_put_123_2002.eq_1 _ _ _) (pw_2 (i := 0) hl hQ FU a w hI (FR.refl _ w) (by omega) ?_ (fu_lt (by decide)))
  have e : L ++ ltr 2 0 = L := List.append_nil L
  rw [e]
  exact hw
theorem ch_3 : ∀ i, i < 4 → 0 ≤ (chT 3 (nI i)).toInt ∧ (chT 3 (nI i)).toInt ≤ 127 := by decide +kernel
theorem pw_3 {w0 : MW} {L : List Int} {E Q : Int32 → MW → Prop} (hl : L.length + 4 ≤ 640) (hE : ∀ r w', BND w' → FR [(123, none)] w0 w' → WT w' r (L ++ ltr 3 4) → E r w') (n : Nat) : ∀ (i : Nat) (a : Int32) (w : MW), BND w → FR [(123, none)] w0 w → i ≤ 4 → WT w a (L ++ ltr 3 i) → 4 - i < n → q_Pl_put_123_2003_5 E Q n a (nI i) w := by
  induction n with
  | zero => intros; omega
  | succ n ih =>
    intro i a w hB hF hi hw hm
    have ti : (nI i).toInt = (i : Int) := nI_toInt (by omega)
    have h1 := hw.1
    rw [List.length_append, ltr_l] at h1
    rw [q_Pl_put_123_2003_5.eq_2]
    refine ⟨fun c => ?_, fun c => ⟨fun c2 => by omega, fun c2 => ⟨⟨by omega, by omega⟩, ⟨by omega, by omega⟩, ?_⟩⟩⟩
    · have e : i = 4 := by omega
      subst e
      exact hE a w hB hF hw
    have b := ch_3 i (by omega)
    have y := nby (x := chT 3 (nI i)) (by omega) b.2
    rw [nI_1]
    refine ih (i + 1) _ _ (wbd_123 hB _ (by omega) (by omega)) (FR.I hF rfl) (by omega) ?_ (by omega)
    rw [ltr_s, ← List.append_assoc]
    exact wt_s hw (by rw [List.length_append, ltr_l]; omega) y
theorem px_3 {w : MW} {L : List Int} {a : Int32} {Q : Int32 → MW → Prop} (hI : BND w) (hw : WT w a L) (hl : L.length + 4 ≤ 640) (hQ : ∀ r w', BND w' → FR [(123, none)] w w' → WT w' r (L ++ ltr 3 4) → Q r w') : p_Pl_put_123_2003 w a Q := by
  refine Eq.mpr (p_Pl_put_123_2003.eq_1 _ _ _) (pw_3 (i := 0) hl hQ FU a w hI (FR.refl _ w) (by omega) ?_ (fu_lt (by decide)))
  have e : L ++ ltr 3 0 = L := List.append_nil L
  rw [e]
  exact hw
theorem ch_4 : ∀ i, i < 5 → 0 ≤ (chT 4 (nI i)).toInt ∧ (chT 4 (nI i)).toInt ≤ 127 := by decide +kernel
theorem pw_4 {w0 : MW} {L : List Int} {E Q : Int32 → MW → Prop} (hl : L.length + 5 ≤ 640) (hE : ∀ r w', BND w' → FR [(123, none)] w0 w' → WT w' r (L ++ ltr 4 5) → E r w') (n : Nat) : ∀ (i : Nat) (a : Int32) (w : MW), BND w → FR [(123, none)] w0 w → i ≤ 5 → WT w a (L ++ ltr 4 i) → 5 - i < n → q_Pl_put_123_2004_5 E Q n a (nI i) w := by
  induction n with
  | zero => intros; omega
  | succ n ih =>
    intro i a w hB hF hi hw hm
    have ti : (nI i).toInt = (i : Int) := nI_toInt (by omega)
    have h1 := hw.1
    rw [List.length_append, ltr_l] at h1
    rw [q_Pl_put_123_2004_5.eq_2]
    refine ⟨fun c => ?_, fun c => ⟨fun c2 => by omega, fun c2 => ⟨⟨by omega, by omega⟩, ⟨by omega, by omega⟩, ?_⟩⟩⟩
    · have e : i = 5 := by omega
      subst e
      exact hE a w hB hF hw
    have b := ch_4 i (by omega)
    have y := nby (x := chT 4 (nI i)) (by omega) b.2
    rw [nI_1]
    refine ih (i + 1) _ _ (wbd_123 hB _ (by omega) (by omega)) (FR.I hF rfl) (by omega) ?_ (by omega)
    rw [ltr_s, ← List.append_assoc]
    exact wt_s hw (by rw [List.length_append, ltr_l]; omega) y
theorem px_4 {w : MW} {L : List Int} {a : Int32} {Q : Int32 → MW → Prop} (hI : BND w) (hw : WT w a L) (hl : L.length + 5 ≤ 640) (hQ : ∀ r w', BND w' → FR [(123, none)] w w' → WT w' r (L ++ ltr 4 5) → Q r w') : p_Pl_put_123_2004 w a Q := by
  refine Eq.mpr (p_Pl_put_123_2004.eq_1 _ _ _) (pw_4 (i := 0) hl hQ FU a w hI (FR.refl _ w) (by omega) ?_ (fu_lt (by decide)))
  have e : L ++ ltr 4 0 = L := List.append_nil L
  rw [e]
  exact hw
theorem ch_5 : ∀ i, i < 1 → 0 ≤ (chT 5 (nI i)).toInt ∧ (chT 5 (nI i)).toInt ≤ 127 := by decide +kernel
theorem pw_5 {w0 : MW} {L : List Int} {E Q : Int32 → MW → Prop} (hl : L.length + 1 ≤ 640) (hE : ∀ r w', BND w' → FR [(123, none)] w0 w' → WT w' r (L ++ ltr 5 1) → E r w') (n : Nat) : ∀ (i : Nat) (a : Int32) (w : MW), BND w → FR [(123, none)] w0 w → i ≤ 1 → WT w a (L ++ ltr 5 i) → 1 - i < n → q_Pl_put_123_2005_5 E Q n a (nI i) w := by
  induction n with
  | zero => intros; omega
  | succ n ih =>
    intro i a w hB hF hi hw hm
    have ti : (nI i).toInt = (i : Int) := nI_toInt (by omega)
    have h1 := hw.1
    rw [List.length_append, ltr_l] at h1
    rw [q_Pl_put_123_2005_5.eq_2]
    refine ⟨fun c => ?_, fun c => ⟨fun c2 => by omega, fun c2 => ⟨⟨by omega, by omega⟩, ⟨by omega, by omega⟩, ?_⟩⟩⟩
    · have e : i = 1 := by omega
      subst e
      exact hE a w hB hF hw
    have b := ch_5 i (by omega)
    have y := nby (x := chT 5 (nI i)) (by omega) b.2
    rw [nI_1]
    refine ih (i + 1) _ _ (wbd_123 hB _ (by omega) (by omega)) (FR.I hF rfl) (by omega) ?_ (by omega)
    rw [ltr_s, ← List.append_assoc]
    exact wt_s hw (by rw [List.length_append, ltr_l]; omega) y
theorem px_5 {w : MW} {L : List Int} {a : Int32} {Q : Int32 → MW → Prop} (hI : BND w) (hw : WT w a L) (hl : L.length + 1 ≤ 640) (hQ : ∀ r w', BND w' → FR [(123, none)] w w' → WT w' r (L ++ ltr 5 1) → Q r w') : p_Pl_put_123_2005 w a Q := by
  refine Eq.mpr (p_Pl_put_123_2005.eq_1 _ _ _) (pw_5 (i := 0) hl hQ FU a w hI (FR.refl _ w) (by omega) ?_ (fu_lt (by decide)))
  have e : L ++ ltr 5 0 = L := List.append_nil L
  rw [e]
  exact hw
theorem ch_16 : ∀ i, i < 1 → 0 ≤ (chT 16 (nI i)).toInt ∧ (chT 16 (nI i)).toInt ≤ 127 := by decide +kernel
theorem pw_16 {w0 : MW} {L : List Int} {E Q : Int32 → MW → Prop} (hl : L.length + 1 ≤ 640) (hE : ∀ r w', BND w' → FR [(123, none)] w0 w' → WT w' r (L ++ ltr 16 1) → E r w') (n : Nat) : ∀ (i : Nat) (a : Int32) (w : MW), BND w → FR [(123, none)] w0 w → i ≤ 1 → WT w a (L ++ ltr 16 i) → 1 - i < n → q_Pl_put_123_2016_5 E Q n a (nI i) w := by
  induction n with
  | zero => intros; omega
  | succ n ih =>
    intro i a w hB hF hi hw hm
    have ti : (nI i).toInt = (i : Int) := nI_toInt (by omega)
    have h1 := hw.1
    rw [List.length_append, ltr_l] at h1
    rw [q_Pl_put_123_2016_5.eq_2]
    refine ⟨fun c => ?_, fun c => ⟨fun c2 => by omega, fun c2 => ⟨⟨by omega, by omega⟩, ⟨by omega, by omega⟩, ?_⟩⟩⟩
    · have e : i = 1 := by omega
      subst e
      exact hE a w hB hF hw
    have b := ch_16 i (by omega)
    have y := nby (x := chT 16 (nI i)) (by omega) b.2
    rw [nI_1]
    refine ih (i + 1) _ _ (wbd_123 hB _ (by omega) (by omega)) (FR.I hF rfl) (by omega) ?_ (by omega)
    rw [ltr_s, ← List.append_assoc]
    exact wt_s hw (by rw [List.length_append, ltr_l]; omega) y
theorem px_16 {w : MW} {L : List Int} {a : Int32} {Q : Int32 → MW → Prop} (hI : BND w) (hw : WT w a L) (hl : L.length + 1 ≤ 640) (hQ : ∀ r w', BND w' → FR [(123, none)] w w' → WT w' r (L ++ ltr 16 1) → Q r w') : p_Pl_put_123_2016 w a Q := by
  refine Eq.mpr (p_Pl_put_123_2016.eq_1 _ _ _) (pw_16 (i := 0) hl hQ FU a w hI (FR.refl _ w) (by omega) ?_ (fu_lt (by decide)))
  have e : L ++ ltr 16 0 = L := List.append_nil L
  rw [e]
  exact hw
theorem ch_17 : ∀ i, i < 1 → 0 ≤ (chT 17 (nI i)).toInt ∧ (chT 17 (nI i)).toInt ≤ 127 := by decide +kernel
theorem pw_17 {w0 : MW} {L : List Int} {E Q : Int32 → MW → Prop} (hl : L.length + 1 ≤ 640) (hE : ∀ r w', BND w' → FR [(123, none)] w0 w' → WT w' r (L ++ ltr 17 1) → E r w') (n : Nat) : ∀ (i : Nat) (a : Int32) (w : MW), BND w → FR [(123, none)] w0 w → i ≤ 1 → WT w a (L ++ ltr 17 i) → 1 - i < n → q_Pl_put_123_2017_5 E Q n a (nI i) w := by
  induction n with
  | zero => intros; omega
  | succ n ih =>
    intro i a w hB hF hi hw hm
    have ti : (nI i).toInt = (i : Int) := nI_toInt (by omega)
    have h1 := hw.1
    rw [List.length_append, ltr_l] at h1
    rw [q_Pl_put_123_2017_5.eq_2]
    refine ⟨fun c => ?_, fun c => ⟨fun c2 => by omega, fun c2 => ⟨⟨by omega, by omega⟩, ⟨by omega, by omega⟩, ?_⟩⟩⟩
    · have e : i = 1 := by omega
      subst e
      exact hE a w hB hF hw
    have b := ch_17 i (by omega)
    have y := nby (x := chT 17 (nI i)) (by omega) b.2
    rw [nI_1]
    refine ih (i + 1) _ _ (wbd_123 hB _ (by omega) (by omega)) (FR.I hF rfl) (by omega) ?_ (by omega)
    rw [ltr_s, ← List.append_assoc]
    exact wt_s hw (by rw [List.length_append, ltr_l]; omega) y
theorem px_17 {w : MW} {L : List Int} {a : Int32} {Q : Int32 → MW → Prop} (hI : BND w) (hw : WT w a L) (hl : L.length + 1 ≤ 640) (hQ : ∀ r w', BND w' → FR [(123, none)] w w' → WT w' r (L ++ ltr 17 1) → Q r w') : p_Pl_put_123_2017 w a Q := by
  refine Eq.mpr (p_Pl_put_123_2017.eq_1 _ _ _) (pw_17 (i := 0) hl hQ FU a w hI (FR.refl _ w) (by omega) ?_ (fu_lt (by decide)))
  have e : L ++ ltr 17 0 = L := List.append_nil L
  rw [e]
  exact hw
theorem lt_16 : ltr 16 1 = [10] := by decide +kernel
theorem lt_17 : ltr 17 1 = [45] := by decide +kernel
theorem pn_2 {a b : Int32} {w : MW} {E Q : Int32 → MW → Prop} (b0 : 0 ≤ b.toInt) (b1 : b.toInt < 1000000) (hE : ∀ x : Int32, x.toInt = pwu (npw b.toInt + 1) → E x w) (m : Nat) : ∀ (k : Nat) (x : Int32), x.toInt = pwu (k + 1) → k ≤ npw b.toInt → 6 - k < m → q_Pl_putNumber_123_2 a b E Q m x w := by
  induction m with
  | zero => intros; omega
  | succ m ih =>
    intro k x hx hk hm
    have k5 := npw_5 b.toInt
    have pp := pwu_p (k := k) (by omega)
    have d := nb_div (x := b) (y := x) b0 hx (by omega)
    have nc := npw_c b0 hk
    rw [q_Pl_putNumber_123_2.eq_2]
    refine ⟨fun c => by omega, fun _ => ⟨by omega, fun c => ?_, fun c => ?_⟩⟩
    · rw [d] at c
      have e := nc.1 c b1
      refine hE x ?_
      rw [← e]
      exact hx
    · rw [d] at c
      have e := nc.2 c b1
      have m10 := pwu_10 (k := k) (by omega)
      refine ih (k + 1) _ ?_ e (by omega)
      rw [ti_mul2 hx (by decide : ((10 : Int32)).toInt = 10) (by omega) (by omega), m10]
theorem pn_27 {b : Int32} {w0 : MW} {T : List Int} {E Q : Int32 → MW → Prop} (b0 : 0 ≤ b.toInt) (hE : ∀ r w', BND w' → FR [(123, none)] w0 w' → WT w' r T → E r w') (m : Nat) : ∀ (k : Nat) (x a : Int32) (w : MW) (L : List Int), BND w → FR [(123, none)] w0 w → x.toInt = pwu k → k ≤ 6 → WT w a L → L.length + k ≤ 640 → L ++ dgt k b.toInt = T → k < m → q_Pl_putNumber_123_27 b E Q m x a w := by
  induction m with
  | zero => intros; omega
  | succ m ih =>
    intro k x a w L hB hF hx hk hw hl hT hm
    have h1 := hw.1
    rw [q_Pl_putNumber_123_27.eq_2]
    cases k with
    | zero =>
      have e : x.toInt = 0 := hx
      have eT : L = T := by
        rw [← hT]
        exact (List.append_nil L).symm
      refine ⟨fun _ => hE a w hB hF (by rw [← eT]; exact hw), fun c => by omega⟩
    | succ k =>
      have pp := pwu_p (k := k) (by omega)
      have d := nb_div (x := b) (y := x) b0 hx (by omega)
      have q0 : 0 ≤ b.toInt / pwu (k + 1) := Int.ediv_nonneg b0 (by omega)
      have r := nb_rem (x := b / x) (y := (10 : Int32)) (by omega) (by decide : ((10 : Int32)).toInt = 10) (by decide)
      rw [d] at r
      have s := ti_add2 (by decide : ((48 : Int32)).toInt = 48) r (by omega) (by omega)
      refine ⟨fun c => by omega, fun _ => ⟨fun c => by omega, fun _ => ⟨by omega, ⟨by omega, by omega⟩, ?_⟩⟩⟩
      have y := nby (x := (48 : Int32) + ((b / x) - (b / x) / (10 : Int32) * (10 : Int32))) (by omega) (by omega)
      rw [s] at y
      have dx := nb_div (x := x) (y := (10 : Int32)) (by omega) (by decide : ((10 : Int32)).toInt = 10) (by decide)
      refine ih k _ _ _ (L ++ [48 + b.toInt / pwu (k + 1) % 10]) (wbd_123 hB _ (by omega) (by omega)) (FR.I hF rfl) (by rw [dx, hx]; exact pp.2.2) (by omega) (wt_s hw (by omega) y) ?_ ?_ (by omega)
      · rw [List.length_append]
        show L.length + 1 + k ≤ 640
        omega
      · rw [List.append_assoc]
        exact hT
theorem pn_x {w : MW} {a b : Int32} {L : List Int} {Q : Int32 → MW → Prop} (hI : BND w) (b0 : 0 ≤ b.toInt) (b1 : b.toInt < 1000000) (hw : WT w a L) (hl : L.length + 6 ≤ 640) (hQ : ∀ r w', BND w' → FR [(123, none)] w w' → WT w' r (L ++ num b.toInt) → Q r w') : p_Pl_putNumber_123 w a b Q := by
  have k5 := npw_5 b.toInt
  have lt : npw b.toInt + 1 < FU := Nat.lt_of_le_of_lt (Nat.succ_le_succ k5) (fu_lt (by decide))
  have l6 : 6 - 0 < FU := fu_lt (by decide)
  have hT : L ++ dgt (npw b.toInt + 1) b.toInt = L ++ num b.toInt := by
    unfold num
    rfl
  have p1 : ((1 : Int32)).toInt = pwu (0 + 1) := by decide
  refine Eq.mpr (p_Pl_putNumber_123.eq_1 _ _ _ _) ?_
  refine pn_2 b0 b1 (fun x hx => ?_) FU 0 1 p1 (Nat.zero_le _) l6
  exact pn_27 (T := L ++ num b.toInt) b0 hQ FU (npw b.toInt + 1) x a w L hI (FR.refl _ w) hx (by omega) hw (by omega) hT lt
theorem pe_x {w : MW} {a b : Int32} {L : List Int} {Q : Int32 → MW → Prop} (hI : BND w) (b0 : -1 ≤ b.toInt) (b1 : b.toInt < 1000000) (hw : WT w a L) (hl : L.length + 6 ≤ 640) (hQ : ∀ r w', BND w' → FR [(123, none)] w w' → WT w' r (L ++ endT b.toInt) → Q r w') : p_Pl_putPipeEnd_123 w a b Q := by
  refine Eq.mpr (p_Pl_putPipeEnd_123.eq_1 _ _ _ _) ⟨fun c => pn_x hI (by omega) b1 hw hl (fun r w' B F W => hQ r w' B F ?_), fun c => px_17 hI hw (by omega) (fun r w' B F W => hQ r w' B F ?_)⟩
  · unfold endT
    rw [if_neg c]
    exact W
  · unfold endT
    rw [if_pos (Classical.not_not.mp c), ← lt_17]
    exact W
/-! the class writes the text of its plant -/
/-- the lines of a good plant -/
def GL (ls : List Ln) : Prop := (∀ y ∈ thg ls, gdT y ∧ (y.1 = 0 → 1 ≤ y.2.1 ∧ y.2.1 ≤ 100000)) ∧ (∀ y ∈ pip ls, y.1 = 3 ∧ -1 ≤ y.2.1 ∧ y.2.1 < 20 ∧ -1 ≤ y.2.2.1 ∧ y.2.2.1 < 20 ∧ 1 ≤ y.2.2.2 ∧ y.2.2.2 ≤ 200) ∧ (thg ls).length ≤ 20 ∧ (pip ls).length ≤ 24
theorem gl_nil : GL [] := ⟨fun y h => (by cases h), fun y h => (by cases h), by decide, by decide⟩
theorem gl_s {ls : List Ln} {x : Ln} (h : GL ls) (ok : okL ls x) : GL (ls ++ [x]) := by
  by_cases x3 : x.1 = 3
  · have o := ok_p x3 ok
    have t20 := h.2.2.1
    refine ⟨?_, ?_, ?_, ?_⟩
    · rw [thg_p ls x x3]
      exact h.1
    · rw [pip_p ls x x3]
      intro y hy
      rcases List.mem_append.mp hy with q | q
      · exact h.2.1 y q
      · have e : y = x := List.mem_singleton.mp q
        rw [e]
        exact ⟨x3, o.2.2.2.1.1, by omega, o.2.2.2.2.1, by omega, o.2.1, o.2.2.1⟩
    · rw [thg_p ls x x3]
      exact t20
    · rw [pip_p ls x x3, List.length_append]
      show (pip ls).length + 1 ≤ 24
      omega
  · have lt := ok_t x3 ok
    refine ⟨?_, ?_, ?_, ?_⟩
    · rw [thg_t ls x x3]
      intro y hy
      rcases List.mem_append.mp hy with q | q
      · exact h.1 y q
      · have e : y = x := List.mem_singleton.mp q
        rw [e]
        refine ⟨gd_ok ok x3, fun x0 => ?_⟩
        rcases ok with o | o | o | o
        · exact ⟨o.2.1, o.2.2.1⟩
        · omega
        · omega
        · omega
    · rw [pip_t ls x x3]
      exact h.2.1
    · rw [thg_t ls x x3, List.length_append]
      show (thg ls).length + 1 ≤ 20
      omega
    · rw [pip_t ls x x3]
      exact h.2.2.2
theorem plr_gl {f : Int → Int} {n : Int} : ∀ (k : Nat) (p : Int) (ls : List Ln) (r : Int) (ls' : List Ln), PlR f n k p ls r ls' → GL ls → GL ls' := by
  intro k
  induction k with
  | zero => intro p ls r ls' h; exact absurd h (fun y => y)
  | succ k ih =>
    intro p ls r ls' h g
    rcases h with ⟨_, _, e⟩ | ⟨_, _, _, e⟩ | ⟨_, _, ok, q⟩
    · rw [e]
      exact g
    · rw [e]
      exact g
    · exact ih _ _ _ _ q (gl_s g ok)
theorem num_b {n : Int} (h : n < 10) : (num n).length = 1 := by
  have := npw_v n
  rw [num_l]
  omega
theorem lnT_t {y : Ln} (g : gdT y) : (lnT y).length ≤ 12 := by
  have k5 := npw_5 y.2.1
  unfold lnT
  rcases g with g | g | g
  · rw [if_pos g, List.length_append, List.length_append, num_l]
    show 5 + (npw y.2.1 + 1) + 1 ≤ 12
    omega
  · rw [if_neg (by omega), if_pos g]
    decide
  · rw [if_neg (by omega), if_neg (by omega), if_pos g.1, List.length_append, List.length_append, num_b (by omega)]
    decide
theorem endT_l {n : Int} (h : n < 100) : (endT n).length ≤ 2 := by
  unfold endT
  by_cases c : n = -1
  · rw [if_pos c]
    decide
  · have := npw_v n
    rw [if_neg c, num_l]
    omega
theorem lnT_p {y : Ln} (h3 : y.1 = 3) (ha : y.2.1 < 20) (hb : y.2.2.1 < 20) (hl : y.2.2.2 ≤ 200) : (lnT y).length ≤ 15 := by
  have a := endT_l (n := y.2.1) (by omega)
  have b := endT_l (n := y.2.2.1) (by omega)
  have v := npw_v y.2.2.2
  unfold lnT
  rw [if_neg (by omega), if_neg (by omega), if_neg (by omega), List.length_append, List.length_append, List.length_append, List.length_append, List.length_append, List.length_append, num_l]
  show 5 + (endT y.2.1).length + 1 + (endT y.2.2.1).length + 1 + (npw y.2.2.2 + 1) + 1 ≤ 15
  omega
theorem txl_len {b : Nat} : ∀ (l : List Ln), (∀ y ∈ l, (lnT y).length ≤ b) → (txl l).length ≤ b * l.length := by
  intro l
  induction l with
  | nil => intro _; exact Nat.zero_le _
  | cons x l ih =>
    intro h
    have e : txl (x :: l) = lnT x ++ txl l := by
      unfold txl
      rw [List.map_cons, List.flatten_cons]
    have h1 := h x (List.mem_cons_self ..)
    have h2 := ih (fun y hy => h y (List.mem_cons_of_mem _ hy))
    rw [e, List.length_append, List.length_cons, Nat.mul_add, Nat.mul_one]
    omega
theorem txl_t (l : List Ln) (i : Nat) (y : Ln) (h : l[i]? = some y) : txl (l.take (i + 1)) = txl (l.take i) ++ lnT y := by
  rw [List.take_succ, h]
  exact txl_s _ y
theorem thg_len {ls : List Ln} (h : GL ls) (i : Nat) : (txl ((thg ls).take i)).length ≤ 240 := by
  have a := txl_len (b := 12) ((thg ls).take i) (fun y hy => lnT_t (h.1 y (List.mem_of_mem_take hy)).1)
  have b := List.length_take_le' i (thg ls)
  have c := h.2.2.1
  omega
theorem pip_len {ls : List Ln} (h : GL ls) (i : Nat) : (txl ((pip ls).take i)).length ≤ 15 * i := by
  have a := txl_len (b := 15) ((pip ls).take i) (fun y hy => by
    have g := h.2.1 y (List.mem_of_mem_take hy)
    exact lnT_p g.1 g.2.2.1 g.2.2.2.2.1 g.2.2.2.2.2.2)
  have b := List.length_take_le i (pip ls)
  have c : 15 * ((pip ls).take i).length ≤ 15 * i := Nat.mul_le_mul_left 15 b
  omega
theorem thg_len2 {ls : List Ln} (h : GL ls) : (txl (thg ls)).length ≤ 240 := by
  have := thg_len h (thg ls).length
  rw [List.take_length] at this
  exact this
theorem wt_4 {w0 : MW} {ls : List Ln} {E Q : Int32 → MW → Prop} (hP : PWc w0 ls) (hG : GL ls) (hE : ∀ a w', BND w' → FR [(123, none)] w0 w' → WT w' a (txl (thg ls)) → E a w') (n : Nat) : ∀ (i : Nat) (a : Int32) (w : MW), BND w → FR [(123, none)] w0 w → i ≤ (thg ls).length → WT w a (txl ((thg ls).take i)) → 20 - i < n → q_Pl_writeTos91_123_4 E Q n a (nI i) w := by
  induction n with
  | zero => intros; omega
  | succ n ih =>
    intro i a w hB hF hi hw hm
    have g20 := hG.2.2.1
    have ti : (nI i).toInt = (i : Int) := nI_toInt (by omega)
    have tn : (nI i).toInt.toNat = i := by omega
    have P : PWc w ls := pwc_fr hP hF rfl
    have n0 := P.1
    rw [q_Pl_writeTos91_123_4.eq_2]
    refine ⟨fun c => ?_, fun c => ?_⟩
    · have e : i = (thg ls).length := by omega
      rw [e, List.take_length] at hw
      exact hE a w hB hF hw
    have lt : i < (thg ls).length := by omega
    obtain ⟨y, ey⟩ : ∃ y, (thg ls)[i]? = some y := ⟨_, List.getElem?_eq_getElem lt⟩
    have g := P.2.2.1 i y ey
    have gy := hG.1 y (List.mem_of_getElem? ey)
    have len := thg_len hG i
    have gi : 0 ≤ (nI i).toInt ∧ (nI i).toInt < 20 := ⟨by omega, by omega⟩
    have nx : ∀ (b : Int32) (v : MW), BND v → FR [(123, none)] w v → WT v b (txl ((thg ls).take i) ++ lnT y) → q_Pl_writeTos91_123_4 E Q n b (nI i + (1 : Int32)) v := fun b v Bv Fv Wv => by
      rw [nI_1]
      refine ih (i + 1) b v Bv (hF.tr Fv rfl) lt ?_ (by omega)
      rw [txl_t _ _ _ ey]
      exact Wv
    rw [tn]
    refine ⟨gi, fun c8 => ⟨gi, fun c9 => ?_, fun c9 => ?_⟩, fun c8 => ?_⟩
    · have k : y.1 = 2 ∧ 0 ≤ y.2.1 ∧ y.2.1 ≤ 7 := by
        rcases gy.1 with q | q | q
        · have e : ckd y = 9 := by unfold ckd; rw [if_pos q]
          omega
        · have e : ckd y = 8 := by unfold ckd; rw [if_neg (by omega), if_pos q]
          omega
        · exact q
      have ek : ckd y = y.2.1 := by unfold ckd; rw [if_neg (by omega), if_neg (by omega)]
      refine px_2 hB hw (by omega) (fun r6 w6 B6 F6 W6 => ⟨gi, ?_⟩)
      have v6 : (w6.1 92 i).toInt = y.2.1 := by rw [(F6 92 i rfl).1, g.1, ek]
      refine pn_x B6 (by omega) (by omega) W6 (by rw [List.length_append, ltr_l]; omega) (fun r8 w8 B8 F8 W8 => px_16 B8 W8 (by rw [List.length_append, List.length_append, ltr_l, v6, num_b (by omega)]; omega) (fun r9 w9 B9 F9 W9 => nx r9 w9 B9 ((F6.tr F8 rfl).tr F9 rfl) ?_))
      have e : lnT y = ltr 2 6 ++ num (w6.1 92 i).toInt ++ ltr 16 1 := by
        unfold lnT
        rw [if_neg (by omega), if_neg (by omega), if_pos k.1, v6, ltr_2, lt_16]
        rfl
      rw [e, ← List.append_assoc, ← List.append_assoc]
      exact W9
    · have k : y.1 = 0 := by
        rcases gy.1 with q | q | q
        · exact q
        · have e : ckd y = 8 := by unfold ckd; rw [if_neg (by omega), if_pos q]
          omega
        · have e : ckd y = y.2.1 := by unfold ckd; rw [if_neg (by omega), if_neg (by omega)]
          omega
      have r := gy.2 k
      have g2 := g.2.1
      rw [if_pos k] at g2
      refine px_1 hB hw (by omega) (fun r6 w6 B6 F6 W6 => ⟨gi, ?_⟩)
      have v6 : (w6.1 93 i).toInt = y.2.1 := by rw [(F6 93 i rfl).1, g2]
      have k5 := npw_5 y.2.1
      refine pn_x B6 (by omega) (by omega) W6 (by rw [List.length_append, ltr_l]; omega) (fun r8 w8 B8 F8 W8 => px_16 B8 W8 (by rw [List.length_append, List.length_append, ltr_l, v6, num_l]; omega) (fun r9 w9 B9 F9 W9 => nx r9 w9 B9 ((F6.tr F8 rfl).tr F9 rfl) ?_))
      have e : lnT y = ltr 1 5 ++ num (w6.1 93 i).toInt ++ ltr 16 1 := by
        unfold lnT
        rw [if_pos k, v6, ltr_1, lt_16]
        rfl
      rw [e, ← List.append_assoc, ← List.append_assoc]
      exact W9
    · have c8 := Classical.not_not.mp c8
      have k : y.1 = 1 := by
        rcases gy.1 with q | q | q
        · have e : ckd y = 9 := by unfold ckd; rw [if_pos q]
          omega
        · exact q
        · have e : ckd y = y.2.1 := by unfold ckd; rw [if_neg (by omega), if_neg (by omega)]
          omega
      refine px_3 hB hw (by omega) (fun r6 w6 B6 F6 W6 => px_16 B6 W6 (by rw [List.length_append, ltr_l]; omega) (fun r9 w9 B9 F9 W9 => nx r9 w9 B9 (F6.tr F9 rfl) ?_))
      have e : lnT y = ltr 3 4 ++ ltr 16 1 := by
        unfold lnT
        rw [if_neg (by omega), if_pos k, ltr_3, lt_16]
        rfl
      rw [e, ← List.append_assoc]
      exact W9
theorem wt_100 {w0 : MW} {ls : List Ln} {E Q : Int32 → MW → Prop} (hP : PWc w0 ls) (hG : GL ls) (hE : ∀ a w', BND w' → FR [(123, none)] w0 w' → WT w' a (txt ls) → E a w') (n : Nat) : ∀ (i : Nat) (a : Int32) (w : MW), BND w → FR [(123, none)] w0 w → i ≤ (pip ls).length → WT w a (txl (thg ls) ++ txl ((pip ls).take i)) → 24 - i < n → q_Pl_writeTos91_123_100 E Q n a (nI i) w := by
  induction n with
  | zero => intros; omega
  | succ n ih =>
    intro i a w hB hF hi hw hm
    have g24 := hG.2.2.2
    have ti : (nI i).toInt = (i : Int) := nI_toInt (by omega)
    have tn : (nI i).toInt.toNat = i := by omega
    have P : PWc w ls := pwc_fr hP hF rfl
    have n1 := P.2.1
    rw [q_Pl_writeTos91_123_100.eq_2]
    refine ⟨fun c => ?_, fun c => ?_⟩
    · have e : i = (pip ls).length := by omega
      rw [e, List.take_length] at hw
      exact hE a w hB hF hw
    have lt : i < (pip ls).length := by omega
    obtain ⟨y, ey⟩ : ∃ y, (pip ls)[i]? = some y := ⟨_, List.getElem?_eq_getElem lt⟩
    have g := P.2.2.2.1 i y ey
    have gy := hG.2.1 y (List.mem_of_getElem? ey)
    have l1 := thg_len2 hG
    have l2 := pip_len hG i
    have L0 : (txl (thg ls) ++ txl ((pip ls).take i)).length ≤ 585 := by
      rw [List.length_append]
      omega
    have m2 := ti_mul2 (by decide : ((2 : Int32)).toInt = 2) ti (by omega) (by omega)
    have m3 := ti_add2 m2 i_1 (by omega) (by omega)
    have x2 : ((2 : Int32) * nI i).toInt.toNat = 2 * i := by omega
    have x3 : (((2 : Int32) * nI i) + (1 : Int32)).toInt.toNat = 2 * i + 1 := by omega
    have ea := endT_l (n := y.2.1) (by omega)
    have eb := endT_l (n := y.2.2.1) (by omega)
    have v := npw_v y.2.2.2
    rw [tn, x2, x3]
    generalize eL : (txl (thg ls) ++ txl ((pip ls).take i)) = L at *
    refine px_4 hB hw (by omega) (fun r1 w1 B1 F1 W1 => ⟨⟨by omega, by omega⟩, ?_⟩)
    have v1 : (w1.1 96 (2 * i)).toInt = y.2.1 := by rw [(F1 96 _ rfl).1, g.2.1]
    refine pe_x B1 (by omega) (by omega) W1 (by rw [List.length_append, ltr_l]; omega) (fun r2 w2 B2 F2 W2 => ?_)
    rw [v1] at W2
    refine px_5 B2 W2 (by rw [List.length_append, List.length_append, ltr_l]; omega) (fun r3 w3 B3 F3 W3 => ⟨⟨by omega, by omega⟩, ?_⟩)
    have v3 : (w3.1 96 (2 * i + 1)).toInt = y.2.2.1 := by rw [(F3 96 _ rfl).1, (F2 96 _ rfl).1, (F1 96 _ rfl).1, g.2.2]
    refine pe_x B3 (by omega) (by omega) W3 (by rw [List.length_append, List.length_append, List.length_append, ltr_l, ltr_l]; omega) (fun r4 w4 B4 F4 W4 => ?_)
    rw [v3] at W4
    refine px_5 B4 W4 (by rw [List.length_append, List.length_append, List.length_append, List.length_append, ltr_l, ltr_l]; omega) (fun r5 w5 B5 F5 W5 => ⟨⟨by omega, by omega⟩, ?_⟩)
    have v5 : (w5.1 95 i).toInt = y.2.2.2 := by rw [(F5 95 _ rfl).1, (F4 95 _ rfl).1, (F3 95 _ rfl).1, (F2 95 _ rfl).1, (F1 95 _ rfl).1, g.1]
    refine pn_x B5 (by omega) (by omega) W5 (by rw [List.length_append, List.length_append, List.length_append, List.length_append, List.length_append, ltr_l, ltr_l]; omega) (fun r6 w6 B6 F6 W6 => ?_)
    rw [v5] at W6
    refine px_16 B6 W6 (by rw [List.length_append, List.length_append, List.length_append, List.length_append, List.length_append, List.length_append, ltr_l, ltr_l, num_l]; omega) (fun r7 w7 B7 F7 W7 => ?_)
    rw [nI_1]
    refine ih (i + 1) r7 w7 B7 (((((((hF.tr F1 rfl).tr F2 rfl).tr F3 rfl).tr F4 rfl).tr F5 rfl).tr F6 rfl).tr F7 rfl) lt ?_ (by omega)
    rw [txl_t _ _ _ ey, ← List.append_assoc, eL]
    have e : lnT y = ltr 4 5 ++ endT y.2.1 ++ ltr 5 1 ++ endT y.2.2.1 ++ ltr 5 1 ++ num y.2.2.2 ++ ltr 16 1 := by
      unfold lnT
      rw [if_neg (by omega), if_neg (by omega), if_neg (by omega), ltr_4, ltr_5, lt_16]
      rfl
    rw [e]
    simp only [← List.append_assoc]
    exact W7
theorem wr_91 {w : MW} {ls : List Ln} {Q : Int32 → MW → Prop} (hI : BND w) (hP : PWc w ls) (hG : GL ls) (hQ : ∀ r w', BND w' → FR [(123, none)] w w' → WT w' r (txt ls) → Q r w') : p_Pl_writeTos91_123 w Q :=
  Eq.mpr (p_Pl_writeTos91_123.eq_1 _ _) (wt_4 (i := 0) hP hG (fun a w1 B1 F1 W1 => wt_100 (i := 0) hP hG hQ FU a w1 B1 F1 (Nat.zero_le _) (by
    have e : txl (thg ls) ++ txl ((pip ls).take 0) = txl (thg ls) := List.append_nil _
    rw [e]
    exact W1) (fu_lt (by decide))) FU 0 w hI (FR.refl _ w) (Nat.zero_le _) ⟨i_0, fun j c q => (by cases q)⟩ (fu_lt (by decide)))
/-! the reference writes the text of its plant -/
def lle : Pl := [(127, some 83), (127, some 84)]
/-- the letters M were said, the one at place i is wished for -/
def LtS (w : MW) (i : Nat) (M : List Int) : Prop := (w.1 127 83).toInt = (i : Int) - (M.length : Int) ∧ (w.1 127 84).toInt = M.getD i (-1)
theorem le_x {w : MW} {a : Int32} {i : Nat} {M : List Int} {c : Int} {Q : MW → Prop} (hI : BND w) (h : LtS w i M) (hi : i ≤ 2147483647) (hl : M.length ≤ 1000) (ha : a.toInt = c) (hQ : ∀ w', BND w' → FR lle w w' → LtS w' i (M ++ [c]) → Q w') : p_Mo_letter w a Q := by
  have s := ti_sub2 h.1 i_1 (by omega) (by omega)
  have h1 := h.1
  have l1 : (M ++ [c]).length = M.length + 1 := by
    rw [List.length_append]
    rfl
  refine Eq.mpr (p_Mo_letter.eq_1 _ _ _) ⟨fun q => hQ _ (wbd_127_83 (wbd_127_84 hI)) (FR.I (FR.I (FR.refl _ w) rfl) rfl) ⟨?_, ?_⟩, fun q => hQ _ (wbd_127_83 (wbd_127_84 hI)) (FR.I (FR.I (FR.refl _ w) rfl) rfl) ⟨?_, ?_⟩⟩
  · rw [sI_same, s, l1]
    omega
  · rw [sI_ne _ _ _ _ _ (by decide), sI_same, h.2, List.getD_eq_getElem?_getD, List.getD_eq_getElem?_getD]
    by_cases c1 : i < M.length
    · rw [List.getElem?_append_left c1]
    · rw [List.getElem?_eq_none (by omega), List.getElem?_eq_none (by rw [l1]; omega)]
  · rw [sI_same, s, l1]
    omega
  · have q := Classical.not_not.mp q
    have e : i = M.length := by omega
    rw [sI_ne _ _ _ _ _ (by decide), sI_same, ha, List.getD_eq_getElem?_getD, e, List.getElem?_append_right (Nat.le_refl _), Nat.sub_self]
    rfl
theorem sy_2 {w0 : MW} {i : Nat} {T : List Int} {E Q : MW → Prop} (hi : i ≤ 2147483647) (hT : T.length ≤ 1000) (hE : ∀ w', BND w' → FR lle w0 w' → LtS w' i T → E w') (n : Nat) : ∀ (ls : List Int) (l : Int64) (w : MW) (M : List Int), BND w → FR lle w0 w → LTl ls l → LtS w i M → M ++ ls = T → ls.length < n → q_Mo_say_2 E Q n l w := by
  induction n with
  | zero => intros; omega
  | succ n ih =>
    intro ls l w M hB hF hL hS hM hm
    rw [q_Mo_say_2.eq_2]
    cases ls with
    | nil =>
      have c : (lg_cmp l (0 : Int64)).toInt = 0 := hL
      rw [List.append_nil] at hM
      exact ⟨fun _ => hE w hB hF (by rw [← hM]; exact hS), fun q => absurd c q⟩
    | cons c ls =>
      have lT : M.length + (ls.length + 1) ≤ 1000 := by
        rw [← hM, List.length_append, List.length_cons] at hT
        exact hT
      refine ⟨fun q => absurd q hL.1, fun _ => le_x hB hS hi (by omega) hL.2.1 (fun w' B' F' S' => ih ls _ w' (M ++ [c]) B' (hF.tr F' rfl) hL.2.2.2 S' ?_ ?_)⟩
      · rw [List.append_assoc]
        exact hM
      · rw [List.length_cons] at hm
        omega
theorem sy_x {w : MW} {l : Int64} {ls : List Int} {i : Nat} {M : List Int} {Q : MW → Prop} (hI : BND w) (h : LtS w i M) (hi : i ≤ 2147483647) (hL : LTl ls l) (hl : M.length + ls.length ≤ 1000) (hQ : ∀ w', BND w' → FR lle w w' → LtS w' i (M ++ ls) → Q w') : p_Mo_say w l Q :=
  Eq.mpr (p_Mo_say.eq_1 _ _ _) (sy_2 hi (by rw [List.length_append]; exact hl) hQ FU ls l w M hI (FR.refl _ w) hL h rfl (fu_lt (by omega)))
theorem lt_pump : LTl [112, 117, 109, 112] 1886221680 := by
  refine ⟨by decide, by decide, by decide, by decide, by decide, by decide, by decide, by decide, by decide, by decide, by decide, by decide, ?_⟩
  show (lg_cmp _ _).toInt = 0
  decide
theorem lt_pipe : LTl [112, 105, 112, 101] 1701865840 := by
  refine ⟨by decide, by decide, by decide, by decide, by decide, by decide, by decide, by decide, by decide, by decide, by decide, by decide, ?_⟩
  show (lg_cmp _ _).toInt = 0
  decide
theorem sn_19 {b : Int32} {w : MW} {E : Int32 → MW → Prop} {Q : MW → Prop} (b0 : 0 ≤ b.toInt) (b1 : b.toInt < 1000000) (hE : ∀ x : Int32, x.toInt = pwu (npw b.toInt + 1) → E x w) (m : Nat) : ∀ (k : Nat) (x : Int32), x.toInt = pwu (k + 1) → k ≤ npw b.toInt → 6 - k < m → q_Mo_sayNumber_19 b E Q m x w := by
  induction m with
  | zero => intros; omega
  | succ m ih =>
    intro k x hx hk hm
    have k5 := npw_5 b.toInt
    have pp := pwu_p (k := k) (by omega)
    have d := nb_div (x := b) (y := x) b0 hx (by omega)
    have nc := npw_c b0 hk
    rw [q_Mo_sayNumber_19.eq_2]
    refine ⟨by omega, fun c => ?_, fun c => ?_⟩
    · rw [d] at c
      have e := nc.1 c b1
      refine hE x ?_
      rw [← e]
      exact hx
    · rw [d] at c
      have e := nc.2 c b1
      have m10 := pwu_10 (k := k) (by omega)
      refine ih (k + 1) _ ?_ e (by omega)
      rw [ti_mul2 hx (by decide : ((10 : Int32)).toInt = 10) (by omega) (by omega), m10]
theorem sn_37 {b : Int32} {w0 : MW} {i : Nat} {T : List Int} {E Q : MW → Prop} (hi : i ≤ 2147483647) (hT : T.length ≤ 1000) (b0 : 0 ≤ b.toInt) (hE : ∀ w', BND w' → FR lle w0 w' → LtS w' i T → E w') (m : Nat) : ∀ (k : Nat) (x : Int32) (w : MW) (M : List Int), BND w → FR lle w0 w → x.toInt = pwu k → k ≤ 6 → LtS w i M → M ++ dgt k b.toInt = T → k < m → q_Mo_sayNumber_37 b E Q m x w := by
  induction m with
  | zero => intros; omega
  | succ m ih =>
    intro k x w M hB hF hx hk hS hM hm
    rw [q_Mo_sayNumber_37.eq_2]
    have lT : M.length + k ≤ 1000 := by
      rw [← hM, List.length_append, dgt_l] at hT
      exact hT
    cases k with
    | zero =>
      have e : x.toInt = 0 := hx
      have eT : M = T := by
        rw [← hM]
        exact (List.append_nil M).symm
      refine ⟨fun _ => hE w hB hF (by rw [← eT]; exact hS), fun c => by omega⟩
    | succ k =>
      have pp := pwu_p (k := k) (by omega)
      have d := nb_div (x := b) (y := x) b0 hx (by omega)
      have q0 : 0 ≤ b.toInt / pwu (k + 1) := Int.ediv_nonneg b0 (by omega)
      have r := nb_rem (x := b / x) (y := (10 : Int32)) (by omega) (by decide : ((10 : Int32)).toInt = 10) (by decide)
      rw [d] at r
      have s := ti_add2 (by decide : ((48 : Int32)).toInt = 48) r (by omega) (by omega)
      have dx := nb_div (x := x) (y := (10 : Int32)) (by omega) (by decide : ((10 : Int32)).toInt = 10) (by decide)
      refine ⟨fun c => by omega, fun _ => ⟨by omega, le_x hB hS hi (by omega) s (fun w' B' F' S' => ih k _ w' (M ++ [48 + b.toInt / pwu (k + 1) % 10]) B' (hF.tr F' rfl) (by rw [dx, hx]; exact pp.2.2) (by omega) S' ?_ (by omega))⟩⟩
      rw [List.append_assoc]
      exact hM
theorem sn_x {w : MW} {b : Int32} {i : Nat} {M : List Int} {Q : MW → Prop} (hI : BND w) (h : LtS w i M) (hi : i ≤ 2147483647) (hl : M.length ≤ 900) (b0 : -1 ≤ b.toInt) (b1 : b.toInt < 1000000) (hQ : ∀ w', BND w' → FR lle w w' → LtS w' i (M ++ [32] ++ endT b.toInt) → Q w') : p_Mo_sayNumber w b Q := by
  have k5 := npw_5 b.toInt
  have l1 : (M ++ [32]).length = M.length + 1 := by
    rw [List.length_append]
    rfl
  refine Eq.mpr (p_Mo_sayNumber.eq_1 _ _ _) (le_x (c := 32) hI h hi (by omega) (by decide) (fun w1 B1 F1 S1 => ⟨fun c => ?_, fun c => ?_⟩))
  · have e : endT b.toInt = num b.toInt := by
      unfold endT
      rw [if_neg (by omega)]
    rw [e] at hQ
    have lt : npw b.toInt + 1 < FU := Nat.lt_of_le_of_lt (Nat.succ_le_succ k5) (fu_lt (by decide))
    have l6 : 6 - 0 < FU := fu_lt (by decide)
    have hT : M ++ [32] ++ dgt (npw b.toInt + 1) b.toInt = M ++ [32] ++ num b.toInt := by
      unfold num
      rfl
    have p1 : ((1 : Int32)).toInt = pwu (0 + 1) := by decide
    refine sn_19 c b1 (fun x hx => ?_) FU 0 1 p1 (Nat.zero_le _) l6
    exact sn_37 (w0 := w1) (T := M ++ [32] ++ num b.toInt) hi (by rw [List.length_append, l1, num_l]; omega) c (fun w' B' F' S' => hQ w' B' (F1.tr F' rfl) S') FU (npw b.toInt + 1) x w1 (M ++ [32]) B1 (FR.refl _ w1) hx (by omega) S1 hT lt
  · have e : endT b.toInt = [45] := by
      unfold endT
      rw [if_pos (by omega)]
    rw [e] at hQ
    exact le_x (c := 45) B1 S1 hi (by omega) (by decide) (fun w' B' F' S' => hQ w' B' (F1.tr F' rfl) S')
/-! the reference writes the text of its plant: all of it; the class's answer -/
theorem mwr_59 {w : MW} {ls : List Ln} {y : Ln} {t i : Nat} {a : Int32} {l : Int64} {hd M : List Int} {A : Int32 → MW → Prop} {E : MW → Prop} {Q : Int32 → MW → Prop} (hI : BND w) (hP : PWs w ls) (hG : GL ls) (ey : (thg ls)[t]? = some y) (t20 : t < 20) (hi : i ≤ 2147483647) (hS : LtS w i M) (hM : M.length ≤ 300) (hL : LTl hd l) (hh : hd.length ≤ 5) (hT : lnT y = if y.1 = 1 then hd ++ [10] else hd ++ [32] ++ endT y.2.1 ++ [10]) (hA : ∀ w', BND w' → FR lle w w' → LtS w' i (M ++ lnT y) → A (nI t + (1 : Int32)) w') : q_Mo_write_59 a (nI t) l w A E Q := by
  have ti : (nI t).toInt = (t : Int) := nI_toInt (by omega)
  have tn : (nI t).toInt.toNat = t := by omega
  have gi : 0 ≤ (nI t).toInt ∧ (nI t).toInt < 20 := ⟨by omega, by omega⟩
  have gy := hG.1 y (List.mem_of_getElem? ey)
  refine Eq.mpr (q_Mo_write_59.eq_1 _ _ _ _ _ _ _) (sy_x hI hS hi hL (by omega) (fun w7 B7 F7 S7 => ?_))
  have g := (pws_fr hP F7 rfl).2.2.1 t y ey
  have l7 : (M ++ hd).length ≤ 305 := by
    rw [List.length_append]
    omega
  rw [tn]
  refine ⟨gi, fun c1 => le_x (c := 10) B7 S7 hi (by omega) (by decide) (fun w' B' F' S' => hA w' B' (F7.tr F' rfl) ?_), fun c1 => ⟨gi, fun c0 => ⟨gi, ?_⟩, fun c0 => ⟨gi, ?_⟩⟩⟩
  · have k : y.1 = 1 := by
      have e := g.1
      unfold mkd at e
      rcases gy.1 with q | q | q
      · rw [if_pos q] at e
        omega
      · exact q
      · rw [if_neg (by omega), if_neg (by omega)] at e
        omega
    rw [hT, if_pos k, ← List.append_assoc]
    exact S'
  · have k : y.1 = 2 ∧ 0 ≤ y.2.1 ∧ y.2.1 ≤ 7 := by
      have e := g.1
      unfold mkd at e
      rcases gy.1 with q | q | q
      · rw [if_pos q] at e
        omega
      · rw [if_neg (by omega), if_pos q] at e
        omega
      · exact q
    have e2 : (w7.1 163 t).toInt = 2 + y.2.1 := by
      rw [g.1]
      unfold mkd
      rw [if_neg (by omega), if_neg (by omega)]
    have v := ti_sub2 e2 (by decide : ((2 : Int32)).toInt = 2) (by omega) (by omega)
    have v2 : ((w7.1 163 t) - (2 : Int32)).toInt = y.2.1 := by omega
    have e3 := endT_l (n := y.2.1) (by omega)
    refine sn_x B7 S7 hi (by omega) (by omega) (by omega) (fun w8 B8 F8 S8 => ?_)
    rw [v2] at S8
    refine le_x (c := 10) B8 S8 hi ?_ (by decide) (fun w' B' F' S' => hA w' B' ((F7.tr F8 rfl).tr F' rfl) ?_)
    · rw [List.length_append, List.length_append]
      show (M ++ hd).length + 1 + (endT y.2.1).length ≤ 1000
      omega
    · rw [hT, if_neg (by omega)]
      simp only [← List.append_assoc]
      exact S'
  · have k : y.1 = 0 := by
      have e := g.1
      have c0 := Classical.not_not.mp c0
      unfold mkd at e
      rcases gy.1 with q | q | q
      · exact q
      · rw [if_neg (by omega), if_pos q] at e
        omega
      · rw [if_neg (by omega), if_neg (by omega)] at e
        omega
    have r := gy.2 k
    have v2 : (w7.1 164 t).toInt = y.2.1 := by rw [g.2, if_pos k]
    have k5 := npw_5 y.2.1
    have e3 : (endT y.2.1).length ≤ 6 := by
      unfold endT
      rw [if_neg (by omega), num_l]
      omega
    refine sn_x B7 S7 hi (by omega) (by omega) (by omega) (fun w8 B8 F8 S8 => ?_)
    rw [v2] at S8
    refine le_x (c := 10) B8 S8 hi ?_ (by decide) (fun w' B' F' S' => hA w' B' ((F7.tr F8 rfl).tr F' rfl) ?_)
    · rw [List.length_append, List.length_append]
      show (M ++ hd).length + 1 + (endT y.2.1).length ≤ 1000
      omega
    · rw [hT, if_neg (by omega)]
      simp only [← List.append_assoc]
      exact S'
theorem mwr_12 {w0 : MW} {ls : List Ln} {i : Nat} {a : Int32} {E : MW → Prop} {Q : Int32 → MW → Prop} (hP : PWs w0 ls) (hG : GL ls) (ha : a.toInt = (i : Int)) (hE : ∀ w', BND w' → FR lle w0 w' → LtS w' i (txl (thg ls)) → E w') (n : Nat) : ∀ (t : Nat) (w : MW), BND w → FR lle w0 w → t ≤ (thg ls).length → LtS w i (txl ((thg ls).take t)) → 20 - t < n → q_Mo_write_12 a E Q n (nI t) w := by
  induction n with
  | zero => intros; omega
  | succ n ih =>
    intro t w hB hF ht hS hm
    have a1 := ti_hi a
    have hi : i ≤ 2147483647 := by omega
    have g20 := hG.2.2.1
    have ti : (nI t).toInt = (t : Int) := nI_toInt (by omega)
    have tn : (nI t).toInt.toNat = t := by omega
    have P : PWs w ls := pws_fr hP hF rfl
    have n0 := P.1
    rw [q_Mo_write_12.eq_2]
    refine ⟨fun c => ?_, fun c => ⟨fun c2 => by omega, fun _ => ?_⟩⟩
    · have e : t = (thg ls).length := by omega
      rw [e, List.take_length] at hS
      exact hE w hB hF hS
    have lt : t < (thg ls).length := by omega
    obtain ⟨y, ey⟩ : ∃ y, (thg ls)[t]? = some y := ⟨_, List.getElem?_eq_getElem lt⟩
    have g := P.2.2.1 t y ey
    have gy := hG.1 y (List.mem_of_getElem? ey)
    have len := thg_len hG t
    have gi : 0 ≤ (nI t).toInt ∧ (nI t).toInt < 20 := ⟨by omega, by omega⟩
    have nx : ∀ v : MW, BND v → FR lle w v → LtS v i (txl ((thg ls).take t) ++ lnT y) → q_Mo_write_12 a E Q n (nI t + (1 : Int32)) v := fun v Bv Fv Sv => by
      rw [nI_1]
      refine ih (t + 1) v Bv (hF.tr Fv rfl) lt ?_ (by omega)
      rw [txl_t _ _ _ ey]
      exact Sv
    have en : ∀ n : Int, 0 ≤ n → endT n = num n := fun n h => by
      unfold endT
      rw [if_neg (by omega)]
    have ek := g.1
    unfold mkd at ek
    rw [tn]
    refine ⟨gi, fun c0 => ⟨gi, fun c1 => ?_, fun c1 => ?_⟩, fun c0 => ?_⟩
    · have k : y.1 = 2 ∧ 0 ≤ y.2.1 ∧ y.2.1 ≤ 7 := by
        rcases gy.1 with q | q | q
        · rw [if_pos q] at ek
          omega
        · rw [if_neg (by omega), if_pos q] at ek
          omega
        · exact q
      refine mwr_59 hB P hG ey (by omega) hi hS (by omega) lt_valve (by decide) ?_ nx
      rw [if_neg (by omega), en _ (by omega)]
      unfold lnT
      rw [if_neg (by omega), if_neg (by omega), if_pos k.1]
      rfl
    · have k : y.1 = 1 := by
        have c1 := Classical.not_not.mp c1
        rcases gy.1 with q | q | q
        · rw [if_pos q] at ek
          omega
        · exact q
        · rw [if_neg (by omega), if_neg (by omega)] at ek
          omega
      refine mwr_59 hB P hG ey (by omega) hi hS (by omega) lt_pump (by decide) ?_ nx
      rw [if_pos k]
      unfold lnT
      rw [if_neg (by omega), if_pos k]
    · have k : y.1 = 0 := by
        have c0 := Classical.not_not.mp c0
        rcases gy.1 with q | q | q
        · exact q
        · rw [if_neg (by omega), if_pos q] at ek
          omega
        · rw [if_neg (by omega), if_neg (by omega)] at ek
          omega
      have r := gy.2 k
      refine mwr_59 hB P hG ey (by omega) hi hS (by omega) lt_tank (by decide) ?_ nx
      rw [if_neg (by omega), en _ (by omega)]
      unfold lnT
      rw [if_pos k]
      rfl
theorem mwr_116 {w0 : MW} {ls : List Ln} {i : Nat} {a : Int32} {E : MW → Prop} {Q : Int32 → MW → Prop} (hP : PWs w0 ls) (hG : GL ls) (ha : a.toInt = (i : Int)) (hE : ∀ w', BND w' → FR lle w0 w' → LtS w' i (txt ls) → E w') (n : Nat) : ∀ (t : Nat) (w : MW), BND w → FR lle w0 w → t ≤ (pip ls).length → LtS w i (txl (thg ls) ++ txl ((pip ls).take t)) → 24 - t < n → q_Mo_write_116 a E Q n (nI t) w := by
  induction n with
  | zero => intros; omega
  | succ n ih =>
    intro t w hB hF ht hS hm
    have a1 := ti_hi a
    have hi : i ≤ 2147483647 := by omega
    have g24 := hG.2.2.2
    have ti : (nI t).toInt = (t : Int) := nI_toInt (by omega)
    have tn : (nI t).toInt.toNat = t := by omega
    have P : PWs w ls := pws_fr hP hF rfl
    have n1 := P.2.1
    rw [q_Mo_write_116.eq_2]
    refine ⟨fun c => ?_, fun c => ⟨fun c2 => by omega, fun _ => ?_⟩⟩
    · have e : t = (pip ls).length := by omega
      rw [e, List.take_length] at hS
      exact hE w hB hF hS
    have lt : t < (pip ls).length := by omega
    obtain ⟨y, ey⟩ : ∃ y, (pip ls)[t]? = some y := ⟨_, List.getElem?_eq_getElem lt⟩
    have g := P.2.2.2 t y ey
    have gy := hG.2.1 y (List.mem_of_getElem? ey)
    have l1 := thg_len2 hG
    have l2 := pip_len hG t
    have L0 : (txl (thg ls) ++ txl ((pip ls).take t)).length ≤ 585 := by
      rw [List.length_append]
      omega
    have m2 := ti_mul2 (by decide : ((2 : Int32)).toInt = 2) ti (by omega) (by omega)
    have m3 := ti_add2 m2 i_1 (by omega) (by omega)
    have x2 : ((2 : Int32) * nI t).toInt.toNat = 2 * t := by omega
    have x3 : (((2 : Int32) * nI t) + (1 : Int32)).toInt.toNat = 2 * t + 1 := by omega
    have ea := endT_l (n := y.2.1) (by omega)
    have eb := endT_l (n := y.2.2.1) (by omega)
    have v := npw_v y.2.2.2
    have ec : endT y.2.2.2 = num y.2.2.2 := by
      unfold endT
      rw [if_neg (by omega)]
    rw [tn, x2, x3]
    generalize eL : (txl (thg ls) ++ txl ((pip ls).take t)) = L at *
    refine sy_x hB hS hi lt_pipe (by show L.length + 4 ≤ 1000; omega) (fun w1 B1 F1 S1 => ⟨⟨by omega, by omega⟩, ?_⟩)
    have v1 : (w1.1 170 (2 * t)).toInt = y.2.1 := by rw [(F1 170 _ rfl).1, g.2.1]
    refine sn_x B1 S1 hi (by rw [List.length_append]; show L.length + 4 ≤ 900; omega) (by omega) (by omega) (fun w2 B2 F2 S2 => ⟨⟨by omega, by omega⟩, ?_⟩)
    rw [v1] at S2
    have v2 : (w2.1 170 (2 * t + 1)).toInt = y.2.2.1 := by rw [(F2 170 _ rfl).1, (F1 170 _ rfl).1, g.2.2.1]
    refine sn_x B2 S2 hi (by rw [List.length_append, List.length_append, List.length_append]; show L.length + 4 + 1 + (endT y.2.1).length ≤ 900; omega) (by omega) (by omega) (fun w3 B3 F3 S3 => ⟨⟨by omega, by omega⟩, ?_⟩)
    rw [v2] at S3
    have v3 : (w3.1 169 t).toInt = y.2.2.2 := by rw [(F3 169 _ rfl).1, (F2 169 _ rfl).1, (F1 169 _ rfl).1, g.1]
    refine sn_x B3 S3 hi (by rw [List.length_append, List.length_append, List.length_append, List.length_append, List.length_append]; show L.length + 4 + 1 + (endT y.2.1).length + 1 + (endT y.2.2.1).length ≤ 900; omega) (by omega) (by omega) (fun w4 B4 F4 S4 => ?_)
    rw [v3, ec] at S4
    refine le_x (c := 10) B4 S4 hi (by rw [List.length_append, List.length_append, List.length_append, List.length_append, List.length_append, List.length_append, List.length_append, num_l]; show L.length + 4 + 1 + (endT y.2.1).length + 1 + (endT y.2.2.1).length + 1 + (npw y.2.2.2 + 1) ≤ 1000; omega) (by decide) (fun w5 B5 F5 S5 => ?_)
    rw [nI_1]
    refine ih (t + 1) w5 B5 (((((hF.tr F1 rfl).tr F2 rfl).tr F3 rfl).tr F4 rfl).tr F5 rfl) lt ?_ (by omega)
    rw [txl_t _ _ _ ey, ← List.append_assoc, eL]
    have e : lnT y = [112, 105, 112, 101] ++ [32] ++ endT y.2.1 ++ [32] ++ endT y.2.2.1 ++ [32] ++ num y.2.2.2 ++ [10] := by
      unfold lnT
      rw [if_neg (by omega), if_neg (by omega), if_neg (by omega)]
      rfl
    rw [e]
    simp only [← List.append_assoc]
    exact S5
/-- the byte that write tells -/
def wrV (ls : List Ln) (a : Int) : Int := if a < 0 then -1 else (txt ls).getD a.toNat (-1)
theorem mwr_x {w : MW} {ls : List Ln} {a : Int32} {Q : Int32 → MW → Prop} (hI : BND w) (hP : PWs w ls) (hG : GL ls) (hQ : ∀ r w', BND w' → FR lle w w' → r.toInt = wrV ls a.toInt → Q r w') : p_Mo_write w a Q := by
  have B0 : BND (sI (sI w 127 83 a) 127 84 (-1)) := wbd_127_84 (wbd_127_83 hI)
  have F0 : FR lle w (sI (sI w 127 83 a) 127 84 (-1)) := FR.I (FR.I (FR.refl _ w) rfl) rfl
  have e83 : (sI (sI w 127 83 a) 127 84 (-1)).1 127 83 = a := rfl
  have e84 : (sI (sI w 127 83 a) 127 84 (-1)).1 127 84 = -1 := rfl
  refine Eq.mpr (p_Mo_write.eq_1 _ _ _) ?_
  generalize (sI (sI w 127 83 a) 127 84 (-1)) = z at *
  have P0 : PWs z ls := pws_fr hP F0 rfl
  unfold wrV at hQ
  by_cases c : a.toInt < 0
  · rw [if_pos c] at hQ
    have k1 : ∀ (E : MW → Prop) (Q : Int32 → MW → Prop) (n : Nat) (x : Int32), E z → q_Mo_write_12 a E Q (n + 1) x z := fun E Q n x h => by
      rw [q_Mo_write_12.eq_2]
      exact ⟨fun _ => h, fun _ => ⟨fun _ => h, fun d => absurd c d⟩⟩
    have k2 : ∀ (E : MW → Prop) (Q : Int32 → MW → Prop) (n : Nat) (x : Int32), E z → q_Mo_write_116 a E Q (n + 1) x z := fun E Q n x h => by
      rw [q_Mo_write_116.eq_2]
      exact ⟨fun _ => h, fun _ => ⟨fun _ => h, fun d => absurd c d⟩⟩
    exact k1 _ _ 99999999999999999999 _ (k2 _ _ 99999999999999999999 _ (hQ _ z B0 F0 (by rw [e84]; exact i_m1)))
  · rw [if_neg c] at hQ
    have ha : a.toInt = (a.toInt.toNat : Int) := by omega
    have S0 : LtS z a.toInt.toNat (txl ((thg ls).take 0)) := ⟨by rw [e83]; show a.toInt = (a.toInt.toNat : Int) - 0; omega, by rw [e84]; rfl⟩
    refine mwr_12 (t := 0) (w0 := z) P0 hG ha (fun w1 B1 F1 S1 => mwr_116 (t := 0) (w0 := z) P0 hG ha (fun w2 B2 F2 S2 => hQ _ w2 B2 (F0.tr F2 rfl) S2.2) FU w1 B1 F1 (Nat.zero_le _) ?_ (fu_lt (by decide))) FU z B0 (FR.refl _ z) (Nat.zero_le _) S0 (fu_lt (by decide))
    have e : txl (thg ls) ++ txl ((pip ls).take 0) = txl (thg ls) := List.append_nil _
    rw [e]
    exact S1
theorem cw_x {w : MW} {ls : List Ln} {a : Int32} {Q : Int32 → MW → Prop} (hI : BND w) (hW : WT w (w.1 0 12) (txt ls)) (hQ : ∀ r, r.toInt = wrV ls a.toInt → Q r w) : p_Bh_write w a Q := by
  have b := bd_0_12 hI
  have h1 := hW.1
  unfold wrV at hQ
  refine Eq.mpr (p_Bh_write.eq_1 _ _ _) ⟨fun c => hQ _ ?_, fun c => ⟨fun c2 => hQ _ ?_, fun c2 => ⟨⟨by omega, by omega⟩, hQ _ ?_⟩⟩⟩
  · rw [if_pos c]
    exact i_m1
  · rw [if_neg c, List.getD_eq_getElem?_getD, List.getElem?_eq_none (by omega)]
    exact i_m1
  · rw [if_neg c, List.getD_eq_getElem?_getD]
    have lt : a.toInt.toNat < (txt ls).length := by omega
    rw [List.getElem?_eq_getElem lt]
    exact hW.2 _ _ (List.getElem?_eq_getElem lt)
/-! arrays are filled, exactly -/
theorem fl_16 {z : MW} {v : Int32} {E Q : MW → Prop} (v0 : v.toInt = 0) (hE : ∀ w, BND w → FR [(16, none)] z w → (∀ j, j < 20 → w.1 16 j = v) → E w) (n : Nat) : ∀ (i : Nat) (w : MW), BND w → FR [(16, none)] z w → i ≤ 20 → (∀ j, j < i → w.1 16 j = v) → 20 - i < n → q_Ar_fill0_16_5 v 20 E Q n (nI i) w := by
  induction n with
  | zero => intros; omega
  | succ n ih =>
    intro i w hB hF hi hj hm
    have ti : (nI i).toInt = (i : Int) := nI_toInt (by omega)
    have tn : (nI i).toInt.toNat = i := by omega
    have eN : (20 : Int32).toInt = 20 := by decide
    rw [q_Ar_fill0_16_5.eq_2]
    refine ⟨fun c => ?_, fun c => ⟨⟨by omega, by omega⟩, ?_⟩⟩
    · have e : i = 20 := by omega
      subst e
      exact hE w hB hF hj
    rw [nI_1, tn]
    refine ih (i + 1) _ (wbd_16 hB _ (by omega) (by omega)) (FR.I hF rfl) (by omega) (fun j q => ?_) (by omega)
    rw [sI_if]
    by_cases c : j = i
    · rw [if_pos c]
    · rw [if_neg c]
      exact hj j (by omega)
theorem fx_16 {w : MW} {v : Int32} {Q : MW → Prop} (v0 : v.toInt = 0) (hI : BND w) (hQ : ∀ w', BND w' → FR [(16, none)] w w' → (∀ j, j < 20 → w'.1 16 j = v) → Q w') : p_Ar_fill0_16 w v Q :=
  Eq.mpr (p_Ar_fill0_16.eq_1 _ _ _) (fl_16 (i := 0) v0 hQ FU w hI (FR.refl _ w) (by omega) (fun j q => absurd q (Nat.not_lt_zero j)) (fu_lt (by decide)))
theorem fl_17 {z : MW} {v : Int32} {E Q : MW → Prop} (v0 : v.toInt = 0) (hE : ∀ w, BND w → FR [(17, none)] z w → (∀ j, j < 44 → w.1 17 j = v) → E w) (n : Nat) : ∀ (i : Nat) (w : MW), BND w → FR [(17, none)] z w → i ≤ 44 → (∀ j, j < i → w.1 17 j = v) → 44 - i < n → q_Ar_fill0_17_5 v 44 E Q n (nI i) w := by
  induction n with
  | zero => intros; omega
  | succ n ih =>
    intro i w hB hF hi hj hm
    have ti : (nI i).toInt = (i : Int) := nI_toInt (by omega)
    have tn : (nI i).toInt.toNat = i := by omega
    have eN : (44 : Int32).toInt = 44 := by decide
    rw [q_Ar_fill0_17_5.eq_2]
    refine ⟨fun c => ?_, fun c => ⟨⟨by omega, by omega⟩, ?_⟩⟩
    · have e : i = 44 := by omega
      subst e
      exact hE w hB hF hj
    rw [nI_1, tn]
    refine ih (i + 1) _ (wbd_17 hB _ (by omega) (by omega)) (FR.I hF rfl) (by omega) (fun j q => ?_) (by omega)
    rw [sI_if]
    by_cases c : j = i
    · rw [if_pos c]
    · rw [if_neg c]
      exact hj j (by omega)
theorem fx_17 {w : MW} {v : Int32} {Q : MW → Prop} (v0 : v.toInt = 0) (hI : BND w) (hQ : ∀ w', BND w' → FR [(17, none)] w w' → (∀ j, j < 44 → w'.1 17 j = v) → Q w') : p_Ar_fill0_17 w v Q :=
  Eq.mpr (p_Ar_fill0_17.eq_1 _ _ _) (fl_17 (i := 0) v0 hQ FU w hI (FR.refl _ w) (by omega) (fun j q => absurd q (Nat.not_lt_zero j)) (fu_lt (by decide)))
theorem fl_18 {z : MW} {v : Int32} {E Q : MW → Prop} (hE : ∀ w, BND w → FR [(18, none)] z w → (∀ j, j < 44 → w.1 18 j = v) → E w) (n : Nat) : ∀ (i : Nat) (w : MW), BND w → FR [(18, none)] z w → i ≤ 44 → (∀ j, j < i → w.1 18 j = v) → 44 - i < n → q_Ar_fill0_18_5 v 44 E Q n (nI i) w := by
  induction n with
  | zero => intros; omega
  | succ n ih =>
    intro i w hB hF hi hj hm
    have ti : (nI i).toInt = (i : Int) := nI_toInt (by omega)
    have tn : (nI i).toInt.toNat = i := by omega
    have eN : (44 : Int32).toInt = 44 := by decide
    rw [q_Ar_fill0_18_5.eq_2]
    refine ⟨fun c => ?_, fun c => ⟨⟨by omega, by omega⟩, ?_⟩⟩
    · have e : i = 44 := by omega
      subst e
      exact hE w hB hF hj
    rw [nI_1, tn]
    refine ih (i + 1) _ (wbd_18 hB _ ) (FR.I hF rfl) (by omega) (fun j q => ?_) (by omega)
    rw [sI_if]
    by_cases c : j = i
    · rw [if_pos c]
    · rw [if_neg c]
      exact hj j (by omega)
theorem fx_18 {w : MW} {v : Int32} {Q : MW → Prop} (hI : BND w) (hQ : ∀ w', BND w' → FR [(18, none)] w w' → (∀ j, j < 44 → w'.1 18 j = v) → Q w') : p_Ar_fill0_18 w v Q :=
  Eq.mpr (p_Ar_fill0_18.eq_1 _ _ _) (fl_18 (i := 0) hQ FU w hI (FR.refl _ w) (by omega) (fun j q => absurd q (Nat.not_lt_zero j)) (fu_lt (by decide)))
theorem fl_19 {z : MW} {v : Int32} {E Q : MW → Prop} (v0 : v.toInt = 0) (hE : ∀ w, BND w → FR [(19, none)] z w → (∀ j, j < 44 → w.1 19 j = v) → E w) (n : Nat) : ∀ (i : Nat) (w : MW), BND w → FR [(19, none)] z w → i ≤ 44 → (∀ j, j < i → w.1 19 j = v) → 44 - i < n → q_Ar_fill0_19_5 v 44 E Q n (nI i) w := by
  induction n with
  | zero => intros; omega
  | succ n ih =>
    intro i w hB hF hi hj hm
    have ti : (nI i).toInt = (i : Int) := nI_toInt (by omega)
    have tn : (nI i).toInt.toNat = i := by omega
    have eN : (44 : Int32).toInt = 44 := by decide
    rw [q_Ar_fill0_19_5.eq_2]
    refine ⟨fun c => ?_, fun c => ⟨⟨by omega, by omega⟩, ?_⟩⟩
    · have e : i = 44 := by omega
      subst e
      exact hE w hB hF hj
    rw [nI_1, tn]
    refine ih (i + 1) _ (wbd_19 hB _ (by omega) (by omega)) (FR.I hF rfl) (by omega) (fun j q => ?_) (by omega)
    rw [sI_if]
    by_cases c : j = i
    · rw [if_pos c]
    · rw [if_neg c]
      exact hj j (by omega)
theorem fx_19 {w : MW} {v : Int32} {Q : MW → Prop} (v0 : v.toInt = 0) (hI : BND w) (hQ : ∀ w', BND w' → FR [(19, none)] w w' → (∀ j, j < 44 → w'.1 19 j = v) → Q w') : p_Ar_fill0_19 w v Q :=
  Eq.mpr (p_Ar_fill0_19.eq_1 _ _ _) (fl_19 (i := 0) v0 hQ FU w hI (FR.refl _ w) (by omega) (fun j q => absurd q (Nat.not_lt_zero j)) (fu_lt (by decide)))
theorem fl_21 {z : MW} {v : Int32} {E Q : MW → Prop} (v0 : v.toInt = 0) (hE : ∀ w, BND w → FR [(21, none)] z w → (∀ j, j < 24 → w.1 21 j = v) → E w) (n : Nat) : ∀ (i : Nat) (w : MW), BND w → FR [(21, none)] z w → i ≤ 24 → (∀ j, j < i → w.1 21 j = v) → 24 - i < n → q_Ar_fill0_21_5 v 24 E Q n (nI i) w := by
  induction n with
  | zero => intros; omega
  | succ n ih =>
    intro i w hB hF hi hj hm
    have ti : (nI i).toInt = (i : Int) := nI_toInt (by omega)
    have tn : (nI i).toInt.toNat = i := by omega
    have eN : (24 : Int32).toInt = 24 := by decide
    rw [q_Ar_fill0_21_5.eq_2]
    refine ⟨fun c => ?_, fun c => ⟨⟨by omega, by omega⟩, ?_⟩⟩
    · have e : i = 24 := by omega
      subst e
      exact hE w hB hF hj
    rw [nI_1, tn]
    refine ih (i + 1) _ (wbd_21 hB _ (by omega) (by omega)) (FR.I hF rfl) (by omega) (fun j q => ?_) (by omega)
    rw [sI_if]
    by_cases c : j = i
    · rw [if_pos c]
    · rw [if_neg c]
      exact hj j (by omega)
theorem fx_21 {w : MW} {v : Int32} {Q : MW → Prop} (v0 : v.toInt = 0) (hI : BND w) (hQ : ∀ w', BND w' → FR [(21, none)] w w' → (∀ j, j < 24 → w'.1 21 j = v) → Q w') : p_Ar_fill0_21 w v Q :=
  Eq.mpr (p_Ar_fill0_21.eq_1 _ _ _) (fl_21 (i := 0) v0 hQ FU w hI (FR.refl _ w) (by omega) (fun j q => absurd q (Nat.not_lt_zero j)) (fu_lt (by decide)))
theorem fl_23 {z : MW} {v : Int32} {E Q : MW → Prop} (hE : ∀ w, BND w → FR [(23, none)] z w → (∀ j, j < 264 → w.1 23 j = v) → E w) (n : Nat) : ∀ (i : Nat) (w : MW), BND w → FR [(23, none)] z w → i ≤ 264 → (∀ j, j < i → w.1 23 j = v) → 264 - i < n → q_Ar_fill0_23_5 v 264 E Q n (nI i) w := by
  induction n with
  | zero => intros; omega
  | succ n ih =>
    intro i w hB hF hi hj hm
    have ti : (nI i).toInt = (i : Int) := nI_toInt (by omega)
    have tn : (nI i).toInt.toNat = i := by omega
    have eN : (264 : Int32).toInt = 264 := by decide
    rw [q_Ar_fill0_23_5.eq_2]
    refine ⟨fun c => ?_, fun c => ⟨⟨by omega, by omega⟩, ?_⟩⟩
    · have e : i = 264 := by omega
      subst e
      exact hE w hB hF hj
    rw [nI_1, tn]
    refine ih (i + 1) _ (wbd_23 hB _ ) (FR.I hF rfl) (by omega) (fun j q => ?_) (by omega)
    rw [sI_if]
    by_cases c : j = i
    · rw [if_pos c]
    · rw [if_neg c]
      exact hj j (by omega)
theorem fx_23 {w : MW} {v : Int32} {Q : MW → Prop} (hI : BND w) (hQ : ∀ w', BND w' → FR [(23, none)] w w' → (∀ j, j < 264 → w'.1 23 j = v) → Q w') : p_Ar_fill0_23 w v Q :=
  Eq.mpr (p_Ar_fill0_23.eq_1 _ _ _) (fl_23 (i := 0) hQ FU w hI (FR.refl _ w) (by omega) (fun j q => absurd q (Nat.not_lt_zero j)) (fu_lt (by decide)))
theorem fl_37 {z : MW} {v : Int32} {E Q : MW → Prop} (hE : ∀ w, BND w → FR [(37, none)] z w → (∀ j, j < 20 → w.1 37 j = v) → E w) (n : Nat) : ∀ (i : Nat) (w : MW), BND w → FR [(37, none)] z w → i ≤ 20 → (∀ j, j < i → w.1 37 j = v) → 20 - i < n → q_Ar_fill0_37_5 v 20 E Q n (nI i) w := by
  induction n with
  | zero => intros; omega
  | succ n ih =>
    intro i w hB hF hi hj hm
    have ti : (nI i).toInt = (i : Int) := nI_toInt (by omega)
    have tn : (nI i).toInt.toNat = i := by omega
    have eN : (20 : Int32).toInt = 20 := by decide
    rw [q_Ar_fill0_37_5.eq_2]
    refine ⟨fun c => ?_, fun c => ⟨⟨by omega, by omega⟩, ?_⟩⟩
    · have e : i = 20 := by omega
      subst e
      exact hE w hB hF hj
    rw [nI_1, tn]
    refine ih (i + 1) _ (wbd_37 hB _ ) (FR.I hF rfl) (by omega) (fun j q => ?_) (by omega)
    rw [sI_if]
    by_cases c : j = i
    · rw [if_pos c]
    · rw [if_neg c]
      exact hj j (by omega)
theorem fx_37 {w : MW} {v : Int32} {Q : MW → Prop} (hI : BND w) (hQ : ∀ w', BND w' → FR [(37, none)] w w' → (∀ j, j < 20 → w'.1 37 j = v) → Q w') : p_Ar_fill0_37 w v Q :=
  Eq.mpr (p_Ar_fill0_37.eq_1 _ _ _) (fl_37 (i := 0) hQ FU w hI (FR.refl _ w) (by omega) (fun j q => absurd q (Nat.not_lt_zero j)) (fu_lt (by decide)))
theorem sJ_if (w : MW) (k j : Nat) (v : Int64) (t : Nat) : (sJ w k j v).2.1 k t = if t = j then v else w.2.1 k t := by
  rw [sJ_at]
  by_cases q : t = j
  · rw [if_pos ⟨rfl, q⟩, if_pos q]
  · rw [if_neg (fun z => q z.2), if_neg q]
theorem fl_20 {z : MW} {v : Int64} {E Q : MW → Prop} (hE : ∀ w, BND w → FR [(20, none)] z w → (∀ j, j < 96 → w.2.1 20 j = v) → E w) (n : Nat) : ∀ (i : Nat) (w : MW), BND w → FR [(20, none)] z w → i ≤ 96 → (∀ j, j < i → w.2.1 20 j = v) → 96 - i < n → q_Ar_fill1_20_6 v 96 E Q n (nI i) w := by
  induction n with
  | zero => intros; omega
  | succ n ih =>
    intro i w hB hF hi hj hm
    have ti : (nI i).toInt = (i : Int) := nI_toInt (by omega)
    have tn : (nI i).toInt.toNat = i := by omega
    have eN : (96 : Int32).toInt = 96 := by decide
    rw [q_Ar_fill1_20_6.eq_2]
    refine ⟨fun c => ?_, fun c => ⟨⟨by omega, by omega⟩, ?_⟩⟩
    · have e : i = 96 := by omega
      subst e
      exact hE w hB hF hj
    rw [nI_1, tn]
    refine ih (i + 1) _ (bnd_J hB) (FR.J hF rfl) (by omega) (fun j q => ?_) (by omega)
    rw [sJ_if]
    by_cases c : j = i
    · rw [if_pos c]
    · rw [if_neg c]
      exact hj j (by omega)
theorem fx_20 {w : MW} {v : Int64} {Q : MW → Prop} (hI : BND w) (hQ : ∀ w', BND w' → FR [(20, none)] w w' → (∀ j, j < 96 → w'.2.1 20 j = v) → Q w') : p_Ar_fill1_20 w v Q :=
  Eq.mpr (p_Ar_fill1_20.eq_1 _ _ _) (fl_20 (i := 0) hQ FU w hI (FR.refl _ w) (by omega) (fun j q => absurd q (Nat.not_lt_zero j)) (fu_lt (by decide)))
theorem nar0z : vp_nar .boolean (0 : Int32) = 0 := by decide
/-! the class takes a plant, exactly -/
theorem fg_7 {z : MW} {E Q : MW → Prop} (hE : ∀ w, BND w → FR [(36, none)] z w → (∀ j, j < 24 → w.1 36 j = 0) → E w) (n : Nat) : ∀ (i : Nat) (w : MW), BND w → FR [(36, none)] z w → i ≤ 24 → (∀ j, j < i → w.1 36 j = 0) → 24 - i < n → q_Wa_forget_7 E Q n (nI i) w := by
  induction n with
  | zero => intros; omega
  | succ n ih =>
    intro i w hB hF hi hj hm
    have ti : (nI i).toInt = (i : Int) := nI_toInt (by omega)
    have tn : (nI i).toInt.toNat = i := by omega
    rw [q_Wa_forget_7.eq_2]
    refine ⟨fun c => ?_, fun c => ⟨⟨by omega, by omega⟩, ?_⟩⟩
    · have e : i = 24 := by omega
      subst e
      exact hE w hB hF hj
    rw [nI_1, tn, nar0z]
    refine ih (i + 1) _ (wbd_36 hB _ (by decide) (by decide)) (FR.I hF rfl) (by omega) (fun j q => ?_) (by omega)
    rw [sI_if]
    by_cases c : j = i
    · rw [if_pos c]
    · rw [if_neg c]
      exact hj j (by omega)
/-- nothing is in the house, nothing is open, nothing runs -/
def ZrC (w : MW) : Prop := (∀ j, j < 20 → w.1 16 j = 0) ∧ (∀ j, j < 44 → w.1 17 j = 0) ∧ (∀ j, j < 44 → w.1 18 j = 0) ∧ (∀ j, j < 44 → w.1 19 j = 0) ∧ (∀ j, j < 264 → w.1 23 j = -1) ∧ (∀ j, j < 96 → w.2.1 20 j = 0) ∧ (∀ j, j < 24 → w.1 21 j = 0) ∧ w.1 26 1 = 0 ∧ (∀ j, j < 24 → w.1 36 j = 0) ∧ (∀ j, j < 20 → w.1 37 j = 0) ∧ w.1 61 4 = 4
theorem ct_plant {w : MW} {ls : List Ln} {Q : Int32 → MW → Prop} (hI : BND w) (e7 : w.2.2 7 0 = some 8) (e8 : w.2.2 0 8 = some 91) (hP : PWc w ls) (hG : GL ls) (hQ : ∀ r w', BND w' → FR ltP w w' → r = w.1 91 0 → ZrC w' → WT w' (w'.1 0 12) (txt ls) → Q r w') : p_Bh_takePlant w Q := by
  have F0 : FR ltP w (sR w 7 0 (some 91)) := FR.R (FR.refl _ w) rfl
  have B0 : BND (sR w 7 0 (some 91)) := bnd_R hI
  have r0 : (sR w 7 0 (some 91)).2.2 7 0 = some 91 := sRs _ _ _ _
  refine Eq.mpr (p_Bh_takePlant.eq_1 _ _) ⟨e7, e8, Eq.mpr (p_St_renew_91.eq_1 _ _) ?_⟩
  generalize (sR w 7 0 (some 91)) = v0 at *
  refine fx_16 i_0 B0 (fun v1 B1 F1 z1 => fx_17 i_0 B1 (fun v2 B2 F2 z2 => fx_18 B2 (fun v3 B3 F3 z3 => fx_19 i_0 B3 (fun v4 B4 F4 z4 => fx_23 B4 (fun v5 B5 F5 z5 => fx_20 B5 (fun v6 B6 F6 z6 => fx_21 i_0 B6 (fun v7 B7 F7 z7 => ?_)))))))
  have F8 : FR ltP w v7 := ((((((F0.tr F1 rfl).tr F2 rfl).tr F3 rfl).tr F4 rfl).tr F5 rfl).tr F6 rfl).tr F7 rfl
  have r7 : v7.2.2 7 0 = some 91 := by rw [(F7 7 0 rfl).2.2, (F6 7 0 rfl).2.2, (F5 7 0 rfl).2.2, (F4 7 0 rfl).2.2, (F3 7 0 rfl).2.2, (F2 7 0 rfl).2.2, (F1 7 0 rfl).2.2]; exact r0
  have y1 : ∀ j, j < 20 → v7.1 16 j = 0 := fun j q => by rw [(F7 16 j rfl).1, (F6 16 j rfl).1, (F5 16 j rfl).1, (F4 16 j rfl).1, (F3 16 j rfl).1, (F2 16 j rfl).1]; exact z1 j q
  have y2 : ∀ j, j < 44 → v7.1 17 j = 0 := fun j q => by rw [(F7 17 j rfl).1, (F6 17 j rfl).1, (F5 17 j rfl).1, (F4 17 j rfl).1, (F3 17 j rfl).1]; exact z2 j q
  have y3 : ∀ j, j < 44 → v7.1 18 j = 0 := fun j q => by rw [(F7 18 j rfl).1, (F6 18 j rfl).1, (F5 18 j rfl).1, (F4 18 j rfl).1]; exact z3 j q
  have y4 : ∀ j, j < 44 → v7.1 19 j = 0 := fun j q => by rw [(F7 19 j rfl).1, (F6 19 j rfl).1, (F5 19 j rfl).1]; exact z4 j q
  have y5 : ∀ j, j < 264 → v7.1 23 j = -1 := fun j q => by rw [(F7 23 j rfl).1, (F6 23 j rfl).1]; exact z5 j q
  have y6 : ∀ j, j < 96 → v7.2.1 20 j = 0 := fun j q => by rw [(F7 20 j rfl).2.1]; exact z6 j q
  have F9 : FR ltP w (sI (sR v7 0 8 (some 8)) 26 1 0) := FR.I (FR.R F8 rfl) rfl
  have G9 : FR [(0, some 8), (26, some 1)] v7 (sI (sR v7 0 8 (some 8)) 26 1 0) := FR.I (FR.R (FR.refl _ v7) rfl) rfl
  have B9 : BND (sI (sR v7 0 8 (some 8)) 26 1 0) := wbd_26_1 (bnd_R B7) (by decide) (by decide)
  have c9 : (sI (sR v7 0 8 (some 8)) 26 1 0).1 26 1 = 0 := sI_same _ _ _ _
  have t9 : (sI (sR v7 0 8 (some 8)) 26 1 0).2.2 7 0 = some 91 := ((G9 7 0 rfl).2.2).trans r7
  refine Eq.mpr (p_Wa_forget.eq_1 _ _) ?_
  generalize (sI (sR v7 0 8 (some 8)) 26 1 0) = v9 at *
  refine fg_7 (i := 0) (fun va Ba Fa za => fx_37 Ba (fun vb Bb Fb zb => ?_)) FU v9 B9 (FR.refl _ v9) (by omega) (fun j q => absurd q (Nat.not_lt_zero j)) (fu_lt (by decide))
  have ta : vb.2.2 7 0 = some 91 := by rw [(Fb 7 0 rfl).2.2, (Fa 7 0 rfl).2.2]; exact t9
  have Fc : FR ltP w (sI vb 61 4 4) := FR.I ((F9.tr Fa rfl).tr Fb rfl) rfl
  have Gc : FR [(61, some 4)] vb (sI vb 61 4 4) := FR.I (FR.refl _ vb) rfl
  have Bc : BND (sI vb 61 4 4) := wbd_61_4 Bb (by decide) (by decide)
  have xc : (sI vb 61 4 4).1 61 4 = 4 := sI_same _ _ _ _
  refine ⟨ta, ?_⟩
  generalize (sI vb 61 4 4) = vc at *
  have Hc : FR [(0, some 8), (26, some 1), (36, none), (37, none), (61, some 4)] v7 vc := (((FR.tr (FR.refl _ v7) G9 rfl).tr Fa rfl).tr Fb rfl).tr Gc rfl
  refine wr_91 Bc (pwc_fr hP Fc rfl) hG (fun r vd Bd Fd Wd => ?_)
  have rl : 0 ≤ r.toInt ∧ r.toInt ≤ 640 := by
    have l1 := thg_len2 hG
    have l2 := pip_len hG (pip ls).length
    have l3 := hG.2.2.2
    rw [List.take_length] at l2
    have w1 := Wd.1
    unfold txt at w1
    rw [List.length_append] at w1
    omega
  have He : FR [(0, some 8), (0, some 12), (26, some 1), (36, none), (37, none), (61, some 4), (123, none)] v7 (sI vd 0 12 r) := FR.I ((FR.tr (FR.refl _ v7) Hc rfl).tr Fd rfl) rfl
  have Ge : FR [(123, none), (0, some 12)] vc (sI vd 0 12 r) := FR.I (FR.tr (FR.refl _ vc) Fd rfl) rfl
  have Fe : FR ltP w (sI vd 0 12 r) := FR.I (Fc.tr Fd rfl) rfl
  refine ⟨((Fd 7 0 rfl).2.2).trans (((Gc 7 0 rfl).2.2).trans ta), hQ _ _ (wbd_0_12 Bd rl.1 rl.2) Fe (((Fc.tr Fd rfl) 91 0 rfl).1) ⟨fun j q => ?_, fun j q => ?_, fun j q => ?_, fun j q => ?_, fun j q => ?_, fun j q => ?_, fun j q => ?_, ?_, fun j q => ?_, fun j q => ?_, ?_⟩ ?_⟩
  · rw [(He 16 j rfl).1]
    exact y1 j q
  · rw [(He 17 j rfl).1]
    exact y2 j q
  · rw [(He 18 j rfl).1]
    exact y3 j q
  · rw [(He 19 j rfl).1]
    exact y4 j q
  · rw [(He 23 j rfl).1]
    exact y5 j q
  · rw [(He 20 j rfl).2.1]
    exact y6 j q
  · rw [(He 21 j rfl).1]
    exact z7 j q
  · rw [(Ge 26 1 rfl).1, (Gc 26 1 rfl).1, (Fb 26 1 rfl).1, (Fa 26 1 rfl).1]
    exact c9
  · rw [(Ge 36 j rfl).1, (Gc 36 j rfl).1, (Fb 36 j rfl).1]
    exact za j q
  · rw [(Ge 37 j rfl).1, (Gc 37 j rfl).1]
    exact zb j q
  · rw [(Ge 61 4 rfl).1]
    exact xc
  · refine ⟨?_, fun j c q => ?_⟩
    · rw [sI_same]
      exact Wd.1
    · rw [sI_oth _ _ _ _ _ _ (by decide)]
      exact Wd.2 j c q
/-! the text's bytes are good -/
def txO (f : Int → Int) (n : Int) : Prop := ∀ p : Int, 0 ≤ p → p < n → 1 ≤ f p ∧ f p ≤ 127
theorem it_2 {w : MW} {E : MW → Prop} {Q : Int32 → MW → Prop} (hI : BND w) (hE : txO (cf w) (w.1 1 2).toInt → E w) (h0 : ¬ txO (cf w) (w.1 1 2).toInt → Q 0 w) (n : Nat) : ∀ (i : Nat), (i : Int) ≤ (w.1 1 2).toInt → (∀ p : Int, 0 ≤ p → p < (i : Int) → 1 ≤ cf w p ∧ cf w p ≤ 127) → 4000 - i < n → q_Tp_isText_2 E Q n (nI i) w := by
  induction n with
  | zero => intros; omega
  | succ n ih =>
    intro i hi hj hm
    have b := bd_1_2 hI
    have ti : (nI i).toInt = (i : Int) := nI_toInt (by omega)
    rw [q_Tp_isText_2.eq_2]
    refine ⟨fun c => hE (fun p p0 p1 => hj p p0 (by omega)), fun c => at_x hI ?_⟩
    have ec := cv_cf w (nI i)
    rw [ti] at ec
    refine ⟨fun d => h0 (fun q => ?_), fun d => ⟨fun d2 => ?_, fun d2 => h0 (fun q => ?_)⟩⟩
    · have := q i (by omega) (by omega)
      omega
    · rw [nI_1]
      refine ih (i + 1) (by omega) (fun p p0 p1 => ?_) (by omega)
      by_cases e : p = (i : Int)
      · rw [e]
        exact ⟨by omega, by omega⟩
      · exact hj p p0 (by omega)
    · have := q i (by omega) (by omega)
      omega
theorem it_x {w : MW} {Q : Int32 → MW → Prop} (hI : BND w) (h1 : txO (cf w) (w.1 1 2).toInt → Q 1 w) (h0 : ¬ txO (cf w) (w.1 1 2).toInt → Q 0 w) : p_Tp_isText w Q := by
  have b := bd_1_2 hI
  exact Eq.mpr (p_Tp_isText.eq_1 _ _) (it_2 hI h1 h0 FU 0 (by omega) (fun p p0 p1 => by omega) (fu_lt (by omega)))
theorem plr_ag {f g : Int → Int} (h : AgF f g) {n : Int} : ∀ (k : Nat) (p : Int) (ls : List Ln) (r : Int) (ls' : List Ln), PlR f n k p ls r ls' → PlR g n k p ls r ls' := by
  intro k
  induction k with
  | zero => intro p ls r ls' q; exact q
  | succ k ih =>
    intro p ls r ls' q
    have e := lnS_ag h p
    rcases q with q | ⟨c, d, e1, e2⟩ | ⟨c, d, o, q⟩
    · exact Or.inl q
    · rw [e] at d e1
      exact Or.inr (Or.inl ⟨c, d, e1, e2⟩)
    · rw [e] at d o q
      exact Or.inr (Or.inr ⟨c, d, o, ih _ _ _ _ q⟩)
/-! the class's end of a text, as far as its plant's text goes -/
/-- the text of n bytes on the class's tape -/
def CTx (w : MW) (n : Int) (p : Int) : Int := if 0 ≤ p ∧ p < n then (cby (w.1 2 (p.toNat / 4)) (p.toNat % 4)).toInt else -1
def fitE (n : Int) (a b : Int32) : Prop := 0 ≤ a.toInt ∧ a.toInt ≤ 2 ∧ 0 ≤ b.toInt ∧ b.toInt ≤ 4000 ∧ b.toInt ≤ n
def sameT (w w' : MW) : Prop := w'.1 0 12 = w.1 0 12 ∧ ∀ j, w'.1 123 j = w.1 123 j
theorem st_fr {l : Pl} {w w' : MW} (hF : FR l w w') (ho : off l [(0, some 12), (123, none)] = true) : sameT w w' := ⟨(hF 0 12 (off_hit ho rfl)).1, fun j => (hF 123 j (off_hit ho rfl)).1⟩
/-- what the class's end does -/
def EC (w : MW) (a b : Int32) (r : Int32) (w' : MW) : Prop := (¬ (fitE (w.1 1 1).toInt a b ∧ txO (CTx w b.toInt) b.toInt) ∧ r = -1 ∧ sameT w w') ∨ ((fitE (w.1 1 1).toInt a b ∧ txO (CTx w b.toInt) b.toInt) ∧ ¬ a.toInt = 0 ∧ sameT w w') ∨ ((fitE (w.1 1 1).toInt a b ∧ txO (CTx w b.toInt) b.toInt) ∧ a.toInt = 0 ∧ ∃ (r' : Int) (ls : List Ln), (∃ k, PlR (CTx w b.toInt) b.toInt k 0 [] r' ls) ∧ ((0 ≤ r' ∧ r.toInt = -3 - r' ∧ sameT w w') ∨ (r' = -1 ∧ r.toInt = ((thg ls).length : Int) ∧ WT w' (w'.1 0 12) (txt ls))))
theorem plr_r {f : Int → Int} {n : Int} : ∀ (k : Nat) (p : Int) (ls : List Ln) (r : Int) (ls' : List Ln), 0 ≤ p → PlR f n k p ls r ls' → r = -1 ∨ 0 ≤ r := by
  intro k
  induction k with
  | zero => intro p ls r ls' _ h; exact absurd h (fun y => y)
  | succ k ih =>
    intro p ls r ls' p0 h
    have le := lnS_le f p
    rcases h with ⟨_, e, _⟩ | ⟨_, _, e, _⟩ | ⟨_, _, _, q⟩
    · exact Or.inl e
    · exact Or.inr (by omega)
    · exact ih _ _ _ _ (by omega) q
theorem cx_end58 {w : MW} {y f s : Int32} {Q : Int32 → MW → Prop} (h : CI w) (hf : ¬ f.toInt = 0 → 0 ≤ y.toInt ∧ y.toInt ≤ 2) (s0 : 0 ≤ s.toInt) (s1 : s.toInt ≤ 4000) (hN : (f.toInt = 0 ∨ ¬ txO (CTx w s.toInt) s.toInt) → ∀ w', sameT w w' → Q (-1) w') (hO : ¬ f.toInt = 0 → txO (CTx w s.toInt) s.toInt → ¬ y.toInt = 0 → ∀ r w', sameT w w' → Q r w') (hP : ¬ f.toInt = 0 → txO (CTx w s.toInt) s.toInt → y.toInt = 0 → ∀ (r : Int32) (w' : MW) (r' : Int) (ls : List Ln), (∃ k, PlR (CTx w s.toInt) s.toInt k 0 [] r' ls) → ((0 ≤ r' ∧ r.toInt = -3 - r' ∧ sameT w w') ∨ (r' = -1 ∧ r.toInt = ((thg ls).length : Int) ∧ WT w' (w'.1 0 12) (txt ls))) → Q r w') : q_Bh_end_58 y f s w Q := by
  have F1 : FR [(1, some 2)] w (sI w 1 2 s) := FR.I (FR.refl _ w) rfl
  have h1 : CI (sI w 1 2 s) := ci_fr (l := [(1, some 2)]) h F1 (wbd_1_2 h.1 s0 s1) rfl
  have en : (sI w 1 2 s).1 1 2 = s := sI_same _ _ _ _
  have ec : cf (sI w 1 2 s) = CTx w s.toInt := by
    funext p
    unfold cf CTx
    rw [sI_same, sI_oth _ _ _ _ _ _ (by decide)]
  refine Eq.mpr (q_Bh_end_58.eq_1 _ _ _ _ _) ?_
  generalize (sI w 1 2 s) = w1 at *
  refine ⟨fun c => hN (Or.inl c) w1 (st_fr F1 rfl), fun c => it_x h1.1 (fun ok => ?_) (fun no => ⟨fun q => absurd i_0 q, fun _ => hN (Or.inr (by rw [ec, en] at no; exact no)) w1 (st_fr F1 rfl)⟩)⟩
  rw [ec, en] at ok
  have yy := hf c
  have x := h1.2.2.2.2
  refine ⟨fun _ => ⟨fun c0 => ⟨fun c1 => ⟨x.2.2.2.2, ci_readN h1 (fun r3 w3 h3 F3 hp => ?_)⟩, fun c1 => ⟨x.2.2.2.1, ci_readQ h1 (fun r3 w3 h3 F3 => ?_)⟩⟩, fun c0 => ⟨x.2.2.1, rc_read h1.1 (fun r3 w3 ls B3 F3 r4 k P3 => ?_)⟩⟩, fun q => absurd (show ¬ (1 : Int32).toInt = 0 by decide) q⟩
  · refine Eq.mpr (q_Bh_end_129.eq_1 _ _ _ _) ⟨fun d => ⟨fun _ => ⟨fun _ => ci_takeProgram h3 (hp d) (fun r w' h' hF => hO c ok c0 r w' (st_fr (FR.tr (FR.tr (l := (1, some 2) :: (lrr ++ ltN)) (FR.tr (FR.refl _ w) F1 rfl) F3 rfl) hF rfl) rfl)), fun q => absurd c1 q⟩, fun q => absurd c0 q⟩, fun _ => hO c ok c0 _ w3 (st_fr (FR.tr (l := (1, some 2) :: lrr) (FR.tr (FR.refl _ w) F1 rfl) F3 rfl) rfl)⟩
  · refine Eq.mpr (q_Bh_end_129.eq_1 _ _ _ _) ⟨fun d => ⟨fun _ => ⟨fun q => absurd q c1, fun _ => ci_takeRows h3 (fun r w' h' hF => hO c ok c0 r w' (st_fr (FR.tr (FR.tr (l := (1, some 2) :: (l_Ro_reads99_1 ++ ltQ)) (FR.tr (FR.refl _ w) F1 rfl) F3 rfl) hF rfl) rfl))⟩, fun q => absurd c0 q⟩, fun _ => hO c ok c0 _ w3 (st_fr (FR.tr (l := (1, some 2) :: l_Ro_reads99_1) (FR.tr (FR.refl _ w) F1 rfl) F3 rfl) rfl)⟩
  · rw [ec, en] at k
    have y0 := Classical.not_not.mp c0
    have k2 := k
    obtain ⟨kk, hk⟩ := k2
    have rr := plr_r kk 0 [] _ _ (by decide) hk
    have S3 : sameT w w3 := st_fr (FR.tr (l := (1, some 2) :: lrc9) (FR.tr (FR.refl _ w) F1 rfl) F3 rfl) rfl
    refine Eq.mpr (q_Bh_end_129.eq_1 _ _ _ _) ⟨fun d => ⟨fun q => absurd y0 q, fun _ => ct_plant B3 (((F3 7 0 rfl).2.2).trans h1.2.1.2.2.2.2.2.2.2.2.1) (((F3 0 8 rfl).2.2).trans x.2.2.1) (P3 d) (plr_gl kk 0 [] _ _ hk gl_nil) (fun r w' B' F' er Z W => hP c ok y0 r w' r3.toInt ls k (Or.inr ⟨by omega, by rw [er]; exact (P3 d).1, W⟩))⟩, fun d => ?_⟩
    have b3 := lnS_le (CTx w s.toInt) 0
    refine hP c ok y0 _ w3 r3.toInt ls k (Or.inl ⟨by omega, ?_, S3⟩)
    exact ti_sub2 (by decide : ((-3) : Int32).toInt = -3) (Eq.refl r3.toInt) (by omega) (by omega)
theorem cx_end {w : MW} {a b : Int32} {Q : Int32 → MW → Prop} (h : CI w) (hQ : ∀ r w', EC w a b r w' → Q r w') : p_Bh_end w a b Q := by
  have F0 : FR [(1, some 1)] w (sI w 1 1 0) := FR.I (FR.refl _ w) rfl
  have h1 : CI (sI w 1 1 0) := ci_fr (l := [(1, some 1)]) h F0 (wbd_1_1 h.1 (by decide) (by decide)) rfl
  have eT : ∀ n, CTx (sI w 1 1 0) n = CTx w n := fun n => rfl
  have s0 : ∀ w', sameT (sI w 1 1 0) w' → sameT w w' := fun w' q => ⟨q.1.trans (F0 0 12 rfl).1, fun j => (q.2 j).trans (F0 123 j rfl).1⟩
  have no : ¬ fitE (w.1 1 1).toInt a b → q_Bh_end_36 a b 0 w Q := fun nf => Eq.mpr (q_Bh_end_36.eq_1 _ _ _ _ _) ⟨fun _ => cx_end58 h1 (fun q => absurd i_0 q) (by decide) (by decide) (fun _ w' q => hQ _ w' (Or.inl ⟨fun z => nf z.1, rfl, s0 w' q⟩)) (fun q => absurd i_0 q) (fun q => absurd i_0 q), fun q => absurd i_0 q⟩
  refine Eq.mpr (p_Bh_end.eq_1 _ _ _ _) ⟨fun c => no (fun z => ?_), fun a0 => ⟨fun c => no (fun z => ?_), fun a2 => ⟨fun c => no (fun z => ?_), fun b0 => ⟨fun c => no (fun z => ?_), fun b4 => ⟨fun c => no (fun z => ?_), fun bn => ?_⟩⟩⟩⟩⟩
  · have := z.1
    omega
  · have := z.2.1
    omega
  · have := z.2.2.1
    omega
  · have := z.2.2.2.1
    omega
  · have := z.2.2.2.2
    omega
  · have ft : fitE (w.1 1 1).toInt a b := ⟨by omega, by omega, by omega, by omega, by omega⟩
    refine Eq.mpr (q_Bh_end_36.eq_1 _ _ _ _ _) ⟨fun q => absurd q (by decide), fun _ => cx_end58 h1 (fun _ => ⟨by omega, by omega⟩) (by omega) (by omega) (fun q w' st => ?_) (fun _ ok ya r w' st => ?_) (fun _ ok ya r w' r' ls k q => ?_)⟩
    · rw [eT] at q
      exact hQ _ w' (Or.inl ⟨fun z => (q.resolve_left (by decide)) z.2, rfl, s0 w' st⟩)
    · rw [eT] at ok
      exact hQ r w' (Or.inr (Or.inl ⟨⟨ft, ok⟩, ya, s0 w' st⟩))
    · rw [eT] at ok k
      refine hQ r w' (Or.inr (Or.inr ⟨⟨ft, ok⟩, ya, r', ls, k, ?_⟩))
      rcases q with q | q
      · exact Or.inl ⟨q.1, q.2.1, s0 w' q.2.2⟩
      · exact Or.inr q
/-! the reference's end of a text, as far as its plant goes -/
def lme2 : Pl := [(129, some 1), (130, none), (147, some 1), (148, none), (129, some 12), (129, some 30), (129, some 31), (129, some 32), (129, some 33), (129, some 2), (129, some 3), (129, some 4), (129, some 5), (129, some 6), (129, some 7), (129, some 8), (129, some 9), (129, some 10), (129, some 11), (129, some 13), (129, some 21), (129, some 23), (129, some 24), (129, some 35), (129, some 38), (145, none), (146, none), (131, none), (132, none), (133, none), (134, none), (135, none), (136, none), (137, none), (138, none), (139, none), (140, none), (141, none), (142, none), (143, none), (144, none), (147, some 4), (147, some 5), (147, some 6), (147, some 7), (147, some 11), (147, some 12), (147, some 13), (147, some 20), (149, none), (150, none), (151, none), (152, none), (153, none), (154, none), (155, none), (156, none), (157, none), (158, none), (159, none), (160, none), (161, none), (162, none), (127, some 26), (127, some 59), (167, none), (181, none), (182, none), (183, none), (184, none), (185, none), (186, none), (187, none), (201, none), (206, none)]
theorem meh_97 {a b : Int32} {E : MW → Prop} {Q : Int32 → MW → Prop} (hb : b.toInt ≤ 4000) {w0 : MW} (hE : ∀ w', MdJ w' → FR lme2 w0 w' → E w') (n : Nat) : ∀ (k : Int32) (w : MW), MdJ w → FR lme2 w0 w → 0 ≤ k.toInt → k.toInt ≤ 4000 → (4000 - k.toInt).toNat < n → q_Mo_end_97 a b E Q n k w := by
  induction n with
  | zero => intros; omega
  | succ n ih =>
    intro k w h hw k0 k1 hm
    rw [q_Mo_end_97.eq_2]
    refine ⟨fun _ => hE w h hw, fun c => ?_⟩
    have s1 := ti_add2 (Eq.refl k.toInt) i_1 (by omega) (by omega)
    have b128 := bd_128 h.1.1 k.toInt.toNat
    exact ⟨fun _ => ⟨⟨by omega, by omega⟩, h_Tx_unit h.1.1 b128.1 b128.2 (fun r w' h' f' _ _ => ih _ _ (MdJ_fr f' h' rfl h) (hw.tr f' rfl) (by omega) (by omega) (by omega))⟩, fun _ => ⟨⟨by omega, by omega⟩, h_Mr_unit h.1.1 b128.1 b128.2 (fun r w' h' f' _ _ => ih _ _ (MdJ_fr f' h' rfl h) (hw.tr f' rfl) (by omega) (by omega) (by omega))⟩⟩
theorem meh_193 {z : Int32} {E : MW → Prop} {Q : Int32 → MW → Prop} {w0 : MW} (hE : ∀ w', MdJ w' → FR lme2 w0 w' → E w') (n : Nat) : ∀ (k : Int32) (w : MW), MdJ w → FR lme2 w0 w → 0 ≤ k.toInt → k.toInt ≤ 40 → (40 - k.toInt).toNat < n → q_Mo_end_193 z E Q n k w := by
  induction n with
  | zero => intros; omega
  | succ n ih =>
    intro k w h hw k0 k1 hm
    rw [q_Mo_end_193.eq_2]
    refine ⟨fun _ => hE w h hw, fun c => ?_⟩
    have s1 := ti_add2 (Eq.refl k.toInt) i_1 (by omega) (by omega)
    exact ⟨⟨by omega, by omega⟩, ⟨by omega, by omega⟩, ih _ _ (MdJ_fr (l := [(201, none), (206, none)]) (FR.J (FR.I (FR.refl _ w) rfl) rfl) (bnd_J (wbd_201 h.1.1 _ (by decide) (by decide))) rfl h) (FR.J (FR.I hw rfl) rfl) (by omega) (by omega) (by omega)⟩
/-- the text of n bytes on the reference's tape -/
def MTx (w : MW) (n : Int) (p : Int) : Int := if 0 ≤ p ∧ p < n then (w.1 128 p.toNat).toInt else 0
def sameP (w w' : MW) : Prop := ∀ ls, PWs w ls → PWs w' ls
theorem sp_fr {l : Pl} {w w' : MW} (hF : FR l w w') (ho : off l [(127, some 4), (127, some 11), (163, none), (164, none), (169, none), (170, none), (171, none)] = true) : sameP w w' := fun _ h => pws_fr h hF ho
/-- what the reference's end does -/
def EM (w : MW) (a b : Int32) (r : Int32) (w' : MW) : Prop := (¬ (fitE (w.1 127 1).toInt a b ∧ txO (MTx w b.toInt) b.toInt) ∧ r = -1 ∧ sameP w w') ∨ ((fitE (w.1 127 1).toInt a b ∧ txO (MTx w b.toInt) b.toInt) ∧ ¬ a.toInt = 0 ∧ sameP w w') ∨ ((fitE (w.1 127 1).toInt a b ∧ txO (MTx w b.toInt) b.toInt) ∧ a.toInt = 0 ∧ ∃ (r' : Int) (ls : List Ln), (∃ k, PlR (MTx w b.toInt) b.toInt k 0 [] r' ls) ∧ ((0 ≤ r' ∧ r.toInt = -3 - r' ∧ sameP w w') ∨ (r' = -1 ∧ r.toInt = ((thg ls).length : Int) ∧ PTk w' ls)))
theorem z37 {a b : Int32} {w : MW} {E Q : Int32 → MW → Prop} (n : Nat) (k : Int32) (h : E 0 w) : q_Mo_end_37 a b E Q (n + 1) 0 k w := by
  rw [q_Mo_end_37.eq_2]
  exact ⟨fun _ => h, fun _ => ⟨fun _ => h, fun c => absurd i_0 c⟩⟩
theorem mx_37 {a b : Int32} {w : MW} {E Q : Int32 → MW → Prop} (hI : BND w) (b4 : b.toInt ≤ 4000) (h1 : txO (MTx w b.toInt) b.toInt → E 1 w) (h0 : ¬ txO (MTx w b.toInt) b.toInt → E 0 w) (n : Nat) : ∀ (k : Nat), (k : Int) ≤ b.toInt → (∀ p : Int, 0 ≤ p → p < (k : Int) → 1 ≤ MTx w b.toInt p ∧ MTx w b.toInt p ≤ 127) → 4001 - k < n → q_Mo_end_37 a b E Q n 1 (nI k) w := by
  induction n with
  | zero => intros; omega
  | succ n ih =>
    intro k hk hj hm
    have ti : (nI k).toInt = (k : Int) := nI_toInt (by omega)
    have tn : (nI k).toInt.toNat = k := by omega
    have b8 := bd_128 hI k
    rw [q_Mo_end_37.eq_2]
    refine ⟨fun c => h1 (fun p p0 p1 => hj p p0 (by omega)), fun c => ⟨fun q => absurd q (by decide), fun _ => ⟨⟨by omega, by omega⟩, fun d => ?_, fun d => ?_⟩⟩⟩
    · rw [tn] at d
      obtain ⟨m, em⟩ : ∃ m, n = m + 1 := ⟨n - 1, by omega⟩
      rw [em]
      refine z37 m _ (h0 (fun q => ?_))
      have g := q k (by omega) (by omega)
      unfold MTx at g
      rw [if_pos ⟨by omega, by omega⟩] at g
      have e : ((k : Int)).toNat = k := by omega
      rw [e] at g
      omega
    · rw [tn] at d
      rw [nI_1]
      refine ih (k + 1) (by omega) (fun p p0 p1 => ?_) (by omega)
      by_cases e : p = (k : Int)
      · rw [e]
        unfold MTx
        rw [if_pos ⟨by omega, by omega⟩]
        have e2 : ((k : Int)).toNat = k := by omega
        rw [e2]
        omega
      · exact hj p p0 (by omega)
theorem mx_end {w : MW} {a b : Int32} {Q : Int32 → MW → Prop} (h : MdJ w) (hQ : ∀ r w', EM w a b r w' → Q r w') : p_Mo_end w a b Q := by
  have F0 : FR [(127, some 1)] w (sI w 127 1 0) := FR.I (FR.refl _ w) rfl
  have h1 : MdJ (sI w 127 1 0) := MdJ_fr (l := [(127, some 1)]) F0 (wbd_127_1 h.1.1 (by decide) (by decide)) rfl h
  have S0 : sameP w (sI w 127 1 0) := sp_fr F0 rfl
  have e128 : ∀ j, (sI w 127 1 0).1 128 j = w.1 128 j := fun j => rfl
  have N : ¬ (fitE (w.1 127 1).toInt a b ∧ txO (MTx w b.toInt) b.toInt) → Q (-1) (sI w 127 1 0) := fun k => hQ _ _ (Or.inl ⟨k, rfl, S0⟩)
  have K0 : ¬ fitE (w.1 127 1).toInt a b → q_Mo_end_33 a b 0 w Q := fun k => Eq.mpr (q_Mo_end_33.eq_1 _ _ _ _ _) (z37 99999999999999999999 _ ⟨fun c => absurd i_0 c, fun _ => N (fun z => k z.1)⟩)
  have K1 : fitE (w.1 127 1).toInt a b → q_Mo_end_33 a b 1 w Q := fun ft => by
    have g0 := ft.1
    have g2 := ft.2.1
    have gb := ft.2.2.1
    have gb4 := ft.2.2.2.1
    refine Eq.mpr (q_Mo_end_33.eq_1 _ _ _ _ _) (mx_37 h.1.1 ft.2.2.2.1 (fun ok => ⟨fun _ => ⟨fun ca => ?_, fun ca => ?_⟩, fun c => absurd (show ¬ (1 : Int32).toInt = 0 by decide) c⟩) (fun no => ⟨fun c => absurd i_0 c, fun _ => N (fun z => no z.2)⟩) FU 0 (by omega) (fun p p0 p1 => by omega) (fu_lt (by decide)))
    · have O : ∀ (r : Int32) (w' : MW), FR lme2 (sI w 127 1 0) w' → Q r w' := fun r w' f => hQ r w' (Or.inr (Or.inl ⟨⟨ft, ok⟩, ca, fun ls p => pws_fr (S0 ls p) f rfl⟩))
      clear N K0 S0 F0 e128
      generalize (sI w 127 1 0) = w1 at *
      refine meh_97 (w0 := w1) gb4 (fun w15 h15 f15 => ?_) FU 0 w1 h1 (FR.refl _ w1) (by decide) (by decide) (fu_lt (by decide))
      have P15 := h15.1.2.2.2.1
      refine ⟨fun c1 => t_read h15.1.1 h15.2.2 h15.2.1 (fun r w' hB hF hV hL hs => ?_), fun c1 => h_Mr_read h15.1.1 P15.1 (fun r w' hB hF hD _ _ => ?_)⟩
      · have X := tl_tex hB hL
        have P' : PF w' := PF_fr hF rfl P15
        have N : r.toInt < 0 → MdJ w' := fun c => ⟨⟨hB, X.1, X.2, P', fun q => by
          rw [(hF 127 59 rfl).1] at q
          exact qp_sh h15.1.1 hF rfl (hs c).1 (hs c).2.1 (hs c).2.2 (h15.1.2.2.2.2 q)⟩, hL, hV⟩
        have OO : ∀ w26 : MW, MdJ w26 → FR lme2 w1 w26 → ((0 ≤ r.toInt → (Q r w26)) ∧ (¬ (0 ≤ r.toInt) → (Q (r - (2 : Int32)) w26))) := fun w26 h26 f26 => ⟨fun _ => O _ _ f26, fun _ => O _ _ f26⟩
        refine Eq.mpr (q_Mo_end_169.eq_1 _ _ _ _) ⟨fun c2 => by omega, fun _ => ⟨fun c => OO w' (N c) (f15.tr hF rfl), fun _ => ?_⟩⟩
        have B4 : BND (sI w' 127 59 4) := wbd_127_59 hB (by decide) (by decide)
        have F4 : FR [(127, some 59)] w' (sI w' 127 59 4) := FR.I (FR.refl _ w') rfl
        have G4 : FR lme2 w1 (sI w' 127 59 4) := FR.I (f15.tr hF rfl) rfl
        have e4 : (sI w' 127 59 4).1 127 59 = 4 := rfl
        have L4 : TLx (sI w' 127 59 4) := tlx_fr hB F4 rfl hL
        have V4 : VG (sI w' 127 59 4) := hV
        have P4 : PF (sI w' 127 59 4) := PF_fr F4 rfl P'
        generalize (sI w' 127 59 4) = w4 at *
        refine h_Mo_closeAll B4 P4.2.1 P4.2.2.1 (fun w22 B22 F22 T22 H22 => meh_193 (w0 := w1) (fun w26 h26 f26 => OO w26 h26 f26) FU 0 w22 ?_ (G4.tr F22 rfl) (by decide) (by decide) (fu_lt (by decide)))
        have L22 := tlx_fr B4 F22 rfl L4
        have X22 := tl_tex B22 L22
        refine ⟨⟨B22, X22.1, X22.2, ⟨DR_fr F22 rfl P4.1, T22, H22, MC_fr F22 rfl P4.2.2.2.1, MZ_fr F22 rfl P4.2.2.2.2.1, RP_fr F22 rfl P4.2.2.2.2.2.1, SZ_fr F22 rfl P4.2.2.2.2.2.2⟩, fun q => ?_⟩, L22, by unfold VG; rw [(F22 129 8 rfl).2.1]; exact V4⟩
        rw [(F22 127 59 rfl).1, e4] at q
        exact absurd q (by decide)
      · have hL := tlx_fr h15.1.1 hF rfl h15.2.1
        have X := tl_tex hB hL
        have h' : MdJ w' := ⟨⟨hB, X.1, X.2, ⟨hD, FT_fr hF rfl P15.2.1, HW_fr hF rfl P15.2.2.1, MC_fr hF rfl P15.2.2.2.1, MZ_fr hF rfl P15.2.2.2.2.1, RP_fr hF rfl P15.2.2.2.2.2.1, SZ_fr hF rfl P15.2.2.2.2.2.2⟩, fun q => by
          rw [(hF 127 59 rfl).1] at q
          exact ⟨QP_fr hF rfl (h15.1.2.2.2.2 q).1, QS_fr hF rfl (hF 210 0 rfl).1 (h15.1.2.2.2.2 q).2⟩⟩, hL, by unfold VG; rw [(hF 129 8 rfl).2.1]; exact h15.2.2⟩
        exact Eq.mpr (q_Mo_end_169.eq_1 _ _ _ _) ⟨fun _ => ⟨fun _ => O _ _ (f15.tr hF rfl), fun _ => O _ _ (f15.tr hF rfl)⟩, fun c2 => by omega⟩
    · have h2 : MdJ (sI (sI w 127 1 0) 127 22 b) := MdJ_fr (l := [(127, some 22)]) (FR.I (FR.refl _ _) rfl) (wbd_127_22 h1.1.1 gb gb4) rfl h1
      have F2 : FR [(127, some 1), (127, some 22)] w (sI (sI w 127 1 0) 127 22 b) := FR.I (FR.I (FR.refl _ w) rfl) rfl
      have en : (sI (sI w 127 1 0) 127 22 b).1 127 22 = b := sI_same _ _ _ _
      have eh : hf (sI (sI w 127 1 0) 127 22 b) = MTx w b.toInt := by
        funext p
        unfold hf MTx
        rw [sI_same, sI_oth _ _ _ _ _ _ (by decide), e128]
      have a0 := Classical.not_not.mp ca
      generalize (sI (sI w 127 1 0) 127 22 b) = w2 at *
      refine rm_read h2.1.1 (fun r w' r' ls B' F' k q => hQ r w' (Or.inr (Or.inr ⟨⟨ft, ok⟩, a0, r', ls, ?_, ?_⟩)))
      · rw [eh, en] at k
        exact k
      · rcases q with ⟨q1, q2, q3⟩ | q
        · exact Or.inl ⟨q1, q2, fun l p => pws_fr (sp_fr F2 rfl l p) q3 rfl⟩
        · exact Or.inr q
  exact Eq.mpr (p_Mo_end.eq_1 _ _ _ _) ⟨fun c => K0 (fun z => by have := z.1; omega), fun a0 => ⟨fun c => K0 (fun z => by have := z.2.1; omega), fun a2 => ⟨fun c => K0 (fun z => by have := z.2.2.1; omega), fun b0 => ⟨fun c => K0 (fun z => by have := z.2.2.2.1; omega), fun b4 => ⟨fun c => K0 (fun z => by have := z.2.2.2.2; omega), fun bn => K1 ⟨by omega, by omega, by omega, by omega, by omega⟩⟩⟩⟩⟩⟩
/-! the words of a text of interlocks -/
def blk (c : Int) : Bool := c == 32 || c == 10
def mrk (c : Int) : Bool := c == 40 || (c == 41 || c == 59)
theorem blk_t {c : Int} (h : c = 32 ∨ c = 10) : blk c = true := by
  rcases h with h | h
  · rw [h]
    decide
  · rw [h]
    decide
theorem blk_f {c : Int} (h1 : ¬ c = 32) (h2 : ¬ c = 10) : blk c = false := by
  unfold blk
  rw [beq_false_of_ne h1, beq_false_of_ne h2]
  rfl
theorem mrk_t {c : Int} (h : c = 40 ∨ c = 41 ∨ c = 59) : mrk c = true := by
  rcases h with h | h | h
  · rw [h]
    decide
  · rw [h]
    decide
  · rw [h]
    decide
theorem mrk_f {c : Int} (h1 : ¬ c = 40) (h2 : ¬ c = 41) (h3 : ¬ c = 59) : mrk c = false := by
  unfold mrk
  rw [beq_false_of_ne h1, beq_false_of_ne h2, beq_false_of_ne h3]
  rfl
def skp (f : Int → Int) (n : Int) : Nat → Int → Int
  | 0, p => p
  | k + 1, p => if p < n ∧ blk (f p) = true then skp f n k (p + 1) else p
def rnw (f : Int → Int) (n : Int) : Nat → Int → Int
  | 0, p => p
  | k + 1, p => if p < n ∧ (blk (f p) = false ∧ mrk (f p) = false) then rnw f n k (p + 1) else p
theorem skp_u (f : Int → Int) (n : Int) (k : Nat) (p : Int) : skp f n (k + 1) p = if p < n ∧ blk (f p) = true then skp f n k (p + 1) else p := rfl
theorem rnw_u (f : Int → Int) (n : Int) (k : Nat) (p : Int) : rnw f n (k + 1) p = if p < n ∧ (blk (f p) = false ∧ mrk (f p) = false) then rnw f n k (p + 1) else p := rfl
theorem skp_n {f : Int → Int} {n : Int} {p : Int} (k : Nat) (h : ¬ (p < n ∧ blk (f p) = true)) : skp f n k p = p := by
  cases k with
  | zero => rfl
  | succ k => rw [skp_u, if_neg h]
theorem rnw_n {f : Int → Int} {n : Int} {p : Int} (k : Nat) (h : ¬ (p < n ∧ (blk (f p) = false ∧ mrk (f p) = false))) : rnw f n k p = p := by
  cases k with
  | zero => rfl
  | succ k => rw [rnw_u, if_neg h]
theorem skp_k (f : Int → Int) (n : Int) : ∀ (k m : Nat) (p : Int), (n - p).toNat ≤ k → (n - p).toNat ≤ m → skp f n k p = skp f n m p := by
  intro k
  induction k with
  | zero =>
    intro m p h1 h2
    rw [skp_n m (fun z => by have := z.1; omega)]
    rfl
  | succ k ih =>
    intro m p h1 h2
    cases m with
    | zero => rw [skp_n (k + 1) (fun z => by have := z.1; omega)]; rfl
    | succ m =>
      rw [skp_u, skp_u]
      by_cases c : p < n ∧ blk (f p) = true
      · rw [if_pos c, if_pos c]
        exact ih m (p + 1) (by omega) (by omega)
      · rw [if_neg c, if_neg c]
theorem rnw_k (f : Int → Int) (n : Int) : ∀ (k m : Nat) (p : Int), (n - p).toNat ≤ k → (n - p).toNat ≤ m → rnw f n k p = rnw f n m p := by
  intro k
  induction k with
  | zero =>
    intro m p h1 h2
    rw [rnw_n m (fun z => by have := z.1; omega)]
    rfl
  | succ k ih =>
    intro m p h1 h2
    cases m with
    | zero => rw [rnw_n (k + 1) (fun z => by have := z.1; omega)]; rfl
    | succ m =>
      rw [rnw_u, rnw_u]
      by_cases c : p < n ∧ (blk (f p) = false ∧ mrk (f p) = false)
      · rw [if_pos c, if_pos c]
        exact ih m (p + 1) (by omega) (by omega)
      · rw [if_neg c, if_neg c]
theorem skp_1 {f : Int → Int} {n p : Int} (hn : n - p ≤ 4000) (h : p < n ∧ blk (f p) = true) : skp f n 4001 p = skp f n 4001 (p + 1) := by
  rw [skp_u f n 4000 p, if_pos h]
  exact skp_k f n 4000 4001 (p + 1) (by omega) (by omega)
theorem rnw_1 {f : Int → Int} {n p : Int} (hn : n - p ≤ 4000) (h : p < n ∧ (blk (f p) = false ∧ mrk (f p) = false)) : rnw f n 4001 p = rnw f n 4001 (p + 1) := by
  rw [rnw_u f n 4000 p, if_pos h]
  exact rnw_k f n 4000 4001 (p + 1) (by omega) (by omega)
theorem skp_b (f : Int → Int) (n : Int) : ∀ (k : Nat) (p : Int), p ≤ skp f n k p ∧ (p ≤ n → skp f n k p ≤ n) := by
  intro k
  induction k with
  | zero => intro p; exact ⟨Int.le_refl _, fun h => h⟩
  | succ k ih =>
    intro p
    rw [skp_u]
    by_cases c : p < n ∧ blk (f p) = true
    · rw [if_pos c]
      have := ih (p + 1)
      have c1 := c.1
      exact ⟨by omega, fun _ => this.2 (by omega)⟩
    · rw [if_neg c]
      exact ⟨Int.le_refl _, fun h => h⟩
theorem rnw_b (f : Int → Int) (n : Int) : ∀ (k : Nat) (p : Int), p ≤ rnw f n k p ∧ (p ≤ n → rnw f n k p ≤ n) := by
  intro k
  induction k with
  | zero => intro p; exact ⟨Int.le_refl _, fun h => h⟩
  | succ k ih =>
    intro p
    rw [rnw_u]
    by_cases c : p < n ∧ (blk (f p) = false ∧ mrk (f p) = false)
    · rw [if_pos c]
      have := ih (p + 1)
      have c1 := c.1
      exact ⟨by omega, fun _ => this.2 (by omega)⟩
    · rw [if_neg c]
      exact ⟨Int.le_refl _, fun h => h⟩
/-- where a word that begins at p ends -/
def wen (f : Int → Int) (n : Int) (p : Int) : Int := if rnw f n 4001 p = p ∧ p < n then p + 1 else rnw f n 4001 p
/-- where word i begins, and ends -/
def wat (f : Int → Int) (n : Int) : Nat → Int
  | 0 => skp f n 4001 0
  | i + 1 => skp f n 4001 (wen f n (wat f n i))
def wnd (f : Int → Int) (n : Int) (i : Nat) : Int := wen f n (wat f n i)
theorem wen_b {f : Int → Int} {n p : Int} (h : p ≤ n) : p ≤ wen f n p ∧ wen f n p ≤ n ∧ (p < n → p < wen f n p) := by
  have b := rnw_b f n 4001 p
  have b2 := b.2 h
  unfold wen
  by_cases c : rnw f n 4001 p = p ∧ p < n
  · rw [if_pos c]
    omega
  · rw [if_neg c]
    refine ⟨b.1, b2, fun q => ?_⟩
    by_cases e : rnw f n 4001 p = p
    · exact absurd ⟨e, q⟩ c
    · omega
theorem wat_b {f : Int → Int} {n : Int} (h0 : 0 ≤ n) : ∀ i, 0 ≤ wat f n i ∧ wat f n i ≤ n := by
  intro i
  induction i with
  | zero =>
    have := skp_b f n 4001 0
    exact ⟨this.1, this.2 h0⟩
  | succ i ih =>
    have a := wen_b (f := f) ih.2
    have b := skp_b f n 4001 (wen f n (wat f n i))
    have e : wat f n (i + 1) = skp f n 4001 (wen f n (wat f n i)) := rfl
    rw [e]
    exact ⟨by omega, b.2 a.2.1⟩
theorem wat_s {f : Int → Int} {n : Int} (h0 : 0 ≤ n) (i : Nat) : wat f n i ≤ wnd f n i ∧ wnd f n i ≤ wat f n (i + 1) ∧ wnd f n i ≤ n ∧ (wat f n i < n → wat f n i < wnd f n i) := by
  have w := wat_b (f := f) h0 i
  have a := wen_b (f := f) w.2
  have b := skp_b f n 4001 (wen f n (wat f n i))
  exact ⟨a.1, b.1, a.2.1, a.2.2⟩
theorem wat_i {f : Int → Int} {n : Int} (h0 : 0 ≤ n) : ∀ i : Nat, wat f n i < n → (i : Int) ≤ wat f n i := by
  intro i
  induction i with
  | zero => intro _; exact (wat_b (f := f) h0 0).1
  | succ i ih =>
    intro h
    have s := wat_s (f := f) h0 i
    have := ih (by omega)
    have := s.2.2.2 (by omega)
    omega
/-! the class's next word -/
theorem ib_x {w : MW} {c : Int32} {Q : Int32 → MW → Prop} (h1 : blk c.toInt = true → Q 1 w) (h0 : blk c.toInt = false → Q 0 w) : p_Tp_isBlank w c Q :=
  Eq.mpr (p_Tp_isBlank.eq_1 _ _ _) ⟨fun d => h1 (blk_t (Or.inl d)), fun d => ⟨fun d2 => h0 (blk_f d d2), fun d2 => h1 (blk_t (Or.inr (Classical.not_not.mp d2)))⟩⟩
theorem im_x {w : MW} {c : Int32} {Q : Int32 → MW → Prop} (h1 : mrk c.toInt = true → Q 1 w) (h0 : mrk c.toInt = false → Q 0 w) : p_Ro_isMark w c Q :=
  Eq.mpr (p_Ro_isMark.eq_1 _ _ _) ⟨fun d => h1 (mrk_t (Or.inl d)), fun d => ⟨fun d2 => h1 (mrk_t (Or.inr (Or.inl d2))), fun d2 => ⟨fun d3 => h0 (mrk_f d d2 d3), fun d3 => h1 (mrk_t (Or.inr (Or.inr (Classical.not_not.mp d3))))⟩⟩⟩
theorem nw_8 {w0 : MW} {T : Int} {E Q : MW → Prop} (hr : w0.2.2 99 11 = some 1) (hE : ∀ w', BND w' → FR [(99, some 12)] w0 w' → (w'.1 99 12).toInt = T → E w') (m : Nat) : ∀ w : MW, BND w → FR [(99, some 12)] w0 w → skp (cf w0) (w0.1 1 2).toInt 4001 (w.1 99 12).toInt = T → (4001 - (w.1 99 12).toInt).toNat < m → q_Ro_nextWords99_8 E Q m w := by
  induction m with
  | zero => intros; omega
  | succ m ih =>
    intro w hB hF hT hm
    have b12 := bd_99_12 hB
    have en : w.1 1 2 = w0.1 1 2 := (hF 1 2 rfl).1
    have ec : cf w = cf w0 := cf_fr hF rfl
    have b2 := bd_1_2 hB
    have rr : w.2.2 99 11 = some 1 := ((hF 99 11 rfl).2.2).trans hr
    rw [q_Ro_nextWords99_8.eq_2]
    rw [en] at b2 ⊢
    refine ⟨rr, fun c => hE w hB hF ?_, fun c => ⟨rr, at_x hB ?_⟩⟩
    · rw [skp_n 4001 (fun z => by have := z.1; omega)] at hT
      exact hT
    · have v := cv_cf w (w.1 99 12)
      rw [ec] at v
      refine ib_x (fun d => ⟨fun z => absurd z (by decide), fun _ => ?_⟩) (fun d => ⟨fun _ => hE w hB hF ?_, fun z => absurd i_0 z⟩)
      · rw [v] at d
        have s := ti_add2 (Eq.refl (w.1 99 12).toInt) i_1 (by omega) (by omega)
        refine ih _ (wbd_99_12 hB (by omega) (by omega)) (FR.I hF rfl) ?_ ?_
        · rw [sI_same, s, ← skp_1 (by omega) ⟨by omega, d⟩]
          exact hT
        · rw [sI_same, s]
          omega
      · rw [v] at d
        rw [skp_n 4001 (fun z => by rw [d] at z; exact absurd z.2 (by decide))] at hT
        exact hT
theorem nw_60 {w0 : MW} {T : Int} {E Q : MW → Prop} (hr : w0.2.2 99 11 = some 1) (hE : ∀ w', BND w' → FR [(99, some 13)] w0 w' → (w'.1 99 13).toInt = T → E w') (m : Nat) : ∀ w : MW, BND w → FR [(99, some 13)] w0 w → rnw (cf w0) (w0.1 1 2).toInt 4001 (w.1 99 13).toInt = T → (4001 - (w.1 99 13).toInt).toNat < m → q_Ro_nextWords99_60 E Q m w := by
  induction m with
  | zero => intros; omega
  | succ m ih =>
    intro w hB hF hT hm
    have b13 := bd_99_13 hB
    have en : w.1 1 2 = w0.1 1 2 := (hF 1 2 rfl).1
    have ec : cf w = cf w0 := cf_fr hF rfl
    have b2 := bd_1_2 hB
    have rr : w.2.2 99 11 = some 1 := ((hF 99 11 rfl).2.2).trans hr
    rw [q_Ro_nextWords99_60.eq_2]
    rw [en] at b2 ⊢
    refine ⟨rr, fun c => hE w hB hF ?_, fun c => ⟨rr, at_x hB ?_⟩⟩
    · rw [rnw_n 4001 (fun z => by have := z.1; omega)] at hT
      exact hT
    · have v := cv_cf w (w.1 99 13)
      rw [ec] at v
      refine ib_x (fun d => ⟨fun _ => hE w hB hF ?_, fun z => absurd (show ¬ (1 : Int32).toInt = 0 by decide) z⟩) (fun d => ⟨fun z => absurd i_0 z, fun _ => ⟨rr, at_x hB (im_x (fun d2 => ⟨fun _ => hE w hB hF ?_, fun z => absurd (show ¬ (1 : Int32).toInt = 0 by decide) z⟩) (fun d2 => ⟨fun z => absurd i_0 z, fun _ => ?_⟩))⟩⟩)
      · rw [v] at d
        rw [rnw_n 4001 (fun z => by rw [d] at z; exact absurd z.2.1 (by decide))] at hT
        exact hT
      · rw [v] at d2
        rw [rnw_n 4001 (fun z => by rw [d2] at z; exact absurd z.2.2 (by decide))] at hT
        exact hT
      · rw [v] at d d2
        have s := ti_add2 (Eq.refl (w.1 99 13).toInt) i_1 (by omega) (by omega)
        refine ih _ (wbd_99_13 hB (by omega) (by omega)) (FR.I hF rfl) ?_ ?_
        · rw [sI_same, s, ← rnw_1 (by omega) ⟨by omega, d, d2⟩]
          exact hT
        · rw [sI_same, s]
          omega
def lnw : Pl := [(99, some 12), (99, some 13), (99, some 14)]
theorem nw_x {w : MW} {e : Int} {Q : MW → Prop} (hI : BND w) (hr : w.2.2 99 11 = some 1) (he : (w.1 99 13).toInt = e) (e0 : e ≤ (w.1 1 2).toInt) (hQ : ∀ w', BND w' → FR lnw w w' → (w'.1 99 12).toInt = skp (cf w) (w.1 1 2).toInt 4001 e → (w'.1 99 13).toInt = wen (cf w) (w.1 1 2).toInt (skp (cf w) (w.1 1 2).toInt 4001 e) → w'.1 99 14 = w.1 99 14 + (1 : Int32) → Q w') : p_Ro_nextWords99 w Q := by
  have b13 := bd_99_13 hI
  have b2 := bd_1_2 hI
  have B1 : BND (sI w 99 12 (w.1 99 13)) := wbd_99_12 hI b13.1 b13.2
  have F1 : FR [(99, some 12)] w (sI w 99 12 (w.1 99 13)) := FR.I (FR.refl _ w) rfl
  have v1 : (sI w 99 12 (w.1 99 13)).1 99 12 = w.1 99 13 := sI_same _ _ _ _
  refine Eq.mpr (p_Ro_nextWords99.eq_1 _ _) ?_
  refine nw_8 (w0 := w) hr (fun w7 B7 F7 e7 => ?_) FU _ B1 F1 rfl (fu_lt (by rw [v1]; omega))
  rw [v1, he] at e7
  have kb := skp_b (cf w) (w.1 1 2).toInt 4001 e
  have k2 := kb.2 e0
  have B8 : BND (sI w7 99 13 (w7.1 99 12)) := wbd_99_13 B7 (bd_99_12 B7).1 (bd_99_12 B7).2
  have F8 : FR [(99, some 12), (99, some 13)] w (sI w7 99 13 (w7.1 99 12)) := FR.I (FR.tr (FR.refl _ w) F7 rfl) rfl
  have v8 : (sI w7 99 13 (w7.1 99 12)).1 99 13 = w7.1 99 12 := sI_same _ _ _ _
  have u8 : (sI w7 99 13 (w7.1 99 12)).1 99 12 = w7.1 99 12 := sI_ne _ _ _ _ _ (by decide)
  generalize (sI w7 99 13 (w7.1 99 12)) = w8 at *
  have r8 : w8.2.2 99 11 = some 1 := ((F8 99 11 rfl).2.2).trans hr
  have en : w8.1 1 2 = w.1 1 2 := (F8 1 2 rfl).1
  have ec : cf w8 = cf w := cf_fr F8 rfl
  refine nw_60 (w0 := w8) r8 (fun w9 B9 F9 e9 => ?_) FU w8 B8 (FR.refl _ w8) rfl (fu_lt (by rw [v8]; have := bd_99_12 B7; omega))
  rw [v8, e7, en, ec] at e9
  have a9 : (w9.1 99 12).toInt = skp (cf w) (w.1 1 2).toInt 4001 e := by rw [(F9 99 12 rfl).1, u8]; exact e7
  have F10 : FR lnw w w9 := FR.tr (FR.tr (FR.refl _ w) F8 rfl) F9 rfl
  have n9 : w9.1 1 2 = w.1 1 2 := ((F9 1 2 rfl).1).trans en
  have c14 : w9.1 99 14 = w.1 99 14 := ((F9 99 14 rfl).1).trans (F8 99 14 rfl).1
  have r9 : w9.2.2 99 11 = some 1 := ((F9 99 11 rfl).2.2).trans r8
  have b9 := bd_99_13 B9
  have rb := rnw_b (cf w) (w.1 1 2).toInt 4001 (skp (cf w) (w.1 1 2).toInt 4001 e)
  have wv : wen (cf w) (w.1 1 2).toInt (skp (cf w) (w.1 1 2).toInt 4001 e) = if rnw (cf w) (w.1 1 2).toInt 4001 (skp (cf w) (w.1 1 2).toInt 4001 e) = skp (cf w) (w.1 1 2).toInt 4001 e ∧ skp (cf w) (w.1 1 2).toInt 4001 e < (w.1 1 2).toInt then skp (cf w) (w.1 1 2).toInt 4001 e + 1 else rnw (cf w) (w.1 1 2).toInt 4001 (skp (cf w) (w.1 1 2).toInt 4001 e) := rfl
  have end1 : ¬ (rnw (cf w) (w.1 1 2).toInt 4001 (skp (cf w) (w.1 1 2).toInt 4001 e) = skp (cf w) (w.1 1 2).toInt 4001 e ∧ skp (cf w) (w.1 1 2).toInt 4001 e < (w.1 1 2).toInt) → Q (sI w9 99 14 ((w9.1 99 14) + (1 : Int32))) := fun q => by
    refine hQ _ (wbd_99_14 B9) (FR.I F10 rfl) ?_ ?_ ?_
    · rw [sI_ne _ _ _ _ _ (by decide)]
      exact a9
    · rw [sI_ne _ _ _ _ _ (by decide), wv, if_neg q]
      exact e9
    · rw [sI_same, c14]
  refine ⟨fun q => end1 (fun z => q ?_), fun q => ⟨r9, fun q2 => end1 (fun z => ?_), fun q2 => ?_⟩⟩
  · rw [e9, a9]
    exact z.1
  · have := z.2
    rw [n9] at q2
    omega
  · have q := Classical.not_not.mp q
    rw [n9] at q2
    have s := ti_add2 (Eq.refl (w9.1 99 13).toInt) i_1 (by omega) (by omega)
    refine hQ _ (wbd_99_14 (wbd_99_13 B9 (by omega) (by omega))) (FR.I (FR.I F10 rfl) rfl) ?_ ?_ ?_
    · rw [sI_ne _ _ _ _ _ (by decide), sI_ne _ _ _ _ _ (by decide)]
      exact a9
    · rw [sI_ne _ _ _ _ _ (by decide), sI_same, s, wv, if_pos ⟨by omega, by omega⟩]
      omega
    · rw [sI_same, c14]
