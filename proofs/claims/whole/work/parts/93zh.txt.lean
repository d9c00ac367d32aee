/-! the text of a plant, and how the class writes it -/
def pwu : Nat → Int
  | 0 => 0
  | 1 => 1
  | 2 => 10
  | 3 => 100
  | 4 => 1000
  | 5 => 10000
  | _ => 100000
def dgt : Nat → Int → List Int
  | 0, _ => []
  | k + 1, n => (48 + n / pwu (k + 1) % 10) :: dgt k n
def npw (n : Int) : Nat := if n < 10 then 0 else if n < 100 then 1 else if n < 1000 then 2 else if n < 10000 then 3 else if n < 100000 then 4 else 5
/-- a number's digits -/
def num (n : Int) : List Int := dgt (npw n + 1) n
def endT (n : Int) : List Int := if n = -1 then [45] else num n
/-- a line's bytes -/
def lnT (x : Ln) : List Int := if x.1 = 0 then [116, 97, 110, 107, 32] ++ num x.2.1 ++ [10] else if x.1 = 1 then [112, 117, 109, 112] ++ [10] else if x.1 = 2 then [118, 97, 108, 118, 101, 32] ++ num x.2.1 ++ [10] else [112, 105, 112, 101, 32] ++ endT x.2.1 ++ [32] ++ endT x.2.2.1 ++ [32] ++ num x.2.2.2 ++ [10]
def txl (l : List Ln) : List Int := (l.map lnT).flatten
def txt (ls : List Ln) : List Int := txl (thg ls) ++ txl (pip ls)
theorem txl_s (l : List Ln) (x : Ln) : txl (l ++ [x]) = txl l ++ lnT x := by
  unfold txl
  rw [List.map_append, List.flatten_append, List.map_cons, List.map_nil, List.flatten_cons, List.flatten_nil, List.append_nil]
theorem npw_v (n : Int) : (n < 10 ∧ npw n = 0) ∨ (10 ≤ n ∧ n < 100 ∧ npw n = 1) ∨ (100 ≤ n ∧ n < 1000 ∧ npw n = 2) ∨ (1000 ≤ n ∧ n < 10000 ∧ npw n = 3) ∨ (10000 ≤ n ∧ n < 100000 ∧ npw n = 4) ∨ (100000 ≤ n ∧ npw n = 5) := by
  unfold npw
  by_cases c1 : n < 10
  · exact Or.inl ⟨c1, if_pos c1⟩
  rw [if_neg c1]
  by_cases c2 : n < 100
  · exact Or.inr (Or.inl ⟨by omega, c2, if_pos c2⟩)
  rw [if_neg c2]
  by_cases c3 : n < 1000
  · exact Or.inr (Or.inr (Or.inl ⟨by omega, c3, if_pos c3⟩))
  rw [if_neg c3]
  by_cases c4 : n < 10000
  · exact Or.inr (Or.inr (Or.inr (Or.inl ⟨by omega, c4, if_pos c4⟩)))
  rw [if_neg c4]
  by_cases c5 : n < 100000
  · exact Or.inr (Or.inr (Or.inr (Or.inr (Or.inl ⟨by omega, c5, if_pos c5⟩))))
  · exact Or.inr (Or.inr (Or.inr (Or.inr (Or.inr ⟨by omega, if_neg c5⟩))))
theorem pwu_c {k : Nat} (h : k ≤ 5) : (k = 0 ∧ pwu (k + 1) = 1) ∨ (k = 1 ∧ pwu (k + 1) = 10) ∨ (k = 2 ∧ pwu (k + 1) = 100) ∨ (k = 3 ∧ pwu (k + 1) = 1000) ∨ (k = 4 ∧ pwu (k + 1) = 10000) ∨ (k = 5 ∧ pwu (k + 1) = 100000) := by
  have : k = 0 ∨ k = 1 ∨ k = 2 ∨ k = 3 ∨ k = 4 ∨ k = 5 := by omega
  rcases this with rfl | rfl | rfl | rfl | rfl | rfl <;> decide
theorem npw_c {n : Int} {k : Nat} (n0 : 0 ≤ n) (h : k ≤ npw n) : (n / pwu (k + 1) < 10 → n < 1000000 → k = npw n) ∧ (¬ n / pwu (k + 1) < 10 → n < 1000000 → k + 1 ≤ npw n) := by
  have v := npw_v n
  have k5 : k ≤ 5 := by omega
  rcases pwu_c k5 with ⟨e, p⟩ | ⟨e, p⟩ | ⟨e, p⟩ | ⟨e, p⟩ | ⟨e, p⟩ | ⟨e, p⟩
  · rw [p]
    exact ⟨fun _ _ => by omega, fun _ _ => by omega⟩
  · rw [p]
    exact ⟨fun _ _ => by omega, fun _ _ => by omega⟩
  · rw [p]
    exact ⟨fun _ _ => by omega, fun _ _ => by omega⟩
  · rw [p]
    exact ⟨fun _ _ => by omega, fun _ _ => by omega⟩
  · rw [p]
    exact ⟨fun _ _ => by omega, fun _ _ => by omega⟩
  · rw [p]
    exact ⟨fun _ _ => by omega, fun _ _ => by omega⟩
theorem pwu_p {k : Nat} (h : k ≤ 5) : 1 ≤ pwu (k + 1) ∧ pwu (k + 1) ≤ 100000 ∧ pwu (k + 1) / 10 = pwu k := by
  have : k = 0 ∨ k = 1 ∨ k = 2 ∨ k = 3 ∨ k = 4 ∨ k = 5 := by omega
  rcases this with rfl | rfl | rfl | rfl | rfl | rfl <;> decide
theorem pwu_10 {k : Nat} (h : k ≤ 4) : pwu (k + 1) * 10 = pwu (k + 1 + 1) := by
  have : k = 0 ∨ k = 1 ∨ k = 2 ∨ k = 3 ∨ k = 4 := by omega
  rcases this with rfl | rfl | rfl | rfl | rfl <;> decide
theorem dgt_l (k : Nat) (n : Int) : (dgt k n).length = k := by
  induction k with
  | zero => rfl
  | succ k ih =>
    show (dgt k n).length + 1 = k + 1
    rw [ih]
theorem npw_5 (n : Int) : npw n ≤ 5 := by
  have := npw_v n
  omega
theorem num_l (n : Int) : (num n).length = npw n + 1 := dgt_l _ _
/-- what is written so far, up to place a -/
def WT (w : MW) (a : Int32) (L : List Int) : Prop := a.toInt = (L.length : Int) ∧ ∀ (j : Nat) (c : Int), L[j]? = some c → (w.1 123 j).toInt = c
theorem wt_s {w : MW} {a v : Int32} {L : List Int} {c : Int} (h : WT w a L) (hl : L.length < 640) (hv : v.toInt = c) : WT (sI w 123 a.toInt.toNat v) (a + (1 : Int32)) (L ++ [c]) := by
  have h1 := h.1
  have e := ti_add2 h1 i_1 (by omega) (by omega)
  have n : a.toInt.toNat = L.length := by omega
  refine ⟨?_, fun j d q => ?_⟩
  · rw [e, List.length_append]
    rfl
  · rw [sI_if, n]
    by_cases c1 : j = L.length
    · rw [if_pos c1]
      rw [c1, List.getElem?_append_right (Nat.le_refl _), Nat.sub_self] at q
      have : c = d := Option.some.inj q
      rw [hv, this]
    · rw [if_neg c1]
      have l2 := (List.getElem?_eq_some_iff.mp q).1
      rw [List.length_append] at l2
      have : ([c] : List Int).length = 1 := rfl
      rw [List.getElem?_append_left (by omega)] at q
      exact h.2 j d q
theorem nby {x : Int32} (h1 : -128 ≤ x.toInt) (h2 : x.toInt ≤ 127) : (vp_nar .byte ((Int32.toInt8 x).toInt32)).toInt = x.toInt := by
  have e := nb_i2beq h1 h2
  rw [nb_byteq (by omega) (by omega), e]
theorem ch_1 : ∀ i, i < 5 → 0 ≤ (chT 1 (nI i)).toInt ∧ (chT 1 (nI i)).toInt ≤ 127 := by decide +kernel
theorem pw_1 {w0 : MW} {L : List Int} {E Q : Int32 → MW → Prop} (hl : L.length + 5 ≤ 640) (hE : ∀ r w', BND w' → FR [(123, none)] w0 w' → WT w' r (L ++ ltr 1 5) → E r w') (n : Nat) : ∀ (i : Nat) (a : Int32) (w : MW), BND w → FR [(123, none)] w0 w → i ≤ 5 → WT w a (L ++ ltr 1 i) → 5 - i < n → q_Pl_put_123_2001_5 E Q n a (nI i) w := by
  induction n with
  | zero => intros; omega
  | succ n ih =>
    intro i a w hB hF hi hw hm
    have ti : (nI i).toInt = (i : Int) := nI_toInt (by omega)
    have h1 := hw.1
    rw [List.length_append, ltr_l] at h1
    rw [q_Pl_put_123_2001_5.eq_2]
    refine ⟨fun c => ?_, fun c => ⟨fun c2 => by omega, fun c2 => ⟨⟨by omega, by omega⟩, ⟨by omega, by omega⟩, ?_⟩⟩⟩
    · have e : i = 5 := by omega
      subst e
      exact hE a w hB hF hw
    have b := ch_1 i (by omega)
    have y := nby (x := chT 1 (nI i)) (by omega) b.2
    rw [nI_1]
    refine ih (i + 1) _ _ (wbd_123 hB _ (by omega) (by omega)) (FR.I hF rfl) (by omega) ?_ (by omega)
    rw [ltr_s, ← List.append_assoc]
    exact wt_s hw (by rw [List.length_append, ltr_l]; omega) y
theorem px_1 {w : MW} {L : List Int} {a : Int32} {Q : Int32 → MW → Prop} (hI : BND w) (hw : WT w a L) (hl : L.length + 5 ≤ 640) (hQ : ∀ r w', BND w' → FR [(123, none)] w w' → WT w' r (L ++ ltr 1 5) → Q r w') : p_Pl_put_123_2001 w a Q := by
  refine Eq.mpr (p_Pl_put_123_2001.eq_1 _ _ _) (pw_1 (i := 0) hl hQ FU a w hI (FR.refl _ w) (by omega) ?_ (fu_lt (by decide)))
  have e : L ++ ltr 1 0 = L := List.append_nil L
  rw [e]
  exact hw
theorem ch_2 : ∀ i, i < 6 → 0 ≤ (chT 2 (nI i)).toInt ∧ (chT 2 (nI i)).toInt ≤ 127 := by decide +kernel
theorem pw_2 {w0 : MW} {L : List Int} {E Q : Int32 → MW → Prop} (hl : L.length + 6 ≤ 640) (hE : ∀ r w', BND w' → FR [(123, none)] w0 w' → WT w' r (L ++ ltr 2 6) → E r w') (n : Nat) : ∀ (i : Nat) (a : Int32) (w : MW), BND w → FR [(123, none)] w0 w → i ≤ 6 → WT w a (L ++ ltr 2 i) → 6 - i < n → q_Pl_put_123_2002_5 E Q n a (nI i) w := by
  induction n with
  | zero => intros; omega
  | succ n ih =>
    intro i a w hB hF hi hw hm
    have ti : (nI i).toInt = (i : Int) := nI_toInt (by omega)
    have h1 := hw.1
    rw [List.length_append, ltr_l] at h1
    rw [q_Pl_put_123_2002_5.eq_2]
    refine ⟨fun c => ?_, fun c => ⟨fun c2 => by omega, fun c2 => ⟨⟨by omega, by omega⟩, ⟨by omega, by omega⟩, ?_⟩⟩⟩
    · have e : i = 6 := by omega
      subst e
      exact hE a w hB hF hw
    have b := ch_2 i (by omega)
    have y := nby (x := chT 2 (nI i)) (by omega) b.2
    rw [nI_1]
    refine ih (i + 1) _ _ (wbd_123 hB _ (by omega) (by omega)) (FR.I hF rfl) (by omega) ?_ (by omega)
    rw [ltr_s, ← List.append_assoc]
    exact wt_s hw (by rw [List.length_append, ltr_l]; omega) y
theorem px_2 {w : MW} {L : List Int} {a : Int32} {Q : Int32 → MW → Prop} (hI : BND w) (hw : WT w a L) (hl : L.length + 6 ≤ 640) (hQ : ∀ r w', BND w' → FR [(123, none)] w w' → WT w' r (L ++ ltr 2 6) → Q r w') : p_Pl_put_123_2002 w a Q := by
  refine Eq.mpr (p_Pl_put_123_2002.eq_1 _ _ _) (pw_2 (i := 0) hl hQ FU a w hI (FR.refl _ w) (by omega) ?_ (fu_lt (by decide)))
  have e : L ++ ltr 2 0 = L := List.append_nil L
  rw [e]
  exact hw
theorem ch_3 : ∀ i, i < 4 → 0 ≤ (chT 3 (nI i)).toInt ∧ (chT 3 (nI i)).toInt ≤ 127 := by decide +kernel
theorem pw_3 {w0 : MW} {L : List Int} {E Q : Int32 → MW → Prop} (hl : L.length + 4 ≤ 640) (hE : ∀ r w', BND w' → FR [(123, none)] w0 w' → WT w' r (L ++ ltr 3 4) → E r w') (n : Nat) : ∀ (i : Nat) (a : Int32) (w : MW), BND w → FR [(123, none)] w0 w → i ≤ 4 → WT w a (L ++ ltr 3 i) → 4 - i < n → q_Pl_put_123_2003_5 E Q n a (nI i) w := by
  induction n with
  | zero => intros; omega
  | succ n ih =>
    intro i a w hB hF hi hw hm
    have ti : (nI i).toInt = (i : Int) := nI_toInt (by omega)
    have h1 := hw.1
    rw [List.length_append, ltr_l] at h1
    rw [q_Pl_put_123_2003_5.eq_2]
    refine ⟨fun c => ?_, fun c => ⟨fun c2 => by omega, fun c2 => ⟨⟨by omega, by omega⟩, ⟨by omega, by omega⟩, ?_⟩⟩⟩
    · have e : i = 4 := by omega
      subst e
      exact hE a w hB hF hw
    have b := ch_3 i (by omega)
    have y := nby (x := chT 3 (nI i)) (by omega) b.2
    rw [nI_1]
    refine ih (i + 1) _ _ (wbd_123 hB _ (by omega) (by omega)) (FR.I hF rfl) (by omega) ?_ (by omega)
    rw [ltr_s, ← List.append_assoc]
    exact wt_s hw (by rw [List.length_append, ltr_l]; omega) y
theorem px_3 {w : MW} {L : List Int} {a : Int32} {Q : Int32 → MW → Prop} (hI : BND w) (hw : WT w a L) (hl : L.length + 4 ≤ 640) (hQ : ∀ r w', BND w' → FR [(123, none)] w w' → WT w' r (L ++ ltr 3 4) → Q r w') : p_Pl_put_123_2003 w a Q := by
  refine Eq.mpr (p_Pl_put_123_2003.eq_1 _ _ _) (pw_3 (i := 0) hl hQ FU a w hI (FR.refl _ w) (by omega) ?_ (fu_lt (by decide)))
  have e : L ++ ltr 3 0 = L := List.append_nil L
  rw [e]
  exact hw
theorem ch_4 : ∀ i, i < 5 → 0 ≤ (chT 4 (nI i)).toInt ∧ (chT 4 (nI i)).toInt ≤ 127 := by decide +kernel
theorem pw_4 {w0 : MW} {L : List Int} {E Q : Int32 → MW → Prop} (hl : L.length + 5 ≤ 640) (hE : ∀ r w', BND w' → FR [(123, none)] w0 w' → WT w' r (L ++ ltr 4 5) → E r w') (n : Nat) : ∀ (i : Nat) (a : Int32) (w : MW), BND w → FR [(123, none)] w0 w → i ≤ 5 → WT w a (L ++ ltr 4 i) → 5 - i < n → q_Pl_put_123_2004_5 E Q n a (nI i) w := by
  induction n with
  | zero => intros; omega
  | succ n ih =>
    intro i a w hB hF hi hw hm
    have ti : (nI i).toInt = (i : Int) := nI_toInt (by omega)
    have h1 := hw.1
    rw [List.length_append, ltr_l] at h1
    rw [q_Pl_put_123_2004_5.eq_2]
    refine ⟨fun c => ?_, fun c => ⟨fun c2 => by omega, fun c2 => ⟨⟨by omega, by omega⟩, ⟨by omega, by omega⟩, ?_⟩⟩⟩
    · have e : i = 5 := by omega
      subst e
      exact hE a w hB hF hw
    have b := ch_4 i (by omega)
    have y := nby (x := chT 4 (nI i)) (by omega) b.2
    rw [nI_1]
    refine ih (i + 1) _ _ (wbd_123 hB _ (by omega) (by omega)) (FR.I hF rfl) (by omega) ?_ (by omega)
    rw [ltr_s, ← List.append_assoc]
    exact wt_s hw (by rw [List.length_append, ltr_l]; omega) y
theorem px_4 {w : MW} {L : List Int} {a : Int32} {Q : Int32 → MW → Prop} (hI : BND w) (hw : WT w a L) (hl : L.length + 5 ≤ 640) (hQ : ∀ r w', BND w' → FR [(123, none)] w w' → WT w' r (L ++ ltr 4 5) → Q r w') : p_Pl_put_123_2004 w a Q := by
  refine Eq.mpr (p_Pl_put_123_2004.eq_1 _ _ _) (pw_4 (i := 0) hl hQ FU a w hI (FR.refl _ w) (by omega) ?_ (fu_lt (by decide)))
  have e : L ++ ltr 4 0 = L := List.append_nil L
  rw [e]
  exact hw
theorem ch_5 : ∀ i, i < 1 → 0 ≤ (chT 5 (nI i)).toInt ∧ (chT 5 (nI i)).toInt ≤ 127 := by decide +kernel
theorem pw_5 {w0 : MW} {L : List Int} {E Q : Int32 → MW → Prop} (hl : L.length + 1 ≤ 640) (hE : ∀ r w', BND w' → FR [(123, none)] w0 w' → WT w' r (L ++ ltr 5 1) → E r w') (n : Nat) : ∀ (i : Nat) (a : Int32) (w : MW), BND w → FR [(123, none)] w0 w → i ≤ 1 → WT w a (L ++ ltr 5 i) → 1 - i < n → q_Pl_put_123_2005_5 E Q n a (nI i) w := by
  induction n with
  | zero => intros; omega
  | succ n ih =>
    intro i a w hB hF hi hw hm
    have ti : (nI i).toInt = (i : Int) := nI_toInt (by omega)
    have h1 := hw.1
    rw [List.length_append, ltr_l] at h1
    rw [q_Pl_put_123_2005_5.eq_2]
    refine ⟨fun c => ?_, fun c => ⟨fun c2 => by omega, fun c2 => ⟨⟨by omega, by omega⟩, ⟨by omega, by omega⟩, ?_⟩⟩⟩
    · have e : i = 1 := by omega
      subst e
      exact hE a w hB hF hw
    have b := ch_5 i (by omega)
    have y := nby (x := chT 5 (nI i)) (by omega) b.2
    rw [nI_1]
    refine ih (i + 1) _ _ (wbd_123 hB _ (by omega) (by omega)) (FR.I hF rfl) (by omega) ?_ (by omega)
    rw [ltr_s, ← List.append_assoc]
    exact wt_s hw (by rw [List.length_append, ltr_l]; omega) y
theorem px_5 {w : MW} {L : List Int} {a : Int32} {Q : Int32 → MW → Prop} (hI : BND w) (hw : WT w a L) (hl : L.length + 1 ≤ 640) (hQ : ∀ r w', BND w' → FR [(123, none)] w w' → WT w' r (L ++ ltr 5 1) → Q r w') : p_Pl_put_123_2005 w a Q := by
  refine Eq.mpr (p_Pl_put_123_2005.eq_1 _ _ _) (pw_5 (i := 0) hl hQ FU a w hI (FR.refl _ w) (by omega) ?_ (fu_lt (by decide)))
  have e : L ++ ltr 5 0 = L := List.append_nil L
  rw [e]
  exact hw
theorem ch_16 : ∀ i, i < 1 → 0 ≤ (chT 16 (nI i)).toInt ∧ (chT 16 (nI i)).toInt ≤ 127 := by decide +kernel
theorem pw_16 {w0 : MW} {L : List Int} {E Q : Int32 → MW → Prop} (hl : L.length + 1 ≤ 640) (hE : ∀ r w', BND w' → FR [(123, none)] w0 w' → WT w' r (L ++ ltr 16 1) → E r w') (n : Nat) : ∀ (i : Nat) (a : Int32) (w : MW), BND w → FR [(123, none)] w0 w → i ≤ 1 → WT w a (L ++ ltr 16 i) → 1 - i < n → q_Pl_put_123_2016_5 E Q n a (nI i) w := by
  induction n with
  | zero => intros; omega
  | succ n ih =>
    intro i a w hB hF hi hw hm
    have ti : (nI i).toInt = (i : Int) := nI_toInt (by omega)
    have h1 := hw.1
    rw [List.length_append, ltr_l] at h1
    rw [q_Pl_put_123_2016_5.eq_2]
    refine ⟨fun c => ?_, fun c => ⟨fun c2 => by omega, fun c2 => ⟨⟨by omega, by omega⟩, ⟨by omega, by omega⟩, ?_⟩⟩⟩
    · have e : i = 1 := by omega
      subst e
      exact hE a w hB hF hw
    have b := ch_16 i (by omega)
    have y := nby (x := chT 16 (nI i)) (by omega) b.2
    rw [nI_1]
    refine ih (i + 1) _ _ (wbd_123 hB _ (by omega) (by omega)) (FR.I hF rfl) (by omega) ?_ (by omega)
    rw [ltr_s, ← List.append_assoc]
    exact wt_s hw (by rw [List.length_append, ltr_l]; omega) y
theorem px_16 {w : MW} {L : List Int} {a : Int32} {Q : Int32 → MW → Prop} (hI : BND w) (hw : WT w a L) (hl : L.length + 1 ≤ 640) (hQ : ∀ r w', BND w' → FR [(123, none)] w w' → WT w' r (L ++ ltr 16 1) → Q r w') : p_Pl_put_123_2016 w a Q := by
  refine Eq.mpr (p_Pl_put_123_2016.eq_1 _ _ _) (pw_16 (i := 0) hl hQ FU a w hI (FR.refl _ w) (by omega) ?_ (fu_lt (by decide)))
  have e : L ++ ltr 16 0 = L := List.append_nil L
  rw [e]
  exact hw
theorem ch_17 : ∀ i, i < 1 → 0 ≤ (chT 17 (nI i)).toInt ∧ (chT 17 (nI i)).toInt ≤ 127 := by decide +kernel
theorem pw_17 {w0 : MW} {L : List Int} {E Q : Int32 → MW → Prop} (hl : L.length + 1 ≤ 640) (hE : ∀ r w', BND w' → FR [(123, none)] w0 w' → WT w' r (L ++ ltr 17 1) → E r w') (n : Nat) : ∀ (i : Nat) (a : Int32) (w : MW), BND w → FR [(123, none)] w0 w → i ≤ 1 → WT w a (L ++ ltr 17 i) → 1 - i < n → q_Pl_put_123_2017_5 E Q n a (nI i) w := by
  induction n with
  | zero => intros; omega
  | succ n ih =>
    intro i a w hB hF hi hw hm
    have ti : (nI i).toInt = (i : Int) := nI_toInt (by omega)
    have h1 := hw.1
    rw [List.length_append, ltr_l] at h1
    rw [q_Pl_put_123_2017_5.eq_2]
    refine ⟨fun c => ?_, fun c => ⟨fun c2 => by omega, fun c2 => ⟨⟨by omega, by omega⟩, ⟨by omega, by omega⟩, ?_⟩⟩⟩
    · have e : i = 1 := by omega
      subst e
      exact hE a w hB hF hw
    have b := ch_17 i (by omega)
    have y := nby (x := chT 17 (nI i)) (by omega) b.2
    rw [nI_1]
    refine ih (i + 1) _ _ (wbd_123 hB _ (by omega) (by omega)) (FR.I hF rfl) (by omega) ?_ (by omega)
    rw [ltr_s, ← List.append_assoc]
    exact wt_s hw (by rw [List.length_append, ltr_l]; omega) y
theorem px_17 {w : MW} {L : List Int} {a : Int32} {Q : Int32 → MW → Prop} (hI : BND w) (hw : WT w a L) (hl : L.length + 1 ≤ 640) (hQ : ∀ r w', BND w' → FR [(123, none)] w w' → WT w' r (L ++ ltr 17 1) → Q r w') : p_Pl_put_123_2017 w a Q := by
  refine Eq.mpr (p_Pl_put_123_2017.eq_1 _ _ _) (pw_17 (i := 0) hl hQ FU a w hI (FR.refl _ w) (by omega) ?_ (fu_lt (by decide)))
  have e : L ++ ltr 17 0 = L := List.append_nil L
  rw [e]
  exact hw
theorem lt_16 : ltr 16 1 = [10] := by decide +kernel
theorem lt_17 : ltr 17 1 = [45] := by decide +kernel
theorem pn_2 {a b : Int32} {w : MW} {E Q : Int32 → MW → Prop} (b0 : 0 ≤ b.toInt) (b1 : b.toInt < 1000000) (hE : ∀ x : Int32, x.toInt = pwu (npw b.toInt + 1) → E x w) (m : Nat) : ∀ (k : Nat) (x : Int32), x.toInt = pwu (k + 1) → k ≤ npw b.toInt → 6 - k < m → q_Pl_putNumber_123_2 a b E Q m x w := by
  induction m with
  | zero => intros; omega
  | succ m ih =>
    intro k x hx hk hm
    have k5 := npw_5 b.toInt
    have pp := pwu_p (k := k) (by omega)
    have d := nb_div (x := b) (y := x) b0 hx (by omega)
    have nc := npw_c b0 hk
    rw [q_Pl_putNumber_123_2.eq_2]
    refine ⟨fun c => by omega, fun _ => ⟨by omega, fun c => ?_, fun c => ?_⟩⟩
    · rw [d] at c
      have e := nc.1 c b1
      refine hE x ?_
      rw [← e]
      exact hx
    · rw [d] at c
      have e := nc.2 c b1
      have m10 := pwu_10 (k := k) (by omega)
      refine ih (k + 1) _ ?_ e (by omega)
      rw [ti_mul2 hx (by decide : ((10 : Int32)).toInt = 10) (by omega) (by omega), m10]
theorem pn_27 {b : Int32} {w0 : MW} {T : List Int} {E Q : Int32 → MW → Prop} (b0 : 0 ≤ b.toInt) (hE : ∀ r w', BND w' → FR [(123, none)] w0 w' → WT w' r T → E r w') (m : Nat) : ∀ (k : Nat) (x a : Int32) (w : MW) (L : List Int), BND w → FR [(123, none)] w0 w → x.toInt = pwu k → k ≤ 6 → WT w a L → L.length + k ≤ 640 → L ++ dgt k b.toInt = T → k < m → q_Pl_putNumber_123_27 b E Q m x a w := by
  induction m with
  | zero => intros; omega
  | succ m ih =>
    intro k x a w L hB hF hx hk hw hl hT hm
    have h1 := hw.1
    rw [q_Pl_putNumber_123_27.eq_2]
    cases k with
    | zero =>
      have e : x.toInt = 0 := hx
      have eT : L = T := by
        rw [← hT]
        exact (List.append_nil L).symm
      refine ⟨fun _ => hE a w hB hF (by rw [← eT]; exact hw), fun c => by omega⟩
    | succ k =>
      have pp := pwu_p (k := k) (by omega)
      have d := nb_div (x := b) (y := x) b0 hx (by omega)
      have q0 : 0 ≤ b.toInt / pwu (k + 1) := Int.ediv_nonneg b0 (by omega)
      have r := nb_rem (x := b / x) (y := (10 : Int32)) (by omega) (by decide : ((10 : Int32)).toInt = 10) (by decide)
      rw [d] at r
      have s := ti_add2 (by decide : ((48 : Int32)).toInt = 48) r (by omega) (by omega)
      refine ⟨fun c => by omega, fun _ => ⟨fun c => by omega, fun _ => ⟨by omega, ⟨by omega, by omega⟩, ?_⟩⟩⟩
      have y := nby (x := (48 : Int32) + ((b / x) - (b / x) / (10 : Int32) * (10 : Int32))) (by omega) (by omega)
      rw [s] at y
      have dx := nb_div (x := x) (y := (10 : Int32)) (by omega) (by decide : ((10 : Int32)).toInt = 10) (by decide)
      refine ih k _ _ _ (L ++ [48 + b.toInt / pwu (k + 1) % 10]) (wbd_123 hB _ (by omega) (by omega)) (FR.I hF rfl) (by rw [dx, hx]; exact pp.2.2) (by omega) (wt_s hw (by omega) y) ?_ ?_ (by omega)
      · rw [List.length_append]
        show L.length + 1 + k ≤ 640
        omega
      · rw [List.append_assoc]
        exact hT
theorem pn_x {w : MW} {a b : Int32} {L : List Int} {Q : Int32 → MW → Prop} (hI : BND w) (b0 : 0 ≤ b.toInt) (b1 : b.toInt < 1000000) (hw : WT w a L) (hl : L.length + 6 ≤ 640) (hQ : ∀ r w', BND w' → FR [(123, none)] w w' → WT w' r (L ++ num b.toInt) → Q r w') : p_Pl_putNumber_123 w a b Q := by
  have k5 := npw_5 b.toInt
  have lt : npw b.toInt + 1 < FU := Nat.lt_of_le_of_lt (Nat.succ_le_succ k5) (fu_lt (by decide))
  have l6 : 6 - 0 < FU := fu_lt (by decide)
  have hT : L ++ dgt (npw b.toInt + 1) b.toInt = L ++ num b.toInt := by
    unfold num
    rfl
  have p1 : ((1 : Int32)).toInt = pwu (0 + 1) := by decide
  refine Eq.mpr (p_Pl_putNumber_123.eq_1 _ _ _ _) ?_
  refine pn_2 b0 b1 (fun x hx => ?_) FU 0 1 p1 (Nat.zero_le _) l6
  exact pn_27 (T := L ++ num b.toInt) b0 hQ FU (npw b.toInt + 1) x a w L hI (FR.refl _ w) hx (by omega) hw (by omega) hT lt
theorem pe_x {w : MW} {a b : Int32} {L : List Int} {Q : Int32 → MW → Prop} (hI : BND w) (b0 : -1 ≤ b.toInt) (b1 : b.toInt < 1000000) (hw : WT w a L) (hl : L.length + 6 ≤ 640) (hQ : ∀ r w', BND w' → FR [(123, none)] w w' → WT w' r (L ++ endT b.toInt) → Q r w') : p_Pl_putPipeEnd_123 w a b Q := by
  refine Eq.mpr (p_Pl_putPipeEnd_123.eq_1 _ _ _ _) ⟨fun c => pn_x hI (by omega) b1 hw hl (fun r w' B F W => hQ r w' B F ?_), fun c => px_17 hI hw (by omega) (fun r w' B F W => hQ r w' B F ?_)⟩
  · unfold endT
    rw [if_neg c]
    exact W
  · unfold endT
    rw [if_pos (Classical.not_not.mp c), ← lt_17]
    exact W
