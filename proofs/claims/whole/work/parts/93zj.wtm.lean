/-! the reference writes the text of its plant -/
def lle : Pl := [(127, some 83), (127, some 84)]
/-- the letters M were said, the one at place i is wished for -/
def LtS (w : MW) (i : Nat) (M : List Int) : Prop := (w.1 127 83).toInt = (i : Int) - (M.length : Int) ∧ (w.1 127 84).toInt = M.getD i (-1)
theorem le_x {w : MW} {a : Int32} {i : Nat} {M : List Int} {c : Int} {Q : MW → Prop} (hI : BND w) (h : LtS w i M) (hi : i ≤ 2147483647) (hl : M.length ≤ 1000) (ha : a.toInt = c) (hQ : ∀ w', BND w' → FR lle w w' → LtS w' i (M ++ [c]) → Q w') : p_Mo_letter w a Q := by
  have s := ti_sub2 h.1 i_1 (by omega) (by omega)
  have h1 := h.1
  have l1 : (M ++ [c]).length = M.length + 1 := by
    rw [List.length_append]
    rfl
  refine Eq.mpr (p_Mo_letter.eq_1 _ _ _) ⟨fun q => hQ _ (wbd_127_83 (wbd_127_84 hI)) (FR.I (FR.I (FR.refl _ w) rfl) rfl) ⟨?_, ?_⟩, fun q => hQ _ (wbd_127_83 (wbd_127_84 hI)) (FR.I (FR.I (FR.refl _ w) rfl) rfl) ⟨?_, ?_⟩⟩
  · rw [sI_same, s, l1]
    omega
  · rw [sI_ne _ _ _ _ _ (by decide), sI_same, h.2, List.getD_eq_getElem?_getD, List.getD_eq_getElem?_getD]
    by_cases c1 : i < M.length
    · rw [List.getElem?_append_left c1]
    · rw [List.getElem?_eq_none (by omega), List.getElem?_eq_none (by rw [l1]; omega)]
  · rw [sI_same, s, l1]
    omega
  · have q := Classical.not_not.mp q
    have e : i = M.length := by omega
    rw [sI_ne _ _ _ _ _ (by decide), sI_same, ha, List.getD_eq_getElem?_getD, e, List.getElem?_append_right (Nat.le_refl _), Nat.sub_self]
    rfl
theorem sy_2 {w0 : MW} {i : Nat} {T : List Int} {E Q : MW → Prop} (hi : i ≤ 2147483647) (hT : T.length ≤ 1000) (hE : ∀ w', BND w' → FR lle w0 w' → LtS w' i T → E w') (n : Nat) : ∀ (ls : List Int) (l : Int64) (w : MW) (M : List Int), BND w → FR lle w0 w → LTl ls l → LtS w i M → M ++ ls = T → ls.length < n → q_Mo_say_2 E Q n l w := by
  induction n with
  | zero => intros; omega
  | succ n ih =>
    intro ls l w M hB hF hL hS hM hm
    rw [q_Mo_say_2.eq_2]
    cases ls with
    | nil =>
      have c : (lg_cmp l (0 : Int64)).toInt = 0 := hL
      rw [List.append_nil] at hM
      exact ⟨fun _ => hE w hB hF (by rw [← hM]; exact hS), fun q => absurd c q⟩
    | cons c ls =>
      have lT : M.length + (ls.length + 1) ≤ 1000 := by
        rw [← hM, List.length_append, List.length_cons] at hT
        exact hT
      refine ⟨fun q => absurd q hL.1, fun _ => le_x hB hS hi (by omega) hL.2.1 (fun w' B' F' S' => ih ls _ w' (M ++ [c]) B' (hF.tr F' rfl) hL.2.2.2 S' ?_ ?_)⟩
      · rw [List.append_assoc]
        exact hM
      · rw [List.length_cons] at hm
        omega
theorem sy_x {w : MW} {l : Int64} {ls : List Int} {i : Nat} {M : List Int} {Q : MW → Prop} (hI : BND w) (h : LtS w i M) (hi : i ≤ 2147483647) (hL : LTl ls l) (hl : M.length + ls.length ≤ 1000) (hQ : ∀ w', BND w' → FR lle w w' → LtS w' i (M ++ ls) → Q w') : p_Mo_say w l Q :=
  Eq.mpr (p_Mo_say.eq_1 _ _ _) (sy_2 hi (by rw [List.length_append]; exact hl) hQ FU ls l w M hI (FR.refl _ w) hL h rfl (fu_lt (by omega)))
theorem lt_pump : LTl [112, 117, 109, 112] 1886221680 := by
  refine ⟨by decide, by decide, by decide, by decide, by decide, by decide, by decide, by decide, by decide, by decide, by decide, by decide, ?_⟩
  show (lg_cmp _ _).toInt = 0
  decide
theorem lt_pipe : LTl [112, 105, 112, 101] 1701865840 := by
  refine ⟨by decide, by decide, by decide, by decide, by decide, by decide, by decide, by decide, by decide, by decide, by decide, by decide, ?_⟩
  show (lg_cmp _ _).toInt = 0
  decide
theorem sn_19 {b : Int32} {w : MW} {E : Int32 → MW → Prop} {Q : MW → Prop} (b0 : 0 ≤ b.toInt) (b1 : b.toInt < 1000000) (hE : ∀ x : Int32, x.toInt = pwu (npw b.toInt + 1) → E x w) (m : Nat) : ∀ (k : Nat) (x : Int32), x.toInt = pwu (k + 1) → k ≤ npw b.toInt → 6 - k < m → q_Mo_sayNumber_19 b E Q m x w := by
  induction m with
  | zero => intros; omega
  | succ m ih =>
    intro k x hx hk hm
    have k5 := npw_5 b.toInt
    have pp := pwu_p (k := k) (by omega)
    have d := nb_div (x := b) (y := x) b0 hx (by omega)
    have nc := npw_c b0 hk
    rw [q_Mo_sayNumber_19.eq_2]
    refine ⟨by omega, fun c => ?_, fun c => ?_⟩
    · rw [d] at c
      have e := nc.1 c b1
      refine hE x ?_
      rw [← e]
      exact hx
    · rw [d] at c
      have e := nc.2 c b1
      have m10 := pwu_10 (k := k) (by omega)
      refine ih (k + 1) _ ?_ e (by omega)
      rw [ti_mul2 hx (by decide : ((10 : Int32)).toInt = 10) (by omega) (by omega), m10]
theorem sn_37 {b : Int32} {w0 : MW} {i : Nat} {T : List Int} {E Q : MW → Prop} (hi : i ≤ 2147483647) (hT : T.length ≤ 1000) (b0 : 0 ≤ b.toInt) (hE : ∀ w', BND w' → FR lle w0 w' → LtS w' i T → E w') (m : Nat) : ∀ (k : Nat) (x : Int32) (w : MW) (M : List Int), BND w → FR lle w0 w → x.toInt = pwu k → k ≤ 6 → LtS w i M → M ++ dgt k b.toInt = T → k < m → q_Mo_sayNumber_37 b E Q m x w := by
  induction m with
  | zero => intros; omega
  | succ m ih =>
    intro k x w M hB hF hx hk hS hM hm
    rw [q_Mo_sayNumber_37.eq_2]
    have lT : M.length + k ≤ 1000 := by
      rw [← hM, List.length_append, dgt_l] at hT
      exact hT
    cases k with
    | zero =>
      have e : x.toInt = 0 := hx
      have eT : M = T := by
        rw [← hM]
        exact (List.append_nil M).symm
      refine ⟨fun _ => hE w hB hF (by rw [← eT]; exact hS), fun c => by omega⟩
    | succ k =>
      have pp := pwu_p (k := k) (by omega)
      have d := nb_div (x := b) (y := x) b0 hx (by omega)
      have q0 : 0 ≤ b.toInt / pwu (k + 1) := Int.ediv_nonneg b0 (by omega)
      have r := nb_rem (x := b / x) (y := (10 : Int32)) (by omega) (by decide : ((10 : Int32)).toInt = 10) (by decide)
      rw [d] at r
      have s := ti_add2 (by decide : ((48 : Int32)).toInt = 48) r (by omega) (by omega)
      have dx := nb_div (x := x) (y := (10 : Int32)) (by omega) (by decide : ((10 : Int32)).toInt = 10) (by decide)
      refine ⟨fun c => by omega, fun _ => ⟨by omega, le_x hB hS hi (by omega) s (fun w' B' F' S' => ih k _ w' (M ++ [48 + b.toInt / pwu (k + 1) % 10]) B' (hF.tr F' rfl) (by rw [dx, hx]; exact pp.2.2) (by omega) S' ?_ (by omega))⟩⟩
      rw [List.append_assoc]
      exact hM
theorem sn_x {w : MW} {b : Int32} {i : Nat} {M : List Int} {Q : MW → Prop} (hI : BND w) (h : LtS w i M) (hi : i ≤ 2147483647) (hl : M.length ≤ 900) (b0 : -1 ≤ b.toInt) (b1 : b.toInt < 1000000) (hQ : ∀ w', BND w' → FR lle w w' → LtS w' i (M ++ [32] ++ endT b.toInt) → Q w') : p_Mo_sayNumber w b Q := by
  have k5 := npw_5 b.toInt
  have l1 : (M ++ [32]).length = M.length + 1 := by
    rw [List.length_append]
    rfl
  refine Eq.mpr (p_Mo_sayNumber.eq_1 _ _ _) (le_x (c := 32) hI h hi (by omega) (by decide) (fun w1 B1 F1 S1 => ⟨fun c => ?_, fun c => ?_⟩))
  · have e : endT b.toInt = num b.toInt := by
      unfold endT
      rw [if_neg (by omega)]
    rw [e] at hQ
    have lt : npw b.toInt + 1 < FU := Nat.lt_of_le_of_lt (Nat.succ_le_succ k5) (fu_lt (by decide))
    have l6 : 6 - 0 < FU := fu_lt (by decide)
    have hT : M ++ [32] ++ dgt (npw b.toInt + 1) b.toInt = M ++ [32] ++ num b.toInt := by
      unfold num
      rfl
    have p1 : ((1 : Int32)).toInt = pwu (0 + 1) := by decide
    refine sn_19 c b1 (fun x hx => ?_) FU 0 1 p1 (Nat.zero_le _) l6
    exact sn_37 (w0 := w1) (T := M ++ [32] ++ num b.toInt) hi (by rw [List.length_append, l1, num_l]; omega) c (fun w' B' F' S' => hQ w' B' (F1.tr F' rfl) S') FU (npw b.toInt + 1) x w1 (M ++ [32]) B1 (FR.refl _ w1) hx (by omega) S1 hT lt
  · have e : endT b.toInt = [45] := by
      unfold endT
      rw [if_pos (by omega)]
    rw [e] at hQ
    exact le_x (c := 45) B1 S1 hi (by omega) (by decide) (fun w' B' F' S' => hQ w' B' (F1.tr F' rfl) S')
