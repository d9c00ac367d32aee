/-! the reference writes the text of its plant: all of it; the class's answer -/
theorem mwr_59 {w : MW} {ls : List Ln} {y : Ln} {t i : Nat} {a : Int32} {l : Int64} {hd M : List Int} {A : Int32 → MW → Prop} {E : MW → Prop} {Q : Int32 → MW → Prop} (hI : BND w) (hP : PWs w ls) (hG : GL ls) (ey : (thg ls)[t]? = some y) (t20 : t < 20) (hi : i ≤ 2147483647) (hS : LtS w i M) (hM : M.length ≤ 300) (hL : LTl hd l) (hh : hd.length ≤ 5) (hT : lnT y = if y.1 = 1 then hd ++ [10] else hd ++ [32] ++ endT y.2.1 ++ [10]) (hA : ∀ w', BND w' → FR lle w w' → LtS w' i (M ++ lnT y) → A (nI t + (1 : Int32)) w') : q_Mo_write_59 a (nI t) l w A E Q := by
  have ti : (nI t).toInt = (t : Int) := nI_toInt (by omega)
  have tn : (nI t).toInt.toNat = t := by omega
  have gi : 0 ≤ (nI t).toInt ∧ (nI t).toInt < 20 := ⟨by omega, by omega⟩
  have gy := hG.1 y (List.mem_of_getElem? ey)
  refine Eq.mpr (q_Mo_write_59.eq_1 _ _ _ _ _ _ _) (sy_x hI hS hi hL (by omega) (fun w7 B7 F7 S7 => ?_))
  have g := (pws_fr hP F7 rfl).2.2.1 t y ey
  have l7 : (M ++ hd).length ≤ 305 := by
    rw [List.length_append]
    omega
  rw [tn]
  refine ⟨gi, fun c1 => le_x (c := 10) B7 S7 hi (by omega) (by decide) (fun w' B' F' S' => hA w' B' (F7.tr F' rfl) ?_), fun c1 => ⟨gi, fun c0 => ⟨gi, ?_⟩, fun c0 => ⟨gi, ?_⟩⟩⟩
  · have k : y.1 = 1 := by
      have e := g.1
      unfold mkd at e
      rcases gy.1 with q | q | q
      · rw [if_pos q] at e
        omega
      · exact q
      · rw [if_neg (by omega), if_neg (by omega)] at e
        omega
    rw [hT, if_pos k, ← List.append_assoc]
    exact S'
  · have k : y.1 = 2 ∧ 0 ≤ y.2.1 ∧ y.2.1 ≤ 7 := by
      have e := g.1
      unfold mkd at e
      rcases gy.1 with q | q | q
      · rw [if_pos q] at e
        omega
      · rw [if_neg (by omega), if_pos q] at e
        omega
      · exact q
    have e2 : (w7.1 163 t).toInt = 2 + y.2.1 := by
      rw [g.1]
      unfold mkd
      rw [if_neg (by omega), if_neg (by omega)]
    have v := ti_sub2 e2 (by decide : ((2 : Int32)).toInt = 2) (by omega) (by omega)
    have v2 : ((w7.1 163 t) - (2 : Int32)).toInt = y.2.1 := by omega
    have e3 := endT_l (n := y.2.1) (by omega)
    refine sn_x B7 S7 hi (by omega) (by omega) (by omega) (fun w8 B8 F8 S8 => ?_)
    rw [v2] at S8
    refine le_x (c := 10) B8 S8 hi ?_ (by decide) (fun w' B' F' S' => hA w' B' ((F7.tr F8 rfl).tr F' rfl) ?_)
    · rw [List.length_append, List.length_append]
      show (M ++ hd).length + 1 + (endT y.2.1).length ≤ 1000
      omega
    · rw [hT, if_neg (by omega)]
      simp only [← List.append_assoc]
      exact S'
  · have k : y.1 = 0 := by
      have e := g.1
      have c0 := Classical.not_not.mp c0
      unfold mkd at e
      rcases gy.1 with q | q | q
      · exact q
      · rw [if_neg (by omega), if_pos q] at e
        omega
      · rw [if_neg (by omega), if_neg (by omega)] at e
        omega
    have r := gy.2 k
    have v2 : (w7.1 164 t).toInt = y.2.1 := by rw [g.2, if_pos k]
    have k5 := npw_5 y.2.1
    have e3 : (endT y.2.1).length ≤ 6 := by
      unfold endT
      rw [if_neg (by omega), num_l]
      omega
    refine sn_x B7 S7 hi (by omega) (by omega) (by omega) (fun w8 B8 F8 S8 => ?_)
    rw [v2] at S8
    refine le_x (c := 10) B8 S8 hi ?_ (by decide) (fun w' B' F' S' => hA w' B' ((F7.tr F8 rfl).tr F' rfl) ?_)
    · rw [List.length_append, List.length_append]
      show (M ++ hd).length + 1 + (endT y.2.1).length ≤ 1000
      omega
    · rw [hT, if_neg (by omega)]
      simp only [← List.append_assoc]
      exact S'
theorem mwr_12 {w0 : MW} {ls : List Ln} {i : Nat} {a : Int32} {E : MW → Prop} {Q : Int32 → MW → Prop} (hP : PWs w0 ls) (hG : GL ls) (ha : a.toInt = (i : Int)) (hE : ∀ w', BND w' → FR lle w0 w' → LtS w' i (txl (thg ls)) → E w') (n : Nat) : ∀ (t : Nat) (w : MW), BND w → FR lle w0 w → t ≤ (thg ls).length → LtS w i (txl ((thg ls).take t)) → 20 - t < n → q_Mo_write_12 a E Q n (nI t) w := by
  induction n with
  | zero => intros; omega
  | succ n ih =>
    intro t w hB hF ht hS hm
    have a1 := ti_hi a
    have hi : i ≤ 2147483647 := by omega
    have g20 := hG.2.2.1
    have ti : (nI t).toInt = (t : Int) := nI_toInt (by omega)
    have tn : (nI t).toInt.toNat = t := by omega
    have P : PWs w ls := pws_fr hP hF rfl
    have n0 := P.1
    rw [q_Mo_write_12.eq_2]
    refine ⟨fun c => ?_, fun c => ⟨fun c2 => by omega, fun _ => ?_⟩⟩
    · have e : t = (thg ls).length := by omega
      rw [e, List.take_length] at hS
      exact hE w hB hF hS
    have lt : t < (thg ls).length := by omega
    obtain ⟨y, ey⟩ : ∃ y, (thg ls)[t]? = some y := ⟨_, List.getElem?_eq_getElem lt⟩
    have g := P.2.2.1 t y ey
    have gy := hG.1 y (List.mem_of_getElem? ey)
    have len := thg_len hG t
    have gi : 0 ≤ (nI t).toInt ∧ (nI t).toInt < 20 := ⟨by omega, by omega⟩
    have nx : ∀ v : MW, BND v → FR lle w v → LtS v i (txl ((thg ls).take t) ++ lnT y) → q_Mo_write_12 a E Q n (nI t + (1 : Int32)) v := fun v Bv Fv Sv => by
      rw [nI_1]
      refine ih (t + 1) v Bv (hF.tr Fv rfl) lt ?_ (by omega)
      rw [txl_t _ _ _ ey]
      exact Sv
    have en : ∀ n : Int, 0 ≤ n → endT n = num n := fun n h => by
      unfold endT
      rw [if_neg (by omega)]
    have ek := g.1
    unfold mkd at ek
    rw [tn]
    refine ⟨gi, fun c0 => ⟨gi, fun c1 => ?_, fun c1 => ?_⟩, fun c0 => ?_⟩
    · have k : y.1 = 2 ∧ 0 ≤ y.2.1 ∧ y.2.1 ≤ 7 := by
        rcases gy.1 with q | q | q
        · rw [if_pos q] at ek
          omega
        · rw [if_neg (by omega), if_pos q] at ek
          omega
        · exact q
      refine mwr_59 hB P hG ey (by omega) hi hS (by omega) lt_valve (by decide) ?_ nx
      rw [if_neg (by omega), en _ (by omega)]
      unfold lnT
      rw [if_neg (by omega), if_neg (by omega), if_pos k.1]
      rfl
    · have k : y.1 = 1 := by
        have c1 := Classical.not_not.mp c1
        rcases gy.1 with q | q | q
        · rw [if_pos q] at ek
          omega
        · exact q
        · rw [if_neg (by omega), if_neg (by omega)] at ek
          omega
      refine mwr_59 hB P hG ey (by omega) hi hS (by omega) lt_pump (by decide) ?_ nx
      rw [if_pos k]
      unfold lnT
      rw [if_neg (by omega), if_pos k]
    · have k : y.1 = 0 := by
        have c0 := Classical.not_not.mp c0
        rcases gy.1 with q | q | q
        · exact q
        · rw [if_neg (by omega), if_pos q] at ek
          omega
        · rw [if_neg (by omega), if_neg (by omega)] at ek
          omega
      have r := gy.2 k
      refine mwr_59 hB P hG ey (by omega) hi hS (by omega) lt_tank (by decide) ?_ nx
      rw [if_neg (by omega), en _ (by omega)]
      unfold lnT
      rw [if_pos k]
      rfl
theorem mwr_116 {w0 : MW} {ls : List Ln} {i : Nat} {a : Int32} {E : MW → Prop} {Q : Int32 → MW → Prop} (hP : PWs w0 ls) (hG : GL ls) (ha : a.toInt = (i : Int)) (hE : ∀ w', BND w' → FR lle w0 w' → LtS w' i (txt ls) → E w') (n : Nat) : ∀ (t : Nat) (w : MW), BND w → FR lle w0 w → t ≤ (pip ls).length → LtS w i (txl (thg ls) ++ txl ((pip ls).take t)) → 24 - t < n → q_Mo_write_116 a E Q n (nI t) w := by
  induction n with
  | zero => intros; omega
  | succ n ih =>
    intro t w hB hF ht hS hm
    have a1 := ti_hi a
    have hi : i ≤ 2147483647 := by omega
    have g24 := hG.2.2.2
    have ti : (nI t).toInt = (t : Int) := nI_toInt (by omega)
    have tn : (nI t).toInt.toNat = t := by omega
    have P : PWs w ls := pws_fr hP hF rfl
    have n1 := P.2.1
    rw [q_Mo_write_116.eq_2]
    refine ⟨fun c => ?_, fun c => ⟨fun c2 => by omega, fun _ => ?_⟩⟩
    · have e : t = (pip ls).length := by omega
      rw [e, List.take_length] at hS
      exact hE w hB hF hS
    have lt : t < (pip ls).length := by omega
    obtain ⟨y, ey⟩ : ∃ y, (pip ls)[t]? = some y := ⟨_, List.getElem?_eq_getElem lt⟩
    have g := P.2.2.2 t y ey
    have gy := hG.2.1 y (List.mem_of_getElem? ey)
    have l1 := thg_len2 hG
    have l2 := pip_len hG t
    have L0 : (txl (thg ls) ++ txl ((pip ls).take t)).length ≤ 585 := by
      rw [List.length_append]
      omega
    have m2 := ti_mul2 (by decide : ((2 : Int32)).toInt = 2) ti (by omega) (by omega)
    have m3 := ti_add2 m2 i_1 (by omega) (by omega)
    have x2 : ((2 : Int32) * nI t).toInt.toNat = 2 * t := by omega
    have x3 : (((2 : Int32) * nI t) + (1 : Int32)).toInt.toNat = 2 * t + 1 := by omega
    have ea := endT_l (n := y.2.1) (by omega)
    have eb := endT_l (n := y.2.2.1) (by omega)
    have v := npw_v y.2.2.2
    have ec : endT y.2.2.2 = num y.2.2.2 := by
      unfold endT
      rw [if_neg (by omega)]
    rw [tn, x2, x3]
    generalize eL : (txl (thg ls) ++ txl ((pip ls).take t)) = L at *
    refine sy_x hB hS hi lt_pipe (by show L.length + 4 ≤ 1000; omega) (fun w1 B1 F1 S1 => ⟨⟨by omega, by omega⟩, ?_⟩)
    have v1 : (w1.1 170 (2 * t)).toInt = y.2.1 := by rw [(F1 170 _ rfl).1, g.2.1]
    refine sn_x B1 S1 hi (by rw [List.length_append]; show L.length + 4 ≤ 900; omega) (by omega) (by omega) (fun w2 B2 F2 S2 => ⟨⟨by omega, by omega⟩, ?_⟩)
    rw [v1] at S2
    have v2 : (w2.1 170 (2 * t + 1)).toInt = y.2.2.1 := by rw [(F2 170 _ rfl).1, (F1 170 _ rfl).1, g.2.2.1]
    refine sn_x B2 S2 hi (by rw [List.length_append, List.length_append, List.length_append]; show L.length + 4 + 1 + (endT y.2.1).length ≤ 900; omega) (by omega) (by omega) (fun w3 B3 F3 S3 => ⟨⟨by omega, by omega⟩, ?_⟩)
    rw [v2] at S3
    have v3 : (w3.1 169 t).toInt = y.2.2.2 := by rw [(F3 169 _ rfl).1, (F2 169 _ rfl).1, (F1 169 _ rfl).1, g.1]
    refine sn_x B3 S3 hi (by rw [List.length_append, List.length_append, List.length_append, List.length_append, List.length_append]; show L.length + 4 + 1 + (endT y.2.1).length + 1 + (endT y.2.2.1).length ≤ 900; omega) (by omega) (by omega) (fun w4 B4 F4 S4 => ?_)
    rw [v3, ec] at S4
    refine le_x (c := 10) B4 S4 hi (by rw [List.length_append, List.length_append, List.length_append, List.length_append, List.length_append, List.length_append, List.length_append, num_l]; show L.length + 4 + 1 + (endT y.2.1).length + 1 + (endT y.2.2.1).length + 1 + (npw y.2.2.2 + 1) ≤ 1000; omega) (by decide) (fun w5 B5 F5 S5 => ?_)
    rw [nI_1]
    refine ih (t + 1) w5 B5 (((((hF.tr F1 rfl).tr F2 rfl).tr F3 rfl).tr F4 rfl).tr F5 rfl) lt ?_ (by omega)
    rw [txl_t _ _ _ ey, ← List.append_assoc, eL]
    have e : lnT y = [112, 105, 112, 101] ++ [32] ++ endT y.2.1 ++ [32] ++ endT y.2.2.1 ++ [32] ++ num y.2.2.2 ++ [10] := by
      unfold lnT
      rw [if_neg (by omega), if_neg (by omega), if_neg (by omega)]
      rfl
    rw [e]
    simp only [← List.append_assoc]
    exact S5
/-- the byte that write tells -/
def wrV (ls : List Ln) (a : Int) : Int := if a < 0 then -1 else (txt ls).getD a.toNat (-1)
theorem mwr_x {w : MW} {ls : List Ln} {a : Int32} {Q : Int32 → MW → Prop} (hI : BND w) (hP : PWs w ls) (hG : GL ls) (hQ : ∀ r w', BND w' → FR lle w w' → r.toInt = wrV ls a.toInt → Q r w') : p_Mo_write w a Q := by
  have B0 : BND (sI (sI w 127 83 a) 127 84 (-1)) := wbd_127_84 (wbd_127_83 hI)
  have F0 : FR lle w (sI (sI w 127 83 a) 127 84 (-1)) := FR.I (FR.I (FR.refl _ w) rfl) rfl
  have e83 : (sI (sI w 127 83 a) 127 84 (-1)).1 127 83 = a := rfl
  have e84 : (sI (sI w 127 83 a) 127 84 (-1)).1 127 84 = -1 := rfl
  refine Eq.mpr (p_Mo_write.eq_1 _ _ _) ?_
  generalize (sI (sI w 127 83 a) 127 84 (-1)) = z at *
  have P0 : PWs z ls := pws_fr hP F0 rfl
  unfold wrV at hQ
  by_cases c : a.toInt < 0
  · rw [if_pos c] at hQ
    have k1 : ∀ (E : MW → Prop) (Q : Int32 → MW → Prop) (n : Nat) (x : Int32), E z → q_Mo_write_12 a E Q (n + 1) x z := fun E Q n x h => by
      rw [q_Mo_write_12.eq_2]
      exact ⟨fun _ => h, fun _ => ⟨fun _ => h, fun d => absurd c d⟩⟩
    have k2 : ∀ (E : MW → Prop) (Q : Int32 → MW → Prop) (n : Nat) (x : Int32), E z → q_Mo_write_116 a E Q (n + 1) x z := fun E Q n x h => by
      rw [q_Mo_write_116.eq_2]
      exact ⟨fun _ => h, fun _ => ⟨fun _ => h, fun d => absurd c d⟩⟩
    exact k1 _ _ 99999999999999999999 _ (k2 _ _ 99999999999999999999 _ (hQ _ z B0 F0 (by rw [e84]; exact i_m1)))
  · rw [if_neg c] at hQ
    have ha : a.toInt = (a.toInt.toNat : Int) := by omega
    have S0 : LtS z a.toInt.toNat (txl ((thg ls).take 0)) := ⟨by rw [e83]; show a.toInt = (a.toInt.toNat : Int) - 0; omega, by rw [e84]; rfl⟩
    refine mwr_12 (t := 0) (w0 := z) P0 hG ha (fun w1 B1 F1 S1 => mwr_116 (t := 0) (w0 := z) P0 hG ha (fun w2 B2 F2 S2 => hQ _ w2 B2 (F0.tr F2 rfl) S2.2) FU w1 B1 F1 (Nat.zero_le _) ?_ (fu_lt (by decide))) FU z B0 (FR.refl _ z) (Nat.zero_le _) S0 (fu_lt (by decide))
    have e : txl (thg ls) ++ txl ((pip ls).take 0) = txl (thg ls) := List.append_nil _
    rw [e]
    exact S1
theorem cw_x {w : MW} {ls : List Ln} {a : Int32} {Q : Int32 → MW → Prop} (hI : BND w) (hW : WT w (w.1 0 12) (txt ls)) (hQ : ∀ r, r.toInt = wrV ls a.toInt → Q r w) : p_Bh_write w a Q := by
  have b := bd_0_12 hI
  have h1 := hW.1
  unfold wrV at hQ
  refine Eq.mpr (p_Bh_write.eq_1 _ _ _) ⟨fun c => hQ _ ?_, fun c => ⟨fun c2 => hQ _ ?_, fun c2 => ⟨⟨by omega, by omega⟩, hQ _ ?_⟩⟩⟩
  · rw [if_pos c]
    exact i_m1
  · rw [if_neg c, List.getD_eq_getElem?_getD, List.getElem?_eq_none (by omega)]
    exact i_m1
  · rw [if_neg c, List.getD_eq_getElem?_getD]
    have lt : a.toInt.toNat < (txt ls).length := by omega
    rw [List.getElem?_eq_getElem lt]
    exact hW.2 _ _ (List.getElem?_eq_getElem lt)
