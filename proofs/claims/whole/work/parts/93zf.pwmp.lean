/-! the reference's plant as the list of its lines: pipes -/
theorem nar0 : vp_nar .byte (0 : Int32) = 0 := by decide
theorem by_122 {s : MW} {P : Nat} {E Q : MW → Prop} (hP : (s.1 127 11).toInt = (P : Int)) (hn : P < 24) (hE : ∀ w : MW, BND w → FR [(172, none)] s w → (∀ j, w.1 172 j = if 200 * P ≤ j ∧ j < 200 * P + 200 then 0 else s.1 172 j) → E w) (n : Nat) : ∀ (i : Nat) (w : MW), BND w → FR [(172, none)] s w → i ≤ 200 → (∀ j, w.1 172 j = if 200 * P ≤ j ∧ j < 200 * P + i then 0 else s.1 172 j) → 200 - i < n → q_Mo_build_122 E Q n (nI i) w := by
  induction n with
  | zero => intros; omega
  | succ n ih =>
    intro i w hI hF hi hj hm
    have ti : (nI i).toInt = (i : Int) := nI_toInt (by omega)
    have e11 : (w.1 127 11).toInt = (P : Int) := by rw [(hF 127 11 rfl).1]; exact hP
    rw [q_Mo_build_122.eq_2]
    refine ⟨fun c => ?_, fun c => ?_⟩
    · have e : i = 200 := by omega
      subst e
      exact hE w hI hF hj
    have m1 := ti_mul2 (by decide : ((200 : Int32)).toInt = 200) e11 (by omega) (by omega)
    have m2 := ti_add2 m1 ti (by omega) (by omega)
    have x : (((200 : Int32) * (w.1 127 11)) + nI i).toInt.toNat = 200 * P + i := by omega
    refine ⟨⟨by omega, by omega⟩, ?_⟩
    rw [nI_1, nar0, x]
    refine ih (i + 1) _ (wbd_172 hI _ (by decide) (by decide)) (FR.I hF rfl) (by omega) (fun j => ?_) (by omega)
    rw [sI_if, hj j]
    by_cases q : j = 200 * P + i
    · rw [if_pos q, if_pos (by omega)]
    · rw [if_neg q]
      by_cases q2 : 200 * P ≤ j ∧ j < 200 * P + i
      · rw [if_pos q2, if_pos (by omega)]
      · rw [if_neg q2, if_neg (by omega)]
theorem by_153 {w5 : MW} {E Q : MW → Prop} (hI5 : BND w5) (hn : (w5.1 127 11).toInt < 24) (a0 : -1 ≤ (w5.1 178 0).toInt) (a1 : (w5.1 178 0).toInt < 20) (b0 : -1 ≤ (w5.1 178 1).toInt) (b1 : (w5.1 178 1).toInt < 20) (hE : ∀ w7 : MW, BND w7 → FR [(168, none), (170, none), (171, none)] w5 w7 → (∀ j, w7.1 170 j = if j = (2 * (w5.1 127 11).toInt + 1).toNat then w5.1 178 1 else if j = (2 * (w5.1 127 11).toInt).toNat then w5.1 178 0 else w5.1 170 j) → (∀ j, w7.1 171 j = if j = (2 * (w5.1 127 11).toInt + 1).toNat then pt (incF (fun j => w5.1 168 j) (w5.1 178 0)) (w5.1 178 1) else if j = (2 * (w5.1 127 11).toInt).toNat then pt (fun j => w5.1 168 j) (w5.1 178 0) else w5.1 171 j) → ((fun j => w7.1 168 j) = incF (incF (fun j => w5.1 168 j) (w5.1 178 0)) (w5.1 178 1)) → E w7) : q_Mo_build_153 E Q (99999999999999999997 + 1 + 1 + 1) 0 w5 := by
  have z0 : (0 : Int32).toInt.toNat = 0 := by decide
  have z1 : ((0 : Int32) + (1 : Int32)).toInt.toNat = 1 := by decide
  have y1 : ((0 : Int32) + (1 : Int32)).toInt = 1 := by decide
  refine bd_153x hI5 (by decide) (by decide) hn (by rw [z0]; exact a0) (by rw [z0]; exact a1) (fun w6 hI6 hF6 h170 h171 h168 => ?_)
  rw [z0] at h168
  have w6_178 : ∀ j, w6.1 178 j = w5.1 178 j := fun j => (hF6 178 j rfl).1
  have w6_11 : w6.1 127 11 = w5.1 127 11 := (hF6 127 11 rfl).1
  refine bd_153x hI6 (by decide) (by decide) (by rw [w6_11]; exact hn) (by rw [z1, w6_178]; exact b0) (by rw [z1, w6_178]; exact b1) (fun w7 hI7 hF7 g170 g171 g168 => ?_)
  rw [q_Mo_build_153.eq_2]
  refine ⟨fun _ => hE w7 hI7 (hF6.tr hF7 rfl) (fun j => ?_) (fun j => ?_) ?_, fun c => absurd (by decide) c⟩
  · rw [g170, h170, w6_11, z1, z0, y1, i_0, w6_178]
    have e : 2 * (w5.1 127 11).toInt + 0 = 2 * (w5.1 127 11).toInt := by omega
    rw [e]
  · rw [g171, h171, w6_11, z1, z0, y1, i_0, w6_178, h168]
    have e : 2 * (w5.1 127 11).toInt + 0 = 2 * (w5.1 127 11).toInt := by omega
    rw [e]
  · rw [g168, z1, w6_178, h168]
theorem incF_v {f : Nat → Int32} {i : Int32} (t : Nat) (h0 : 0 ≤ (f t).toInt) (h1 : (f t).toInt ≤ 1000) : (incF f i t).toInt = (f t).toInt + (if i.toInt = (t : Int) then 1 else 0) := by
  unfold incF
  by_cases c : i.toInt < 0
  · rw [if_pos c, if_neg (show ¬ i.toInt = (t : Int) by omega)]
    omega
  · rw [if_neg c]
    show (if t = i.toInt.toNat then f t + (1 : Int32) else f t).toInt = _
    by_cases e : i.toInt = (t : Int)
    · rw [if_pos (show t = i.toInt.toNat by omega), if_pos e, ti_add2 (Eq.refl (f t).toInt) i_1 (by omega) (by omega)]
    · rw [if_neg (show ¬ t = i.toInt.toNat by omega), if_neg e]
      omega
theorem if01 (P : Prop) [Decidable P] : 0 ≤ (if P then (1 : Int) else 0) ∧ (if P then (1 : Int) else 0) ≤ 1 := by
  by_cases c : P
  · rw [if_pos c]
    omega
  · rw [if_neg c]
    omega
/-- what a pipe's line that is let in says -/
theorem ok_p {ls : List Ln} {x : Ln} (x3 : x.1 = 3) (ok : okL ls x) : (pip ls).length < 24 ∧ 1 ≤ x.2.2.2 ∧ x.2.2.2 ≤ 200 ∧ (-1 ≤ x.2.1 ∧ x.2.1 < (thg ls).length) ∧ (-1 ≤ x.2.2.1 ∧ x.2.2.1 < (thg ls).length) := by
  rcases ok with q | q | q | q
  · have := q.1
    omega
  · have := q.1
    omega
  · have := q.1
    omega
  · refine ⟨q.2.1, q.2.2.1, q.2.2.2.1, ?_, ?_⟩
    · rcases q.2.2.2.2.1 with k | k
      · omega
      · have k1 := k.1
        have k2 := k.2.1
        omega
    · rcases q.2.2.2.2.2 with k | k
      · omega
      · have k1 := k.1
        have k2 := k.2.1
        omega
theorem bx_p {v : MW} {ls : List Ln} {r : Int32} {x : Ln} {Q : MW → Prop} (hI : BND v) (h : PWs v ls) (hz : PlZ v ls) (r3 : r.toInt = 3) (x3 : x.1 = 3) (ea : (v.1 178 0).toInt = x.2.1) (eb : (v.1 178 1).toInt = x.2.2.1) (el : (v.1 178 2).toInt = x.2.2.2) (ok : okL ls x) (hQ : ∀ v', BND v' → FR lbp v v' → PWs v' (ls ++ [x]) → PlZ v' (ls ++ [x]) → Q v') : p_Mo_build v r Q := by
  have o := ok_p x3 ok
  have n1 := h.2.1
  have n0 := h.1
  have b4 := bd_127_4 hI
  have b11 := bd_127_11 hI
  refine Eq.mpr (p_Mo_build.eq_1 _ _ _) ⟨fun _ => ⟨⟨b11.1, by omega⟩, ?_⟩, fun c => absurd r3 c⟩
  have hI1 : BND (sI v 169 (v.1 127 11).toInt.toNat (v.1 178 2)) := wbd_169 hI _ (by omega) (by omega)
  have F1 : FR lbp v (sI v 169 (v.1 127 11).toInt.toNat (v.1 178 2)) := FR.I (FR.refl _ v) rfl
  have g169 : ∀ j, (sI v 169 (v.1 127 11).toInt.toNat (v.1 178 2)).1 169 j = if j = (v.1 127 11).toInt.toNat then v.1 178 2 else v.1 169 j := fun j => sI_if _ _ _ _ _
  have o1 : ∀ k j, k ≠ 169 → (sI v 169 (v.1 127 11).toInt.toNat (v.1 178 2)).1 k j = v.1 k j := fun k j hk => sI_oth _ _ _ _ _ _ hk
  generalize (sI v 169 (v.1 127 11).toInt.toNat (v.1 178 2)) = s at *
  have s11 : (s.1 127 11).toInt = ((pip ls).length : Int) := by rw [o1 127 11 (by decide)]; exact n1
  refine by_122 (i := 0) (P := (pip ls).length) s11 o.1 (fun w5 B5 F5 z5 => ?_) FU s hI1 (FR.refl _ s) (by omega) (fun j => by rw [if_neg (by omega)]) (fu_lt (by decide))
  have k11 : w5.1 127 11 = v.1 127 11 := ((F5 127 11 rfl).1).trans (o1 _ _ (by decide))
  have k178 : ∀ j, w5.1 178 j = v.1 178 j := fun j => ((F5 178 j rfl).1).trans (o1 _ _ (by decide))
  have k168 : (fun j => w5.1 168 j) = fun j => v.1 168 j := funext fun j => ((F5 168 j rfl).1).trans (o1 _ _ (by decide))
  have k170 : ∀ j, w5.1 170 j = v.1 170 j := fun j => ((F5 170 j rfl).1).trans (o1 _ _ (by decide))
  have k171 : ∀ j, w5.1 171 j = v.1 171 j := fun j => ((F5 171 j rfl).1).trans (o1 _ _ (by decide))
  refine by_153 B5 (by rw [k11]; omega) (by rw [k178]; omega) (by rw [k178]; omega) (by rw [k178]; omega) (by rw [k178]; omega) (fun w7 B7 F7 g170 g171 g168 => ?_)
  have e11 := ti_add2 (Eq.refl (v.1 127 11).toInt) i_1 (by omega) (by omega)
  have w11 : w7.1 127 11 = v.1 127 11 := ((F7 127 11 rfl).1).trans k11
  have Fv : FR lbp v (sI w7 127 11 ((w7.1 127 11) + (1 : Int32))) := FR.I ((F1.tr F5 rfl).tr F7 rfl) rfl
  have B8 : BND (sI w7 127 11 ((w7.1 127 11) + (1 : Int32))) := wbd_127_11 B7 (by rw [w11]; omega) (by rw [w11]; omega)
  have f11 : ((sI w7 127 11 ((w7.1 127 11) + (1 : Int32))).1 127 11).toInt = ((pip ls).length : Int) + 1 := by
    rw [sI_same, w11, e11, n1]
  have p0 : (v.1 127 11).toInt.toNat = (pip ls).length := by omega
  have p1 : (2 * (v.1 127 11).toInt).toNat = 2 * (pip ls).length := by omega
  have p2 : (2 * (v.1 127 11).toInt + 1).toNat = 2 * (pip ls).length + 1 := by omega
  have f169 : ∀ j, (sI w7 127 11 ((w7.1 127 11) + (1 : Int32))).1 169 j = if j = (pip ls).length then v.1 178 2 else v.1 169 j := fun j => by
    rw [sI_oth _ _ _ _ _ _ (by decide), (F7 169 j rfl).1, (F5 169 j rfl).1, g169, p0]
  have f170 : ∀ j, (sI w7 127 11 ((w7.1 127 11) + (1 : Int32))).1 170 j = if j = 2 * (pip ls).length + 1 then v.1 178 1 else if j = 2 * (pip ls).length then v.1 178 0 else v.1 170 j := fun j => by
    rw [sI_oth _ _ _ _ _ _ (by decide), g170, k11, k178, k178, k170, p1, p2]
  have f171 : ∀ j, (sI w7 127 11 ((w7.1 127 11) + (1 : Int32))).1 171 j = if j = 2 * (pip ls).length + 1 then pt (incF (fun j => v.1 168 j) (v.1 178 0)) (v.1 178 1) else if j = 2 * (pip ls).length then pt (fun j => v.1 168 j) (v.1 178 0) else v.1 171 j := fun j => by
    rw [sI_oth _ _ _ _ _ _ (by decide), g171, k11, k178, k178, k171, k168, p1, p2]
  have f168 : ∀ j, (sI w7 127 11 ((w7.1 127 11) + (1 : Int32))).1 168 j = incF (incF (fun j => v.1 168 j) (v.1 178 0)) (v.1 178 1) j := fun j => by
    rw [sI_oth _ _ _ _ _ _ (by decide), congrFun g168 j, k168, k178, k178]
  have f172 : ∀ j, (sI w7 127 11 ((w7.1 127 11) + (1 : Int32))).1 172 j = if 200 * (pip ls).length ≤ j ∧ j < 200 * (pip ls).length + 200 then 0 else v.1 172 j := fun j => by
    rw [sI_oth _ _ _ _ _ _ (by decide), (F7 172 j rfl).1, z5, o1 172 j (by decide)]
  have l1 : (pip (ls ++ [x])).length = (pip ls).length + 1 := by
    rw [pip_p ls x x3, List.length_append]
    rfl
  generalize (sI w7 127 11 ((w7.1 127 11) + (1 : Int32))) = W at *
  have v168 : ∀ t : Nat, t < (thg ls).length → 0 ≤ (v.1 168 t).toInt ∧ (v.1 168 t).toInt ≤ 48 := fun t ht => by
    have g := (hz.1 t ht).1
    have pb := prt_b ls (t : Int)
    omega
  refine hQ W B8 Fv ⟨?_, ?_, fun t y e => ?_, fun p y e => ?_⟩ ⟨fun t ht => ?_, fun p k hp hk => ?_, fun t ht => ?_⟩
  · rw [(Fv 127 4 rfl).1, thg_p ls x x3]
    exact h.1
  · rw [f11, l1]
    omega
  · rw [thg_p ls x x3] at e
    rw [(Fv 163 t rfl).1, (Fv 164 t rfl).1]
    exact h.2.2.1 t y e
  · have l2 := (List.getElem?_eq_some_iff.mp e).1
    rw [l1] at l2
    rw [pNo_p ls x x3 p _ (by omega), pNo_p ls x x3 p _ (by omega)]
    rw [pip_p ls x x3] at e
    have k1 : W.1 170 (2 * p) = if p = (pip ls).length then v.1 178 0 else v.1 170 (2 * p) := by
      rw [f170]
      by_cases q : p = (pip ls).length
      · rw [if_neg (by omega), if_pos (by omega), if_pos q]
      · rw [if_neg (by omega), if_neg (by omega), if_neg q]
    have k2 : W.1 170 (2 * p + 1) = if p = (pip ls).length then v.1 178 1 else v.1 170 (2 * p + 1) := by
      rw [f170]
      by_cases q : p = (pip ls).length
      · rw [if_pos (by omega), if_pos q]
      · rw [if_neg (by omega), if_neg (by omega), if_neg q]
    have k3 : W.1 171 (2 * p) = if p = (pip ls).length then pt (fun j => v.1 168 j) (v.1 178 0) else v.1 171 (2 * p) := by
      rw [f171]
      by_cases q : p = (pip ls).length
      · rw [if_neg (by omega), if_pos (by omega), if_pos q]
      · rw [if_neg (by omega), if_neg (by omega), if_neg q]
    have k4 : W.1 171 (2 * p + 1) = if p = (pip ls).length then pt (incF (fun j => v.1 168 j) (v.1 178 0)) (v.1 178 1) else v.1 171 (2 * p + 1) := by
      rw [f171]
      by_cases q : p = (pip ls).length
      · rw [if_pos (by omega), if_pos q]
      · rw [if_neg (by omega), if_neg (by omega), if_neg q]
    rw [f169, k1, k2, k3, k4]
    by_cases q : p = (pip ls).length
    · rw [q, List.getElem?_append_right (Nat.le_refl _), Nat.sub_self] at e
      have e2 : x = y := Option.some.inj e
      rw [if_pos q, if_pos q, if_pos q, if_pos q, if_pos q, ← e2, q, pNo_len, pNo_len]
      refine ⟨el, ea, eb, ?_, ?_⟩
      · unfold pt
        by_cases c : x.2.1 = -1
        · rw [if_pos c, if_pos (by omega)]
          exact i_m1
        · rw [if_neg c, if_neg (by omega), (hz.1 _ (by omega)).1]
          congr 1
          omega
      · unfold pt
        by_cases c : x.2.2.1 = -1
        · rw [if_pos c, if_pos (by omega)]
          exact i_m1
        · have g := v168 (v.1 178 1).toInt.toNat (by omega)
          rw [if_neg c, if_neg (by omega), incF_v _ g.1 (by omega), (hz.1 _ (by omega)).1]
          have e3 : (((v.1 178 1).toInt.toNat : Nat) : Int) = x.2.2.1 := by omega
          rw [e3, ea]
    · rw [List.getElem?_append_left (by omega)] at e
      rw [if_neg q, if_neg q, if_neg q, if_neg q, if_neg q]
      exact h.2.2.2 p y e
  · rw [thg_p ls x x3] at ht
    have g := v168 t ht
    have i1 := if01 ((v.1 178 0).toInt = (t : Int))
    have u1 := incF_v (f := fun j => v.1 168 j) (i := v.1 178 0) t g.1 (by omega)
    have u2 := incF_v (f := incF (fun j => v.1 168 j) (v.1 178 0)) (i := v.1 178 1) t (by omega) (by omega)
    rw [f168, u2, u1, prt_p ls x x3, (Fv 165 t rfl).1, (Fv 166 t rfl).1, (Fv 167 t rfl).1, ea, eb, (hz.1 t ht).1]
    exact ⟨rfl, (hz.1 t ht).2⟩
  · rw [l1] at hp
    rw [f172]
    by_cases q : p = (pip ls).length
    · rw [if_pos (by omega)]
    · rw [if_neg (by omega)]
      exact hz.2.1 p k (by omega) hk
  · rw [thg_p ls x x3] at ht
    rw [prt_p ls x x3, hz.2.2 t ht, if_neg (by omega), if_neg (by omega)]
    rfl
theorem bx {v : MW} {ls : List Ln} {r : Int32} {x : Ln} {Q : MW → Prop} (hI : BND v) (h : PWs v ls) (hz : PlZ v ls) (hx : LnW v r x) (ok : okL ls x) (hQ : ∀ v', BND v' → FR (lbt ++ lbp) v v' → PWs v' (ls ++ [x]) → PlZ v' (ls ++ [x]) → Q v') : p_Mo_build v r Q := by
  by_cases r3 : r.toInt = 3
  · have q : r.toInt = 3 ∧ x.1 = 3 ∧ x.2.1 = (v.1 178 0).toInt ∧ x.2.2.1 = (v.1 178 1).toInt ∧ x.2.2.2 = (v.1 178 2).toInt := by
      rcases hx with q | q | q | q
      · omega
      · omega
      · omega
      · exact q
    exact bx_p hI h hz r3 q.2.1 q.2.2.1.symm q.2.2.2.1.symm q.2.2.2.2.symm ok (fun v' B F P Z => hQ v' B ((FR.refl _ v).tr F rfl) P Z)
  · exact bx_t hI h hz hx r3 ok (fun v' B F P Z => hQ v' B ((FR.refl _ v).tr F rfl) P Z)
