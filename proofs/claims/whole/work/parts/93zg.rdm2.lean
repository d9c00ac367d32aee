/-! the reference reads a plant: its second pass, and all of it -/
theorem rq_90 {w0 z : MW} {ls' : List Ln} {E : MW → Prop} {Q : Int32 → MW → Prop} (hI0 : BND w0) (hE : ∀ v, BND v → FR lr2 z v → PWs v ls' → PlZ v ls' → E v) (n : Nat) : ∀ (v : MW) (ls : List Ln), BND v → FR lr2 z v → AG w0 v → PWs v ls → PlZ v ls → (∃ k, PlR (hf w0) (w0.1 127 22).toInt k (v.1 127 21).toInt ls (-1) ls') → (4020 - (v.1 127 21).toInt).toNat < n → q_Mo_readPlant_90 E Q n v := by
  induction n with
  | zero => intros; omega
  | succ n ih =>
    intro v ls hB hF hA hP hZ hk hm
    obtain ⟨k, hk⟩ := hk
    have b22 := bd_127_22 hI0
    have b21 := bd_127_21 hB
    have e22 : v.1 127 22 = w0.1 127 22 := hA.2
    rw [q_Mo_readPlant_90.eq_2]
    cases k with
    | zero => exact absurd hk (fun y => y)
    | succ k =>
      refine ⟨fun c => ?_, fun c => ?_⟩
      · rw [e22] at c
        rcases hk with ⟨_, _, e⟩ | ⟨d, _⟩ | ⟨d, _⟩
        · exact hE v hB hF (by rw [e]; exact hP) (by rw [e]; exact hZ)
        · omega
        · omega
      rw [e22] at c
      rcases hk with ⟨d, _⟩ | ⟨_, _, d, _⟩ | ⟨_, d1, ok, hk⟩
      · omega
      · have := lnS_le (hf w0) (v.1 127 21).toInt
        omega
      refine pc_planLine hA (h_Mo_planLine (Q := fun r w' => BND w' ∧ FR l_Mo_planLine v w' ∧ (-1) ≤ r.toInt ∧ r.toInt ≤ 3 ∧ (v.1 127 21).toInt ≤ (w'.1 127 21).toInt ∧ (r.toInt < 0 ∨ (w'.1 127 21).toInt < (w'.1 127 22).toInt) ∧ (r.toInt < 0 ∨ r.toInt = 1 ∨ r.toInt = 3 ∨ 0 ≤ (w'.1 178 0).toInt) ∧ (¬ r.toInt = 3 ∨ (-1 ≤ (w'.1 178 0).toInt ∧ -1 ≤ (w'.1 178 1).toInt ∧ 0 ≤ (w'.1 178 2).toInt))) hB (fun r w' a1 a2 a3 a4 a5 a6 a7 a8 => ⟨a1, a2, a3, a4, a5, a6, a7, a8⟩)) (fun r w2 hp hA2 hPL => ?_)
      obtain ⟨hI2, hF2, r0, r3, pl, lt, wa, wb⟩ := hp
      have b21' := bd_127_21 hI2
      have L := pl_lnS (t := w0) (by omega) (by omega) (by omega) hPL
      have d : ¬ r.toInt = -1 := fun q => d1 (lne_m L.1 q)
      have W := lnw_of (w := w2) L.1 (fun j => rfl) d
      have t22 : w2.1 127 22 = w0.1 127 22 := hA2.2
      have lt2 := lt.resolve_left (by omega)
      rw [t22] at lt2
      have e21 := ti_add2 (Eq.refl (w2.1 127 21).toInt) i_1 (by omega) (by omega)
      refine bx hI2 (pws_fr hP hF2 rfl) (plz_fr hZ hF2 rfl) W.1 ok (fun v' B' F' P' Z' => ?_)
      have p4 : v'.1 127 21 = w2.1 127 21 := (F' 127 21 rfl).1
      have F5 : FR [(127, some 21)] v' (sI v' 127 21 ((v'.1 127 21) + (1 : Int32))) := FR.I (FR.refl _ v') rfl
      refine ih _ (ls ++ [lnX (lnS (hf w0) (v.1 127 21).toInt)]) (wbd_127_21 B' (by rw [p4]; omega) (by rw [p4]; omega)) (((hF.tr hF2 rfl).tr F' rfl).tr F5 rfl) (ag_21 ⟨fun j => ((F' 128 j rfl).1).trans (hA2.1 j), ((F' 127 22 rfl).1).trans hA2.2⟩) (pws_fr P' F5 rfl) (plz_fr Z' F5 rfl) ⟨k, ?_⟩ (by rw [sI_same, p4]; omega)
      rw [sI_same, p4, e21, ← L.1.1]
      exact hk
theorem fg_2 {z : MW} {x : Int32} {X : Nat} {E Q : MW → Prop} (hx : x.toInt = (X : Int)) (h44 : X < 44) (hE : ∀ w, BND w → FR [(174, none)] z w → (∀ j, w.1 174 j = if 6 * X ≤ j ∧ j < 6 * X + 6 then -1 else z.1 174 j) → E w) (n : Nat) : ∀ (i : Nat) (w : MW), BND w → FR [(174, none)] z w → i ≤ 6 → (∀ j, w.1 174 j = if 6 * X ≤ j ∧ j < 6 * X + i then -1 else z.1 174 j) → 6 - i < n → q_Mo_forget_2 x E Q n (nI i) w := by
  induction n with
  | zero => intros; omega
  | succ n ih =>
    intro i w hB hF hi hj hm
    have ti : (nI i).toInt = (i : Int) := nI_toInt (by omega)
    rw [q_Mo_forget_2.eq_2]
    refine ⟨fun c => ?_, fun c => ?_⟩
    · have e : i = 6 := by omega
      subst e
      exact hE w hB hF hj
    have m1 := ti_mul2 (by decide : ((6 : Int32)).toInt = 6) hx (by omega) (by omega)
    have m2 := ti_add2 m1 ti (by omega) (by omega)
    have xx : (((6 : Int32) * x) + nI i).toInt.toNat = 6 * X + i := by omega
    refine ⟨⟨by omega, by omega⟩, ?_⟩
    rw [nI_1, xx]
    refine ih (i + 1) _ (wbd_174 hB _) (FR.I hF rfl) (by omega) (fun j => ?_) (by omega)
    rw [sI_if, hj j]
    by_cases q : j = 6 * X + i
    · rw [if_pos q, if_pos (by omega)]
    · rw [if_neg q]
      by_cases q2 : 6 * X ≤ j ∧ j < 6 * X + i
      · rw [if_pos q2, if_pos (by omega)]
      · rw [if_neg q2, if_neg (by omega)]
theorem fg_x {w : MW} {x : Int32} {X : Nat} {Q : MW → Prop} (hI : BND w) (hx : x.toInt = (X : Int)) (h44 : X < 44) (hQ : ∀ w', BND w' → FR [(174, none)] w w' → (∀ j, w'.1 174 j = if 6 * X ≤ j ∧ j < 6 * X + 6 then -1 else w.1 174 j) → Q w') : p_Mo_forget w x Q :=
  Eq.mpr (p_Mo_forget.eq_1 _ _ _) (fg_2 (i := 0) hx h44 hQ FU w hI (FR.refl _ w) (by omega) (fun j => by rw [if_neg (by omega)]) (fu_lt (by decide)))
theorem rq_126 {s : MW} {E : MW → Prop} {Q : Int32 → MW → Prop} (hE : ∀ v, BND v → FR [(173, none), (174, none)] s v → (∀ j, j < 44 → v.1 173 j = 0) → (∀ j, j < 264 → v.1 174 j = -1) → E v) (n : Nat) : ∀ (i : Nat) (v : MW), BND v → FR [(173, none), (174, none)] s v → i ≤ 44 → (∀ j, j < i → v.1 173 j = 0) → (∀ j, j < 6 * i → v.1 174 j = -1) → 44 - i < n → q_Mo_readPlant_126 E Q n (nI i) v := by
  induction n with
  | zero => intros; omega
  | succ n ih =>
    intro i v hB hF hi h3 h4 hm
    have ti : (nI i).toInt = (i : Int) := nI_toInt (by omega)
    have tn : (nI i).toInt.toNat = i := by omega
    rw [q_Mo_readPlant_126.eq_2]
    refine ⟨fun c => ?_, fun c => ⟨⟨by omega, by omega⟩, ?_⟩⟩
    · have e : i = 44 := by omega
      subst e
      exact hE v hB hF h3 h4
    have F1 : FR [(173, none), (174, none)] s (sI v 173 (nI i).toInt.toNat 0) := FR.I hF rfl
    refine fg_x (X := i) (wbd_173 hB _ (by decide) (by decide)) ti (by omega) (fun w' B' F' g => ?_)
    rw [nI_1]
    refine ih (i + 1) w' B' (F1.tr F' rfl) (by omega) (fun j hj => ?_) (fun j hj => ?_) (by omega)
    · rw [(F' 173 j rfl).1, sI_if, tn]
      by_cases q : j = i
      · rw [if_pos q]
      · rw [if_neg q]
        exact h3 j (by omega)
    · rw [g j]
      by_cases q : 6 * i ≤ j ∧ j < 6 * i + 6
      · rw [if_pos q]
      · rw [if_neg q, sI_oth _ _ _ _ _ _ (by decide)]
        exact h4 j (by omega)
/-- behind a plant that was taken -/
def PTk (w : MW) (ls : List Ln) : Prop := PWs w ls ∧ PlZ w ls ∧ w.1 127 26 = 0 ∧ w.1 127 59 = 4 ∧ (∀ j, j < 44 → w.1 173 j = 0) ∧ (∀ j, j < 264 → w.1 174 j = -1)
theorem rm_read {w : MW} {Q : Int32 → MW → Prop} (hI : BND w) (hQ : ∀ (r : Int32) (w' : MW) (r' : Int) ls', BND w' → FR l_Mo_readPlant w w' → (∃ k, PlR (hf w) (w.1 127 22).toInt k 0 [] r' ls') → ((0 ≤ r' ∧ r.toInt = -3 - r' ∧ FR lr1 w w') ∨ (r' = -1 ∧ r.toInt = ((thg ls').length : Int) ∧ PTk w' ls')) → Q r w') : p_Mo_readPlant w Q := by
  refine Eq.mpr (p_Mo_readPlant.eq_1 _ _) ?_
  have hI1 : BND (sI (sI (sI w 127 21 0) 127 85 0) 127 86 0) := wbd_127_86 (wbd_127_85 (wbd_127_21 hI (by decide) (by decide)) (by decide) (by decide)) (by decide) (by decide)
  have hF1 : FR lr1 w (sI (sI (sI w 127 21 0) 127 85 0) 127 86 0) := FR.I (FR.I (FR.I (FR.refl _ w) rfl) rfl) rfl
  have a21 : (sI (sI (sI w 127 21 0) 127 85 0) 127 86 0).1 127 21 = 0 := rfl
  have a85 : (sI (sI (sI w 127 21 0) 127 85 0) 127 86 0).1 127 85 = 0 := rfl
  have a86 : (sI (sI (sI w 127 21 0) 127 85 0) 127 86 0).1 127 86 = 0 := rfl
  generalize (sI (sI (sI w 127 21 0) 127 85 0) 127 86 0) = w1 at *
  have eh : hf w1 = hf w := hf_ag ⟨fun j => (hF1 128 j rfl).1, (hF1 127 22 rfl).1⟩
  have en : w1.1 127 22 = w.1 127 22 := (hF1 127 22 rfl).1
  have P1 : PN w1 [] := ⟨by rw [a85]; exact i_0, by rw [a86]; exact i_0, fun t y q => (by cases q), fun t _ => rfl⟩
  refine rq_15 (w0 := w1) hI1 (fun w6 ls6 B6 F6 K6 => ?_) (fun r w' r' ls' B' F' r0 er K => ?_) FU w1 [] hI1 (FR.refl _ w1) P1 (fun r ls' hk => by rw [a21, i_0] at hk; exact hk) (fu_lt (by rw [a21]; decide))
  · have hI7 : BND (sI (sI (sI (sI (sI w6 127 4 0) 127 11 0) 127 26 0) 127 59 4) 127 21 0) := wbd_127_21 (wbd_127_59 (wbd_127_26 (wbd_127_11 (wbd_127_4 B6 (by decide) (by decide)) (by decide) (by decide)) (by decide) (by decide)) (by decide) (by decide)) (by decide) (by decide)
    have hF7 : FR l_Mo_readPlant w (sI (sI (sI (sI (sI w6 127 4 0) 127 11 0) 127 26 0) 127 59 4) 127 21 0) := FR.I (FR.I (FR.I (FR.I (FR.I (((FR.refl _ w).tr hF1 rfl).tr F6 rfl) rfl) rfl) rfl) rfl) rfl
    have c4 : (sI (sI (sI (sI (sI w6 127 4 0) 127 11 0) 127 26 0) 127 59 4) 127 21 0).1 127 4 = 0 := rfl
    have c11 : (sI (sI (sI (sI (sI w6 127 4 0) 127 11 0) 127 26 0) 127 59 4) 127 21 0).1 127 11 = 0 := rfl
    have c26 : (sI (sI (sI (sI (sI w6 127 4 0) 127 11 0) 127 26 0) 127 59 4) 127 21 0).1 127 26 = 0 := rfl
    have c59 : (sI (sI (sI (sI (sI w6 127 4 0) 127 11 0) 127 26 0) 127 59 4) 127 21 0).1 127 59 = 4 := rfl
    have c21 : (sI (sI (sI (sI (sI w6 127 4 0) 127 11 0) 127 26 0) 127 59 4) 127 21 0).1 127 21 = 0 := rfl
    have c22 : (sI (sI (sI (sI (sI w6 127 4 0) 127 11 0) 127 26 0) 127 59 4) 127 21 0).1 127 22 = w6.1 127 22 := rfl
    have c128 : ∀ j, (sI (sI (sI (sI (sI w6 127 4 0) 127 11 0) 127 26 0) 127 59 4) 127 21 0).1 128 j = w6.1 128 j := fun _ => rfl
    generalize (sI (sI (sI (sI (sI w6 127 4 0) 127 11 0) 127 26 0) 127 59 4) 127 21 0) = w7 at *
    have A7 : AG w1 w7 := ⟨fun j => (c128 j).trans (F6 128 j rfl).1, c22.trans (F6 127 22 rfl).1⟩
    have P7 : PWs w7 [] := ⟨by rw [c4]; exact i_0, by rw [c11]; exact i_0, fun t y q => (by cases q), fun t y q => (by cases q)⟩
    have Z7 : PlZ w7 [] := ⟨fun t q => absurd q (Nat.not_lt_zero t), fun p k q => absurd q (Nat.not_lt_zero p), fun t _ => rfl⟩
    refine rq_90 (w0 := w1) (z := w7) (ls' := ls6) hI1 (fun w10 B10 F10 P10 Z10 => ?_) FU w7 [] hI7 (FR.refl _ w7) A7 P7 Z7 (by rw [c21, i_0]; exact K6) (fu_lt (by rw [c21]; decide))
    refine rq_126 (i := 0) (s := w10) (fun w14 B14 F14 z3 z4 => ?_) FU w10 B10 (FR.refl _ w10) (by omega) (fun j q => absurd q (Nat.not_lt_zero j)) (fun j q => by omega) (fu_lt (by decide))
    have P14 := pws_fr P10 F14 rfl
    rw [eh, en] at K6
    exact hQ _ w14 (-1) ls6 B14 ((hF7.tr F10 rfl).tr F14 rfl) K6 (Or.inr ⟨rfl, P14.1, P14, plz_fr Z10 F14 rfl, ((F14 127 26 rfl).1.trans (F10 127 26 rfl).1).trans c26, ((F14 127 59 rfl).1.trans (F10 127 59 rfl).1).trans c59, z3, z4⟩)
  · rw [eh, en] at K
    exact hQ r w' r' ls' B' ((FR.refl _ w).tr (hF1.tr F' rfl) rfl) K (Or.inl ⟨r0, er, hF1.tr F' rfl⟩)
