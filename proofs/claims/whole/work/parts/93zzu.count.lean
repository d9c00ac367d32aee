/-! a second of the rows, on both sides -/
def ctC (v : Bool) (c : Int) : Int := if v = true then (if c + 1 ≤ 1000000 then c + 1 else 1000000) else 0
def ctL (v lt : Bool) (le c l : Int) : Int := if v = true ∧ lt = true ∧ le ≤ c then 1 else l
def ctP (p : Int) : Int := if 0 < p then p - 1 else 0
/-- a row's second; a, b, c the cells of counts, latched, passes -/
def CsR (a b c : Nat) (s : Int → Bool) (w w' : MW) (r : Nat) (x : Rw) : Prop := (w'.1 a r).toInt = ctC (vS s x.2.1) (w.1 a r).toInt ∧ (w'.1 b r).toInt = ctL (vS s x.2.1) x.2.2.2 x.2.2.1 (ctC (vS s x.2.1) (w.1 a r).toInt) (w.1 b r).toInt ∧ (w'.1 c r).toInt = ctP (w.1 c r).toInt
def CsE (a b c : Nat) (s : Int → Bool) (rs : List Rw) (w w' : MW) : Prop := ∀ (r : Nat) (x : Rw), rs[r]? = some x → CsR a b c s w w' r x
def KP3 (a b c i : Nat) (w w' : MW) : Prop := ∀ k j : Nat, (k = a ∨ k = b ∨ k = c) → ¬ j = i → w'.1 k j = w.1 k j
theorem csr_k {a b c i r : Nat} {s : Int → Bool} {w0 w w' : MW} {x : Rw} (h : CsR a b c s w0 w r x) (K : KP3 a b c i w w') (hr : ¬ r = i) : CsR a b c s w0 w' r x := by
  unfold CsR at h ⊢
  rw [K a r (Or.inl rfl) hr, K b r (Or.inr (Or.inl rfl)) hr, K c r (Or.inr (Or.inr rfl)) hr]
  exact h
theorem vf_0 {v : Bool} {y : Int32} (h : y.toInt = if v = true then 1 else 0) (z : y.toInt = 0) : v = false := by
  cases v with
  | false => rfl
  | true => exact absurd (h.symm.trans z) (by decide)
theorem vt_1 {v : Bool} {y : Int32} (h : y.toInt = if v = true then 1 else 0) (z : ¬ y.toInt = 0) : v = true := by
  cases v with
  | true => rfl
  | false => exact absurd h z
theorem ctC_0 {v : Bool} {c : Int} (h : v = false) : ctC v c = 0 := by
  rw [h]
  rfl
theorem ctC_1 {v : Bool} {c : Int} (h : v = true) (hc : c + 1 ≤ 1000000) : ctC v c = c + 1 := by
  unfold ctC
  rw [if_pos h, if_pos hc]
theorem ctC_2 {v : Bool} {c : Int} (h : v = true) (hc : ¬ c + 1 ≤ 1000000) : ctC v c = 1000000 := by
  unfold ctC
  rw [if_pos h, if_neg hc]
def lcc : Pl := [(49, none), (50, none), (51, none)]
theorem cc_78 {w : MW} {i : Nat} {A : Int32 → MW → Prop} {E Q : MW → Prop} (i4 : i < 40) (hB : BND w) (hA : ∀ w', BND w' → FR lcc w w' → (∀ k j : Nat, ¬ (k = 51 ∧ j = i) → w'.1 k j = w.1 k j) → (w'.1 51 i).toInt = ctP (w.1 51 i).toInt → A (nI (i + 1)) w') : q_Ro_countSecond_78 (nI i) w A E Q := by
  have ti : (nI i).toInt = (i : Int) := nI_toInt (by omega)
  have tn : (nI i).toInt.toNat = i := by omega
  have bi : 0 ≤ (nI i).toInt ∧ (nI i).toInt < 40 := by omega
  have bp := bd_51 hB i
  refine Eq.mpr (q_Ro_countSecond_78.eq_1 _ _ _ _ _) ⟨bi, ?_⟩
  rw [tn, nI_1]
  refine ⟨fun c => hA w hB (FR.refl _ w) (fun _ _ _ => rfl) ?_, fun c => ⟨bi, bi, hA _ (wbd_51 hB i (by rw [ti_sub2 (Eq.refl _) i_1 (by omega) (by omega)]; omega) (by rw [ti_sub2 (Eq.refl _) i_1 (by omega) (by omega)]; omega)) (FR.I (FR.refl _ w) rfl) (fun k j h => ?_) ?_⟩⟩
  · unfold ctP
    rw [if_neg (by omega)]
    omega
  · rw [sI_at]
    exact if_neg h
  · rw [sI_same, ti_sub2 (Eq.refl _) i_1 (by omega) (by omega)]
    unfold ctP
    rw [if_pos (by omega)]
theorem cc_42 {w : MW} {i : Nat} {x : Rw} {v : Bool} {r2 c' : Int32} {A : Int32 → MW → Prop} {E Q : MW → Prop} (i4 : i < 40) (hB : BND w) (hv : r2.toInt = if v = true then 1 else 0) (h53 : (w.1 53 i).toInt = x.2.2.1) (h54 : (w.1 54 i).toInt = if x.2.2.2 = true then 1 else 0) (c0 : 0 ≤ c'.toInt) (c1 : c'.toInt ≤ 1000000) (hA : ∀ w', BND w' → FR lcc w w' → KP3 49 50 51 i w w' → (w'.1 49 i).toInt = c'.toInt → (w'.1 50 i).toInt = ctL v x.2.2.2 x.2.2.1 c'.toInt (w.1 50 i).toInt → (w'.1 51 i).toInt = ctP (w.1 51 i).toInt → A (nI (i + 1)) w') : q_Ro_countSecond_42 (nI i) r2 c' (nI i) w A E Q := by
  have ti : (nI i).toInt = (i : Int) := nI_toInt (by omega)
  have tn : (nI i).toInt.toNat = i := by omega
  have bi : 0 ≤ (nI i).toInt ∧ (nI i).toInt < 40 := by omega
  have F1 : FR lcc w (sI w 49 i c') := FR.I (FR.refl _ w) rfl
  have F2 : FR lcc w (sI (sI w 49 i c') 50 i 1) := FR.I F1 rfl
  have B1 : BND (sI w 49 i c') := wbd_49 hB i c0 c1
  have B2 : BND (sI (sI w 49 i c') 50 i 1) := wbd_50 B1 i (by decide) (by decide)
  have go : ¬ (v = true ∧ x.2.2.2 = true ∧ x.2.2.1 ≤ c'.toInt) → q_Ro_countSecond_78 (nI i) (sI w 49 i c') A E Q := fun n => by
    have e51 : (sI w 49 i c').1 51 i = w.1 51 i := sI_oth _ _ _ _ _ _ (by decide)
    refine cc_78 i4 B1 (fun w' B' F K e => hA w' B' (F1.tr F rfl) (fun k j hk hj => ?_) ?_ ?_ (by rw [e, e51]))
    · rw [K k j (fun z => hj z.2), sI_at, if_neg (fun z => hj z.2)]
    · rw [K 49 i (fun z => absurd z.1 (by decide)), sI_same]
    · rw [K 50 i (fun z => absurd z.1 (by decide)), sI_oth _ _ _ _ _ _ (by decide)]
      unfold ctL
      rw [if_neg n]
  have go1 : (v = true ∧ x.2.2.2 = true ∧ x.2.2.1 ≤ c'.toInt) → q_Ro_countSecond_78 (nI i) (sI (sI w 49 i c') 50 i 1) A E Q := fun n => by
    have e51 : (sI (sI w 49 i c') 50 i 1).1 51 i = w.1 51 i := by rw [sI_oth _ _ _ _ _ _ (by decide), sI_oth _ _ _ _ _ _ (by decide)]
    refine cc_78 i4 B2 (fun w' B' F K e => hA w' B' (F2.tr F rfl) (fun k j hk hj => ?_) ?_ ?_ (by rw [e, e51]))
    · rw [K k j (fun z => hj z.2), sI_at, if_neg (fun z => hj z.2), sI_at, if_neg (fun z => hj z.2)]
    · rw [K 49 i (fun z => absurd z.1 (by decide)), sI_oth _ _ _ _ _ _ (by decide), sI_same]
    · rw [K 50 i (fun z => absurd z.1 (by decide)), sI_same]
      unfold ctL
      rw [if_pos n]
      exact i_1
  refine Eq.mpr (q_Ro_countSecond_42.eq_1 _ _ _ _ _ _ _ _) ?_
  rw [tn, nar1z, sI_same]
  refine ⟨bi, bi, fun a => go (fun z => ?_), fun a => ⟨fun b => go (fun z => ?_), fun b => ⟨bi, bi, fun d => go (fun z => ?_), fun d => ⟨bi, go1 ⟨vt_1 hv b, vt_1 h54 a, by omega⟩⟩⟩⟩⟩
  · rw [h54, if_pos z.2.1] at a
    exact absurd a (by decide)
  · rw [hv, if_pos z.1] at b
    exact absurd b (by decide)
  · have := z.2.2
    omega
theorem cc_2 {w0 : MW} {rs : List Rw} {E Q : MW → Prop} (hS : RsC w0 rs) (hg : GrS rs) (hE : ∀ w', BND w' → FR lcc w0 w' → CsE 49 50 51 (sbt (w0.1 48 1)) rs w0 w' → E w') (n : Nat) : ∀ (i : Nat) (w : MW), i ≤ rs.length → BND w → FR lcc w0 w → (∀ (r : Nat) (x : Rw), r < i → rs[r]? = some x → CsR 49 50 51 (sbt (w0.1 48 1)) w0 w r x) → (∀ k j : Nat, (k = 49 ∨ k = 50 ∨ k = 51) → i ≤ j → w.1 k j = w0.1 k j) → rs.length - i < n → q_Ro_countSecond_2 E Q n (nI i) w := by
  induction n with
  | zero => intros; omega
  | succ n ih =>
    intro i w hi hB hF hD hK hm
    have h4 := hg.1
    have ti : (nI i).toInt = (i : Int) := nI_toInt (by omega)
    have tn : (nI i).toInt.toNat = i := by omega
    have S := rsc_fr hS hF rfl
    have e1 : w.1 48 1 = w0.1 48 1 := (hF 48 1 rfl).1
    have k49 := hK 49 i (Or.inl rfl) (Nat.le_refl _)
    have k50 := hK 50 i (Or.inr (Or.inl rfl)) (Nat.le_refl _)
    have k51 := hK 51 i (Or.inr (Or.inr rfl)) (Nat.le_refl _)
    rw [q_Ro_countSecond_2.eq_2]
    refine ⟨fun c => hE w hB hF (fun r x hx => hD r x (by have := rs_lt hx; have := S.1; omega) hx), fun c => ?_⟩
    have il : i < rs.length := by have := S.1; omega
    obtain ⟨x, hx⟩ : ∃ x, rs[i]? = some x := ⟨_, List.getElem?_eq_getElem il⟩
    have t := S.2.2 i x hx
    have bi : 0 ≤ (nI i).toInt ∧ (nI i).toInt < 40 := by omega
    have c49 := bd_49 hB i
    have nx : ∀ c' : Int32, c'.toInt = ctC (vS (sbt (w0.1 48 1)) x.2.1) (w.1 49 i).toInt → ∀ w', BND w' → FR lcc w w' → KP3 49 50 51 i w w' → (w'.1 49 i).toInt = c'.toInt → (w'.1 50 i).toInt = ctL (vS (sbt (w0.1 48 1)) x.2.1) x.2.2.2 x.2.2.1 c'.toInt (w.1 50 i).toInt → (w'.1 51 i).toInt = ctP (w.1 51 i).toInt → q_Ro_countSecond_2 E Q n (nI (i + 1)) w' := fun c' ec w' B' F K a b d => by
      refine ih (i + 1) w' il B' (hF.tr F rfl) (fun r y hr hy => ?_) (fun k j hk hj => (K k j hk (by omega)).trans (hK k j hk (by omega))) (by omega)
      by_cases q : r = i
      · rw [q] at hy ⊢
        have ey : y = x := Option.some.inj (hy.symm.trans hx)
        rw [ey]
        unfold CsR
        rw [← k49, ← k50, ← k51, ← ec]
        exact ⟨a, b, d⟩
      · exact csr_k (hD r y (by omega) hy) K q
    refine rs_isOn S hg hx ti (fun y hy => ⟨fun z => ?_, fun z => ⟨bi, Eq.mpr (p_Ma_min.eq_1 _ _ _ _) ⟨fun c => ?_, fun c => ?_⟩⟩⟩)
    · rw [e1] at hy
      exact cc_42 (by omega) hB hy t.2.1 t.2.2.1 (by decide) (by decide) (nx 0 (by rw [ctC_0 (vf_0 hy z)]; exact i_0))
    · rw [e1] at hy
      rw [tn, ti_add2 (Eq.refl _) i_1 (by omega) (by omega)] at c
      have em : (1000000 : Int32).toInt = 1000000 := by decide
      exact cc_42 (by omega) hB hy t.2.1 t.2.2.1 (by decide) (by decide) (nx _ (by rw [ctC_2 (vt_1 hy z) (by omega)]; exact em))
    · rw [e1] at hy
      rw [tn, ti_add2 (Eq.refl _) i_1 (by omega) (by omega)] at c
      have em : (1000000 : Int32).toInt = 1000000 := by decide
      rw [tn]
      have es := ti_add2 (Eq.refl (w.1 49 i).toInt) i_1 (by omega) (by omega)
      exact cc_42 (by omega) hB hy t.2.1 t.2.2.1 (by omega) (by omega) (nx _ (by rw [ctC_1 (vt_1 hy z) (by omega)]; exact ti_add2 (Eq.refl _) i_1 (by omega) (by omega)))
/-- the class's second of its rows -/
theorem cc_count {w : MW} {rs : List Rw} {Q : MW → Prop} (hB : BND w) (hS : RsC w rs) (hg : GrS rs) (hQ : ∀ w', BND w' → FR lcc w w' → CsE 49 50 51 (sbt (w.1 48 1)) rs w w' → Q w') : p_Ro_countSecond w Q :=
  Eq.mpr (p_Ro_countSecond.eq_1 _ _) (cc_2 hS hg hQ FU 0 w (Nat.zero_le _) hB (FR.refl _ w) (fun r x h => absurd h (Nat.not_lt_zero _)) (fun _ _ _ _ => rfl) (Nat.lt_of_le_of_lt (show _ ≤ 40 by have := hg.1; omega) (fu_lt (by decide))))
def lcm : Pl := [(160, none), (161, none), (162, none)]
theorem cm_128 {w : MW} {i : Nat} {s0 s1 : Int32} {A : Int32 → MW → Prop} {E : MW → Prop} {Q : Int32 → MW → Prop} (i4 : i < 40) (hB : BND w) (h0 : s0 = 0 ∨ s0 = 1) (h1 : s1 = 0 ∨ s1 = 1) (hA : ∀ w', BND w' → FR lcm w w' → KP3 160 161 162 i w w' → w'.1 160 i = w.1 160 i → w'.1 161 i = (if s0 = 1 then 1 else s1) → (w'.1 162 i).toInt = ctP (w.1 162 i).toInt → A (nI (i + 1)) w') : q_Mr_tick_128 1 (nI i) s0 s1 (nI i) w A E Q := by
  have ti : (nI i).toInt = (i : Int) := nI_toInt (by omega)
  have tn : (nI i).toInt.toNat = i := by omega
  have bi : 0 ≤ (nI i).toInt ∧ (nI i).toInt < 40 := by omega
  have bp := bd_162 hB i
  have en : vp_nar .boolean (s1 ||| s0) = (if s0 = 1 then 1 else s1) := by
    rcases h1 with rfl | rfl <;> rcases h0 with rfl | rfl <;> decide
  have eb : 0 ≤ (if s0 = 1 then 1 else s1).toInt ∧ (if s0 = 1 then 1 else s1).toInt ≤ 1 := by
    rcases h1 with rfl | rfl <;> rcases h0 with rfl | rfl <;> decide
  have nx : ∀ p' : Int32, 0 ≤ p'.toInt → p'.toInt ≤ 3600 → p'.toInt = ctP (w.1 162 i).toInt → A (nI (i + 1)) (sI (sI w 161 i (if s0 = 1 then 1 else s1)) 162 i p') := fun p' q0 q1 ep => by
    refine hA _ (wbd_162 (wbd_161 hB i eb.1 eb.2) i q0 q1) (FR.I (FR.I (FR.refl _ w) rfl) rfl) (fun k j hk hj => ?_) ?_ ?_ (by rw [sI_same]; exact ep)
    · rw [sI_at, if_neg (fun z => hj z.2), sI_at, if_neg (fun z => hj z.2)]
    · rw [sI_oth _ _ _ _ _ _ (by decide), sI_oth _ _ _ _ _ _ (by decide)]
    · rw [sI_oth _ _ _ _ _ _ (by decide), sI_same]
  refine Eq.mpr (q_Mr_tick_128.eq_1 _ _ _ _ _ _ _ _ _) ⟨bi, bi, ?_⟩
  rw [tn, nI_1, en]
  refine ⟨fun c => ⟨bi, nx 0 (by decide) (by decide) ?_⟩, fun c => ⟨bi, bi, ?_⟩⟩
  · rw [i_1] at c
    unfold ctP
    by_cases q : 0 < (w.1 162 i).toInt
    · rw [if_pos q, i_0]
      omega
    · rw [if_neg q, i_0]
  · rw [i_1] at c
    have e := ti_sub2 (Eq.refl (w.1 162 i).toInt) i_1 (by omega) (by omega)
    refine nx _ (by omega) (by omega) ?_
    unfold ctP
    rw [if_pos (by omega), e]
theorem cm_71 {w : MW} {g i : Nat} {x : Rw} {v : Bool} {r5 c' : Int32} {A : Int32 → MW → Prop} {E : MW → Prop} {Q : Int32 → MW → Prop} (i4 : i < 40) (hB : BND w) (g1 : g ≤ 1) (h12 : (w.1 147 12).toInt = (g : Int)) (hv : r5.toInt = if v = true then 1 else 0) (h57 : (w.1 157 (40 * g + i)).toInt = x.2.2.1) (h58 : (w.1 158 (40 * g + i)).toInt = if x.2.2.2 = true then 1 else 0) (c0 : 0 ≤ c'.toInt) (c1 : c'.toInt ≤ 1000000) (hA : ∀ w', BND w' → FR lcm w w' → KP3 160 161 162 i w w' → (w'.1 160 i).toInt = c'.toInt → (w'.1 161 i).toInt = ctL v x.2.2.2 x.2.2.1 c'.toInt (w.1 161 i).toInt → (w'.1 162 i).toInt = ctP (w.1 162 i).toInt → A (nI (i + 1)) w') : q_Mr_tick_71 1 (nI i) r5 c' (nI i) w A E Q := by
  have ti : (nI i).toInt = (i : Int) := nI_toInt (by omega)
  have tn : (nI i).toInt.toNat = i := by omega
  have bi : 0 ≤ (nI i).toInt ∧ (nI i).toInt < 40 := by omega
  have e40 := ti_mul2 (show (40 : Int32).toInt = 40 by decide) h12 (by omega) (by omega)
  have e := ti_add2 e40 ti (by omega) (by omega)
  have en : (((40 : Int32) * (w.1 147 12)) + nI i).toInt.toNat = 40 * g + i := by rw [e]; omega
  have b80 : 0 ≤ (((40 : Int32) * (w.1 147 12)) + nI i).toInt ∧ (((40 : Int32) * (w.1 147 12)) + nI i).toInt < 80 := by rw [e]; omega
  have B1 : BND (sI w 160 i c') := wbd_160 hB i c0 c1
  have F1 : FR lcm w (sI w 160 i c') := FR.I (FR.refl _ w) rfl
  have b161 := bd_161 hB i
  have h1 : w.1 161 i = 0 ∨ w.1 161 i = 1 := by
    by_cases q : (w.1 161 i).toInt = 0
    · exact Or.inl (ti_inj (by rw [q, i_0]))
    · exact Or.inr (ti_inj (by rw [i_1]; omega))
  have e162 : (sI w 160 i c').1 162 i = w.1 162 i := sI_oth _ _ _ _ _ _ (by decide)
  have go : ∀ s0 : Int32, (s0 = 0 ∨ s0 = 1) → (s0 = 1 ↔ (v = true ∧ x.2.2.2 = true ∧ x.2.2.1 ≤ c'.toInt)) → q_Mr_tick_128 1 (nI i) s0 (w.1 161 i) (nI i) (sI w 160 i c') A E Q := fun s0 h0 n => by
    refine cm_128 i4 B1 h0 h1 (fun w' B' F K a b d => hA w' B' (F1.tr F rfl) (fun k j hk hj => ?_) (by rw [a, sI_same]) ?_ (by rw [d, e162]))
    · rw [K k j hk hj, sI_at, if_neg (fun z => hj z.2)]
    · rw [b]
      unfold ctL
      by_cases q : s0 = 1
      · rw [if_pos q, if_pos (n.mp q)]
        exact i_1
      · rw [if_neg q, if_neg (fun z => q (n.mpr z))]
  refine Eq.mpr (q_Mr_tick_71.eq_1 _ _ _ _ _ _ _ _ _) ⟨bi, bi, ?_⟩
  rw [tn, en, sI_same]
  have z01 : ¬ (0 : Int32) = 1 := by decide
  refine ⟨fun a => go 0 (Or.inl rfl) ⟨fun z => absurd z z01, fun z => ?_⟩, fun a => ⟨b80, fun b => go 0 (Or.inl rfl) ⟨fun z => absurd z z01, fun z => ?_⟩, fun b => ⟨bi, b80, fun d => go 0 (Or.inl rfl) ⟨fun z => absurd z z01, fun z => ?_⟩, fun d => go 1 (Or.inr rfl) ⟨fun _ => ⟨vt_1 hv a, vt_1 h58 b, by omega⟩, fun _ => rfl⟩⟩⟩⟩
  · rw [hv, if_pos z.1] at a
    exact absurd a (by decide)
  · rw [h58, if_pos z.2.1] at b
    exact absurd b (by decide)
  · have := z.2.2
    omega
theorem cm_14 {w0 : MW} {g : Nat} {rs : List Rw} {E : MW → Prop} {Q : Int32 → MW → Prop} (hD0 : DR w0) (hR0 : RoM w0 g rs) (hE : ∀ w', BND w' → FR lcm w0 w' → CsE 160 161 162 (sbt (w0.1 147 24)) rs w0 w' → E w') (n : Nat) : ∀ (i : Nat) (w : MW), i ≤ rs.length → BND w → FR lcm w0 w → (∀ (r : Nat) (x : Rw), r < i → rs[r]? = some x → CsR 160 161 162 (sbt (w0.1 147 24)) w0 w r x) → (∀ k j : Nat, (k = 160 ∨ k = 161 ∨ k = 162) → i ≤ j → w.1 k j = w0.1 k j) → rs.length - i < n → q_Mr_tick_14 1 E Q n (nI i) w := by
  induction n with
  | zero => intros; omega
  | succ n ih =>
    intro i w hi hB hF hD hK hm
    have h4 := hR0.2.2.2.1
    have ti : (nI i).toInt = (i : Int) := nI_toInt (by omega)
    have tn : (nI i).toInt.toNat = i := by omega
    have R : RoM w g rs := rom_k hR0 (hF 147 12 rfl).1 (hF 147 20 rfl).1 (KR.fr hF rfl)
    have e1 : w.1 147 24 = w0.1 147 24 := (hF 147 24 rfl).1
    have k49 := hK 160 i (Or.inl rfl) (Nat.le_refl _)
    have k50 := hK 161 i (Or.inr (Or.inl rfl)) (Nat.le_refl _)
    have k51 := hK 162 i (Or.inr (Or.inr rfl)) (Nat.le_refl _)
    rw [q_Mr_tick_14.eq_2]
    refine ⟨fun c => hE w hB hF (fun r x hx => hD r x (by have := rs_lt hx; have := R.2.2.1; omega) hx), fun c => ⟨fun z => absurd z (by decide), fun _ => ?_⟩⟩
    have il : i < rs.length := by have := R.2.2.1; omega
    obtain ⟨x, hx⟩ : ∃ x, rs[i]? = some x := ⟨_, List.getElem?_eq_getElem il⟩
    have t := R.2.2.2.2 i x hx
    have bi : 0 ≤ (nI i).toInt ∧ (nI i).toInt < 40 := by omega
    have c49 := bd_160 hB i
    have nx : ∀ c' : Int32, c'.toInt = ctC (vS (sbt (w0.1 147 24)) x.2.1) (w.1 160 i).toInt → ∀ w', BND w' → FR lcm w w' → KP3 160 161 162 i w w' → (w'.1 160 i).toInt = c'.toInt → (w'.1 161 i).toInt = ctL (vS (sbt (w0.1 147 24)) x.2.1) x.2.2.2 x.2.2.1 c'.toInt (w.1 161 i).toInt → (w'.1 162 i).toInt = ctP (w.1 162 i).toInt → q_Mr_tick_14 1 E Q n (nI (i + 1)) w' := fun c' ec w' B' F K a b d => by
      refine ih (i + 1) w' il B' (hF.tr F rfl) (fun r y hr hy => ?_) (fun k j hk hj => (K k j hk (by omega)).trans (hK k j hk (by omega))) (by omega)
      by_cases q : r = i
      · rw [q] at hy ⊢
        have ey : y = x := Option.some.inj (hy.symm.trans hx)
        rw [ey]
        unfold CsR
        rw [← k49, ← k50, ← k51, ← ec]
        exact ⟨a, b, d⟩
      · exact csr_k (hD r y (by omega) hy) K q
    refine rm_isOn hB (DR_fr hF rfl hD0) R hx ti (fun y hy => ⟨fun z => ⟨bi, fun c => ⟨bi, ?_⟩, fun c => ?_⟩, fun z => ?_⟩)
    · rw [e1] at hy
      rw [tn] at c ⊢
      have es := ti_add2 (Eq.refl (w.1 160 i).toInt) i_1 (by omega) (by omega)
      exact cm_71 (by omega) hB R.1 R.2.1 hy t.1.2.2.2.2.2 t.2 (by omega) c (nx _ (by rw [ctC_1 (vt_1 hy z) (by omega)]; exact es))
    · rw [e1] at hy
      rw [tn] at c
      have es := ti_add2 (Eq.refl (w.1 160 i).toInt) i_1 (by omega) (by omega)
      have em : (1000000 : Int32).toInt = 1000000 := by decide
      exact cm_71 (by omega) hB R.1 R.2.1 hy t.1.2.2.2.2.2 t.2 (by decide) (by decide) (nx _ (by rw [ctC_2 (vt_1 hy z) (by omega)]; exact em))
    · rw [e1] at hy
      exact cm_71 (by omega) hB R.1 R.2.1 hy t.1.2.2.2.2.2 t.2 (by decide) (by decide) (nx 0 (by rw [ctC_0 (vf_0 hy (Classical.not_not.mp z))]; exact i_0))
/-- the reference's second of its rows -/
theorem cm_count {w : MW} {g : Nat} {rs : List Rw} {Q : Int32 → MW → Prop} (hB : BND w) (hD : DR w) (hR : RoM w g rs) (hQ : ∀ w', BND w' → FR lcm w w' → CsE 160 161 162 (sbt (w.1 147 24)) rs w w' → Q 1 w') : p_Mr_tick w 1 Q :=
  Eq.mpr (p_Mr_tick.eq_1 _ _ _) ⟨fun z => absurd z (by decide), fun _ => ⟨fun _ => cm_14 hD hR hQ FU 0 w (Nat.zero_le _) hB (FR.refl _ w) (fun r x h => absurd h (Nat.not_lt_zero _)) (fun _ _ _ _ => rfl) (Nat.lt_of_le_of_lt (show _ ≤ 40 by have := hR.2.2.2.1; omega) (fu_lt (by decide))), fun z => absurd (show (1 : Int32).toInt ≤ 100000 by decide) z⟩⟩
