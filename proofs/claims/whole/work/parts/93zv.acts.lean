/-! the acts of a row -/
theorem mb_us : ∀ n, n < 32 → (((nI n).toUInt32 &&& Int32.toUInt32 31).toBitVec % 32).toNat = n := by decide +kernel
theorem mb_ubit (x : Int32) {n : Nat} (hn : n < 32) : (((x.toUInt32 >>> ((nI n).toUInt32 &&& Int32.toUInt32 31)).toInt32) &&& (1 : Int32)).toInt = 0 ↔ mb x n = false := by
  rw [mb_and1]
  have e := pk_ushr x (nI n) n (mb_us n hn)
  unfold mb
  rw [← BitVec.testBit_toNat, ← BitVec.testBit_toNat, e, Nat.testBit_div_two_pow, Nat.zero_add]
/-- the act that word i is, or -1 -/
def actw (f : Int → Int) (n : Int) (i : Nat) : Int := if f (wat f n i) = 97 then nbv f n i 1 31 else -1
/-- the acts from word i on -/
def acF (f : Int → Int) (n : Int) : Nat → List Int → Nat → Bool × List Int × Nat
  | 0, _, i => (false, [], i)
  | k + 1, as, i => if ¬ as = [] ∧ wq f n i (ltr 7 4) = true then (true, as, i) else if actw f n i < 0 ∨ as.length = 8 ∨ actw f n i ∈ as then (false, [], i) else acF f n k (as ++ [actw f n i]) (i + 1)
theorem acF_u (f : Int → Int) (n : Int) (k : Nat) (as : List Int) (i : Nat) : acF f n (k + 1) as i = if ¬ as = [] ∧ wq f n i (ltr 7 4) = true then (true, as, i) else if actw f n i < 0 ∨ as.length = 8 ∨ actw f n i ∈ as then (false, [], i) else acF f n k (as ++ [actw f n i]) (i + 1) := rfl
/-- the bits of x are the numbers of the list -/
def BtS (x : Int32) (as : List Int) : Prop := (∀ a : Nat, a < 32 → (mb x a = true ↔ (a : Int) ∈ as)) ∧ ∀ a ∈ as, 0 ≤ a ∧ a ≤ 31
theorem bts_0 : BtS 0 [] := by
  refine ⟨fun a _ => ⟨fun h => ?_, fun h => (by cases h)⟩, fun a h => (by cases h)⟩
  have e : mb 0 a = false := BitVec.getLsbD_zero
  rw [e] at h
  exact absurd h (by decide)
theorem bts_s {x v : Int32} {as : List Int} {a : Int} (h : BtS x as) (hv : v.toInt = a) (a0 : 0 ≤ a) (a1 : a ≤ 31) : BtS (x ||| ((1 : Int32) <<< (v &&& 31))) (as ++ [a]) := by
  have en : v = nI a.toNat := by
    rw [← hv]
    exact (nI_tn (by omega)).symm
  refine ⟨fun b hb => ?_, fun b hb => ?_⟩
  · rw [en, mb_or x (by omega), Bool.or_eq_true, decide_eq_true_iff, h.1 b hb, List.mem_append, List.mem_singleton]
    constructor
    · rintro (q | q)
      · exact Or.inl q
      · exact Or.inr (by omega)
    · rintro (q | q)
      · exact Or.inl q
      · exact Or.inr (by omega)
  · rcases List.mem_append.mp hb with q | q
    · exact h.2 b q
    · rw [List.mem_singleton.mp q]
      exact ⟨a0, a1⟩
theorem nbv_b {f : Int → Int} {n : Int} {i : Nat} {s m : Int} (m0 : 0 ≤ m) : nbv f n i s m ≤ m := by
  unfold nbv
  by_cases q2 : wnd f n i - (wat f n i + s) < 1 ∨ 4 < wnd f n i - (wat f n i + s) ∨ (1 < wnd f n i - (wat f n i + s) ∧ f (wat f n i + s) = 48)
  · rw [if_pos q2]
    omega
  · rw [if_neg q2]
    by_cases q3 : m < dgv f (wnd f n i - (wat f n i + s)).toNat (wat f n i + s) 0
    · rw [if_pos q3]
      omega
    · rw [if_neg q3]
      omega
theorem nbv_p {f : Int → Int} {n : Int} {i : Nat} {s m : Int} (h : ¬ nbv f n i s m < 0) : s + 1 ≤ wnd f n i - wat f n i := by
  unfold nbv at h
  by_cases q2 : wnd f n i - (wat f n i + s) < 1 ∨ 4 < wnd f n i - (wat f n i + s) ∨ (1 < wnd f n i - (wat f n i + s) ∧ f (wat f n i + s) = 48)
  · rw [if_pos q2] at h
    exact absurd (by decide) h
  · by_cases q4 : wnd f n i - (wat f n i + s) < 1
    · exact absurd (Or.inl q4) q2
    · omega
theorem actw_b {f : Int → Int} {n : Int} {i : Nat} : actw f n i ≤ 31 ∧ (¬ actw f n i < 0 → 2 ≤ wnd f n i - wat f n i) := by
  unfold actw
  by_cases q : f (wat f n i) = 97
  · rw [if_pos q]
    exact ⟨nbv_b (by decide), fun h => by have := nbv_p h; omega⟩
  · rw [if_neg q]
    exact ⟨by decide, fun h => absurd (by decide) h⟩
def lac : Pl := [(99, some 12), (99, some 13), (99, some 14), (99, some 17), (103, none)]
/-- behind the acts -/
def OuA (w0 w : MW) (C : Nat) (r : Bool × List Int × Nat) : Prop := WSt w r.2.2 ∧ r.2.2 ≤ 5000 ∧ (∀ j, ¬ j = C → w.1 103 j = w0.1 103 j) ∧ ((r.1 = true ∧ (w.1 99 17).toInt < 0 ∧ BtS (w.1 103 C) r.2.1) ∨ (r.1 = false ∧ (w.1 99 17).toInt = (r.2.2 : Int)))
theorem ra_fail {w0 w : MW} {C i : Nat} {R : Bool × List Int × Nat} {Q : MW → Prop} (hI : BND w) (hF : FR lac w0 w) (h : WSt w i) (h17 : (w.1 99 17).toInt < 0) (i5 : i ≤ 5000) (h3 : ∀ j, ¬ j = C → w.1 103 j = w0.1 103 j) (hR : R = (false, [], i)) (hQ : ∀ w', BND w' → FR lac w0 w' → OuA w0 w' C R → Q w') : p_Ro_fails99 w (fun w' => Q w') := by
  have F : FR [(99, some 17)] w (sI w 99 17 (w.1 99 14)) := FR.I (FR.refl _ w) rfl
  refine flr_x h17 (hQ _ (wbd_99_17 hI) (hF.tr F rfl) ?_)
  rw [hR]
  refine ⟨wst_fr h F rfl, i5, fun j hj => by rw [(F 103 j rfl).1]; exact h3 j hj, Or.inr ⟨rfl, ?_⟩⟩
  rw [sI_same]
  exact h.2.2.1
theorem ra_2 {w0 : MW} {C : Nat} {R : Bool × List Int × Nat} {Q : MW → Prop} (hC : (w0.1 99 0).toInt = (C : Int)) (c40 : C < 40) (hQ : ∀ w', BND w' → FR lac w0 w' → OuA w0 w' C R → Q w') (m : Nat) : ∀ (w : MW) (as : List Int) (i : Nat), BND w → FR lac w0 w → WSt w i → (w.1 99 17).toInt < 0 → i ≤ 5000 → BtS (w.1 103 C) as → (∀ j, ¬ j = C → w.1 103 j = w0.1 103 j) → as.length ≤ 8 → acF (cf w0) (w0.1 1 2).toInt (10 - as.length) as i = R → 9 - as.length < m → q_Ro_readActss99_2 Q Q m (nI as.length) w := by
  induction m with
  | zero => intros; omega
  | succ m ih =>
    intro w as i hI hF h h17 i5 hb h3 a8 hR hm
    have cn := cf_n hF rfl
    have ti : (nI as.length).toInt = (as.length : Int) := nI_toInt (by omega)
    have eC : (w.1 99 0).toInt = (C : Int) := by rw [(hF 99 0 rfl).1]; exact hC
    have nC : (w.1 99 0).toInt.toNat = C := by omega
    obtain ⟨k, ek⟩ : ∃ k, 10 - as.length = k + 1 := ⟨9 - as.length, by omega⟩
    rw [ek, acF_u] at hR
    have b2 := bd_1_2 hI
    -- the word is no 'when'
    have K29 : (as = [] ∨ wq (cf w0) (w0.1 1 2).toInt i (ltr 7 4) = false) → q_Ro_readActss99_29 (nI as.length) w (fun (x2_1 : Int32) (w : MW) => q_Ro_readActss99_2 Q Q m x2_1 w) Q Q := fun nw => by
      rw [if_neg (fun z => nw.elim (fun q => z.1 q) (fun q => by rw [q] at z; exact absurd z.2 (by decide)))] at hR
      have ev : (cv w (w.1 99 12)).toInt = cf w0 (wat (cf w0) (w0.1 1 2).toInt i) := by rw [cv_cf, h.1, cn.1, cn.2]
      have K56 : ∀ v : Int32, v.toInt = actw (cf w0) (w0.1 1 2).toInt i → q_Ro_readActss99_56 (nI as.length) v w (fun (x2_1 : Int32) (w : MW) => q_Ro_readActss99_2 Q Q m x2_1 w) Q Q := fun v hv => by
        have ab := actw_b (f := cf w0) (n := (w0.1 1 2).toInt) (i := i)
        refine Eq.mpr (q_Ro_readActss99_56.eq_1 _ _ _ _ _ _) ⟨fun z => ra_fail hI hF h h17 i5 h3 (by rw [← hR, if_pos (Or.inl (by omega))]) hQ, fun z => ⟨fun z8 => ra_fail hI hF h h17 i5 h3 (by rw [← hR, if_pos (Or.inr (Or.inl (by omega)))]) hQ, fun z8 => ⟨⟨by omega, by omega⟩, fun zb => ⟨⟨by omega, by omega⟩, ⟨by omega, by omega⟩, ?_⟩, fun zb => ra_fail hI hF h h17 i5 h3 ?_ hQ⟩⟩⟩
        · have en : v = nI v.toInt.toNat := (nI_tn (by omega)).symm
          rw [nC] at zb ⊢
          have nm : ¬ actw (cf w0) (w0.1 1 2).toInt i ∈ as := fun q => by
            rw [en, mb_ubit _ (by omega)] at zb
            have := (hb.1 v.toInt.toNat (by omega)).mpr (by rw [show ((v.toInt.toNat : Nat) : Int) = actw (cf w0) (w0.1 1 2).toInt i by omega]; exact q)
            rw [zb] at this
            exact absurd this (by decide)
          rw [if_neg (fun q => by
            rcases q with q | q | q
            · omega
            · omega
            · exact nm q)] at hR
          have ln := ab.2 (by omega)
          rw [← cn.1, ← cn.2] at ln
          have i4 := i_le hI (i := i) (by omega)
          have B1 : BND (sI w 103 C ((w.1 103 C) ||| ((1 : Int32) <<< (v &&& 31)))) := wbd_103 hI _
          have F1 : FR [(103, none)] w (sI w 103 C ((w.1 103 C) ||| ((1 : Int32) <<< (v &&& 31)))) := FR.I (FR.refl _ w) rfl
          have e1 : (sI w 103 C ((w.1 103 C) ||| ((1 : Int32) <<< (v &&& 31)))).1 103 C = (w.1 103 C) ||| ((1 : Int32) <<< (v &&& 31)) := sI_same _ _ _ _
          have e3 : ∀ j, ¬ j = C → (sI w 103 C ((w.1 103 C) ||| ((1 : Int32) <<< (v &&& 31)))).1 103 j = w0.1 103 j := fun j hj => by rw [sI_ne _ _ _ _ _ hj]; exact h3 j hj
          generalize (sI w 103 C ((w.1 103 C) ||| ((1 : Int32) <<< (v &&& 31)))) = w1 at *
          refine nws B1 (wst_fr h F1 rfl) (by omega) (fun w2 B2 F2 S2 => ?_)
          have el : (as ++ [actw (cf w0) (w0.1 1 2).toInt i]).length = as.length + 1 := by
            rw [List.length_append]
            rfl
          rw [nI_1, ← el]
          refine ih w2 (as ++ [actw (cf w0) (w0.1 1 2).toInt i]) (i + 1) B2 ((hF.tr F1 rfl).tr F2 rfl) S2 (by rw [(F2 99 17 rfl).1, (F1 99 17 rfl).1]; exact h17) (by omega) ?_ (fun j hj => by rw [(F2 103 j rfl).1]; exact e3 j hj) (by omega) ?_ (by omega)
          · rw [(F2 103 C rfl).1, e1]
            exact bts_s hb hv (by omega) ab.1
          · rw [el, show 10 - (as.length + 1) = k by omega]
            exact hR
        · have en : v = nI v.toInt.toNat := (nI_tn (by omega)).symm
          rw [nC, en, mb_ubit _ (by omega)] at zb
          rw [← hR, if_pos (Or.inr (Or.inr ?_))]
          have : mb (w.1 103 C) v.toInt.toNat = true := by
            cases hh : mb (w.1 103 C) v.toInt.toNat with
            | true => rfl
            | false => exact absurd hh zb
          have q := (hb.1 v.toInt.toNat (by omega)).mp this
          rw [show ((v.toInt.toNat : Nat) : Int) = actw (cf w0) (w0.1 1 2).toInt i by omega] at q
          exact q
      refine Eq.mpr (q_Ro_readActss99_29.eq_1 _ _ _ _ _) ⟨h.2.2.2, at_x hI ⟨fun z => K56 _ ?_, fun z => nbh hI h i_1 (by decide) (by decide) (by decide : ((31 : Int32)).toInt = 31) (by decide) (fun r hr => K56 r ?_)⟩⟩
      · rw [ev] at z
        unfold actw
        rw [if_neg z]
        exact i_m1
      · have z := Classical.not_not.mp z
        rw [ev] at z
        unfold actw
        rw [if_pos z, ← cn.1, ← cn.2]
        exact hr
    rw [q_Ro_readActss99_2.eq_2]
    refine ⟨fun z => by omega, fun _ => ⟨fun z => by omega, fun _ => ⟨fun z => K29 (Or.inl ?_), fun z => iss_7 hI h (fun _ q => ⟨fun y => absurd y (by decide), fun _ => hQ w hI hF ?_⟩) (fun _ q => ⟨fun _ => K29 (Or.inr (by rw [cn.1, cn.2] at q; exact q)), fun y => absurd i_0 y⟩) (fun y => by omega)⟩⟩⟩
    · exact List.eq_nil_of_length_eq_zero (by omega)
    · rw [cn.1, cn.2] at q
      rw [if_pos ⟨fun e => by rw [e] at z ti; exact z (by rw [ti]; decide), q⟩] at hR
      rw [← hR]
      exact ⟨h, i5, h3, Or.inl ⟨rfl, h17, hb⟩⟩
theorem ra_x {w : MW} {C i : Nat} {Q : MW → Prop} (hI : BND w) (h : WSt w i) (h17 : (w.1 99 17).toInt < 0) (i5 : i ≤ 5000) (hC : (w.1 99 0).toInt = (C : Int)) (c40 : C < 40) (hb : w.1 103 C = 0) (hQ : ∀ w', BND w' → FR lac w w' → OuA w w' C (acF (cf w) (w.1 1 2).toInt 10 [] i) → Q w') : p_Ro_readActss99 w Q :=
  Eq.mpr (p_Ro_readActss99.eq_1 _ _) (ra_2 hC c40 hQ FU w [] i hI (FR.refl _ w) h h17 i5 (by rw [hb]; exact bts_0) (fun j _ => rfl) (by decide) rfl (fu_lt (by decide)))
theorem ra_b {w : MW} {Q : MW → Prop} (h17 : 0 ≤ (w.1 99 17).toInt) (hQ : Q w) : p_Ro_readActss99 w Q := by
  have k : ∀ m, q_Ro_readActss99_2 Q Q (m + 1) 0 w := fun m => by
    rw [q_Ro_readActss99_2.eq_2]
    exact ⟨fun _ => hQ, fun _ => ⟨fun _ => hQ, fun z => absurd h17 z⟩⟩
  exact Eq.mpr (p_Ro_readActss99.eq_1 _ _) (k 99999999999999999999)
