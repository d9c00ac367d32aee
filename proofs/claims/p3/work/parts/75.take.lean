/-! the class's run: take -/
theorem PrG_fr {l : Pl} {w w' : MW} (h : PrG w) (hF : FR l w w') (ho : off l ((108, some 2) :: (108, some 10) :: (117, none) :: (119, none) :: lyn) = true) : PrG w' := by
  have sn : ∀ j, SN j w w' := fun j => sn_off hF (off_mono ho (by decide)) j
  have e1 : ndC w' = ndC w := nd_eq hF (off_mono ho (by decide))
  have sm : SM w w' := SM.fr hF (off_mono ho (by decide))
  have eo : opn w' = opn w := by unfold opn; rw [(hF 108 2 (off_hit ho rfl)).1]
  refine ⟨fun m m0 m1 => (h.1 m m0 (by omega)).sg (fun j _ _ => sn j) sm.sg, ?_⟩
  rw [eo]
  cases h.2 with
  | inl a => exact Or.inl a
  | inr a =>
    obtain ⟨k, S, hS, hC⟩ := a.2
    refine Or.inr ⟨a.1, k, S, hS, CHn.mp (fun x x0 p => ?_) k _ _ hC⟩
    have s := sn x
    rw [e1, s.1, s.2.2.2.2.2.2.1, s.2.2.2.2.2.2.2]
    exact ⟨p, s.2.2.2.2.2.1, rfl⟩
/-- how the parts of the program that stands lie -/
def RLy (w : MW) : Prop := (1 ≤ pts w ∧ pts w ≤ 501) ∧ (pFi w 0 = -1 ∨ (0 < pFi w 0 ∧ pFi w 0 < pts w)) ∧ pNx w 0 = -1 ∧ ((0 ≤ opn w → 0 < pFi w 0) ∧ (0 ≤ pFi w 0 → ¬ yK w (pN w (pFi w 0)) = 35)) ∧ (∀ j, 1 ≤ j → j < pts w → POx w w (pts w) j)
def ltk8 : Pl := [(61, some 3), (61, some 4), (61, some 5), (77, none), (78, none), (79, none)]
theorem k_take8 {w : MW} {Q : MW → Prop} (hI : BND w) (hG : PrG w) (hQ : ∀ w', BND w' → FR ltk8 w w' → w'.2.2 61 3 = some 108 → (w'.1 61 4).toInt = 4 → RLy w' → PrG w' → Q w') : p_Ru_take_108 w Q := by
  have hF : FR ltk8 w (sI (sI (sI (sR w 61 3 (some 108)) 61 4 4) 61 5 1) 77 0 (-1)) := FR.I (FR.I (FR.I (FR.R (FR.refl _ w) rfl) rfl) rfl) rfl
  have hB : BND (sI (sI (sI (sR w 61 3 (some 108)) 61 4 4) 61 5 1) 77 0 (-1)) := wbd_77 (wbd_61_5 (wbd_61_4 (show BND (sR w 61 3 (some 108)) from hI) (by decide) (by decide)) (by decide) (by decide)) _ (by decide) (by decide)
  have r3 : (sI (sI (sI (sR w 61 3 (some 108)) 61 4 4) 61 5 1) 77 0 (-1)).2.2 61 3 = some 108 := rfl
  have e4 : ((sI (sI (sI (sR w 61 3 (some 108)) 61 4 4) 61 5 1) 77 0 (-1)).1 61 4).toInt = 4 := by show (4 : Int32).toInt = 4; decide
  have e5 : pts (sI (sI (sI (sR w 61 3 (some 108)) 61 4 4) 61 5 1) 77 0 (-1)) = 1 := i_1
  have eo : (w.1 108 2).toInt = opn (sI (sI (sI (sR w 61 3 (some 108)) 61 4 4) 61 5 1) 77 0 (-1)) := rfl
  refine Eq.mpr (p_Ru_take_108.eq_1 _ _) ?_
  generalize (sI (sI (sI (sR w 61 3 (some 108)) 61 4 4) 61 5 1) 77 0 (-1)) = v at *
  have hG2 : PrG v := PrG_fr hG hF rfl
  have fin : ∀ (S : Int) (r : Int32) (w1 : MW), S ≤ 500 → (0 ≤ opn v → ¬ yK v (opn v) = 35) → ExO v S (opn v) v r w1 → Q (sI (sI w1 78 0 r) 79 0 (-1)) := fun S r w1 hS hop t => by
    have t3 := t.2.2.1
    have t4 := t.2.2.2.1
    have b5 := bd_61_5 t.1
    have h5 : (w1.1 61 5).toInt = pts w1 := rfl
    have rb : -1 ≤ r.toInt ∧ r.toInt ≤ 500 := by
      have := t.2.2.2.2.2.2.1
      omega
    have F1 : FR ltk8 v w1 := (FR.refl ltk8 v).tr t.2.1 rfl
    have F2 : FR [(78, none), (79, none)] w1 (sI (sI w1 78 0 r) 79 0 (-1)) := FR.I (FR.I (FR.refl _ w1) rfl) rfl
    have B2 : BND (sI (sI w1 78 0 r) 79 0 (-1)) := wbd_79 (wbd_78 t.1 _ rb.1 rb.2) _ (by decide) (by decide)
    have ef : pFi (sI (sI w1 78 0 r) 79 0 (-1)) 0 = r.toInt := congrArg Int32.toInt (sI_same w1 78 0 r)
    have ex : pNx (sI (sI w1 78 0 r) 79 0 (-1)) 0 = -1 := (congrArg Int32.toInt (sI_same (sI w1 78 0 r) 79 0 (-1))).trans i_m1
    have en : ∀ j, 1 ≤ j → pN (sI (sI w1 78 0 r) 79 0 (-1)) j = pN w1 j ∧ pFi (sI (sI w1 78 0 r) 79 0 (-1)) j = pFi w1 j ∧ pNx (sI (sI w1 78 0 r) 79 0 (-1)) j = pNx w1 j := fun j j1 => by
      refine ⟨rfl, ?_, ?_⟩
      · show ((sI w1 78 0 r).1 78 j.toNat).toInt = _
        rw [sI_ne _ _ _ _ _ (by omega)]
        rfl
      · show ((sI w1 79 0 (-1)).1 79 j.toNat).toInt = _
        rw [sI_ne _ _ _ _ _ (by omega)]
        rfl
    have ept : pts (sI (sI w1 78 0 r) 79 0 (-1)) = pts w1 := rfl
    have e77 : ∀ i, pN (sI (sI w1 78 0 r) 79 0 (-1)) i = pN w1 i := fun i => rfl
    generalize (sI (sI w1 78 0 r) 79 0 (-1)) = w2 at *
    have Fv2 : FR ltk8 v w2 := F1.tr F2 rfl
    have G2 : PrG w2 := PrG_fr hG2 Fv2 rfl
    have o2 : opn w2 = opn v := by unfold opn; rw [(Fv2 108 2 rfl).1]
    have n2 : ndC w2 = ndC v := nd_eq Fv2 rfl
    have k2 : ∀ j, yK w2 j = yK v j := fun j => (sn_off Fv2 rfl j).1
    have Fx : FR [(61, some 5), (77, none), (78, none), (79, none)] v w2 := ((FR.refl _ v).tr t.2.1 rfl).tr F2 rfl
    refine hQ w2 B2 (hF.tr Fv2 rfl) (((Fx 61 3 rfl).2.2).trans r3) (by rw [(Fx 61 4 rfl).1]; exact e4) ⟨⟨by omega, by omega⟩, ?_, ex, ⟨fun c => ?_, fun c => ?_⟩, fun j j1 j2 => ?_⟩ G2
    · rw [ef, ept]
      have := t.2.2.2.2.2.2.1
      omega
    · rw [o2] at c
      rw [ef]
      have := t.2.2.2.2.2.2.2.1 c
      omega
    · rw [ef] at c ⊢
      by_cases g0 : 0 ≤ opn v
      · have z := t.2.2.2.2.2.2.2.1 g0
        rw [(en _ (by omega)).1, z.2.2, k2]
        exact hop g0
      · have z := t.2.2.2.2.2.2.2.2 (by omega)
        omega
    · rw [ept] at j2 ⊢
      have en2 : ∀ i, 0 ≤ i → i < pts w1 → pN w2 i = pN w1 i := fun i i0 i1 => e77 i
      have O := (t.2.2.2.2.2.1 j (by omega) j2).up en2 (en j j1).2.1 (en j j1).2.2 (by omega) j2 (Int.le_refl _)
      unfold POx at *
      simp only [n2, k2]
      exact O
  have X := ex_all hB hG2.1 400
  cases hG2.2 with
  | inl a =>
    refine X (w.1 108 2) 0 v _ 80 0 0 False (by omega) (by omega) ⟨by rw [eo]; exact a, Int.le_refl _⟩ hB (FR.refl _ v) r3 (by omega) (by omega) (by decide) (by rw [i_0]; omega) (fun r w1 t => fin 0 r w1 (by omega) (fun q => by omega) ?_)
    rw [eo] at t
    exact t
  | inr a =>
    obtain ⟨k, S, hS, hC⟩ := a.2
    refine X (w.1 108 2) 0 v _ 80 S k False (by omega) (by omega) (by rw [eo]; exact CHn.mp (fun x x0 p => ⟨⟨⟨p.1, ⟨fun e => p.2.2.1 e, fun q => q.elim⟩⟩, p.2.1, fun e => absurd e p.2.2.1, fun _ => by have := p.2.2.2; omega⟩, rfl, rfl⟩) k _ _ hC) hB (FR.refl _ v) r3 (by omega) (by omega) (by decide) (by rw [i_0]; omega) (fun r w1 t => fin S r w1 hS (fun q => ?_) ?_)
    · cases k with
      | zero =>
        have := hC.1
        omega
      | succ k => exact (hC.resolve_left (fun y => by have := y.1; omega)).2.1.2.2.1
    · rw [eo] at t
      exact t
