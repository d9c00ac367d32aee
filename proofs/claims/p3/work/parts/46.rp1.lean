def incF (f : Nat → Int32) (i : Int32) : Nat → Int32 := if i.toInt < 0 then f else fun j => if j = i.toInt.toNat then f j + (1 : Int32) else f j
/-- all lines from p on are let through -/
def TR : Nat → MW → Int32 → Int32 → Int32 → (Nat → Int32) → (Nat → Int32) → Prop
  | 0, _, _, _, _, _, _ => False
  | n + 1, t, p, nT, nP, kd, tk => (t.1 127 22).toInt ≤ p.toInt ∨ (¬ (t.1 127 22).toInt ≤ p.toInt ∧ ∃ (r q : Int32) (a : Nat → Int32), PLR t p r q a ∧ ¬ r.toInt = -1 ∧ ((¬ r.toInt = 3 ∧ ¬ 20 ≤ nT.toInt ∧ (r.toInt = 0 → ¬ (a 0).toInt < 1 ∧ ¬ 100000 < (a 0).toInt) ∧ (r.toInt = 2 → ¬ 7 < (a 0).toInt) ∧ TR n t (q + (1 : Int32)) (nT + (1 : Int32)) nP (fun j => if j = nT.toInt.toNat then (if r.toInt = 2 then (2 : Int32) + a 0 else r) else kd j) (fun j => if j = nT.toInt.toNat then 0 else tk j)) ∨ (r.toInt = 3 ∧ ¬ nP.toInt = 24 ∧ ¬ (a 2).toInt < 1 ∧ ¬ 200 < (a 2).toInt ∧ ¬ nT.toInt ≤ (a 0).toInt ∧ (a 1).toInt < nT.toInt ∧ (¬ (a 0).toInt < 0 → ¬ (rm (kd (a 0).toInt.toNat)).toInt ≤ ((tk (a 0).toInt.toNat) + bth (a 0) (a 1)).toInt) ∧ (¬ (a 1).toInt < 0 → ((tk (a 1).toInt.toNat) + bth (a 0) (a 1)).toInt < (rm (kd (a 1).toInt.toNat)).toInt) ∧ TR n t (q + (1 : Int32)) nT (nP + (1 : Int32)) kd (incF (incF tk (a 0)) (a 1)))))
def lr1 : Pl := [(127, some 21), (127, some 85), (127, some 86), (178, none), (179, none), (180, none)]
theorem inc_180 {w : MW} {i : Int32} : (fun j => (inc w i).1 180 j) = incF (fun j => w.1 180 j) i := by
  funext j
  unfold inc incF
  by_cases c : i.toInt < 0
  · rw [if_pos c, if_pos c]
  · rw [if_neg c, if_neg c]
    by_cases d : j = i.toInt.toNat
    · show (sI w 180 i.toInt.toNat ((w.1 180 i.toInt.toNat) + (1 : Int32))).1 180 j = if j = i.toInt.toNat then w.1 180 j + (1 : Int32) else w.1 180 j
      rw [if_pos d, d, sI_same]
    · show (sI w 180 i.toInt.toNat ((w.1 180 i.toInt.toNat) + (1 : Int32))).1 180 j = if j = i.toInt.toNat then w.1 180 j + (1 : Int32) else w.1 180 j
      rw [if_neg d, sI_ne _ _ _ _ _ d]
theorem inc_oth {w : MW} {i : Int32} {k : Nat} (h : k ≠ 180) (j : Nat) : (inc w i).1 k j = w.1 k j := by
  unfold inc
  split
  · rfl
  · exact sI_oth _ _ _ _ _ _ h
theorem rp_15 {t z : MW} {G : Prop} {E : MW → Prop} {Q : Int32 → MW → Prop} (hE : ∀ w, BND w → FR lr1 z w → AG t w → G → E w) (hQ : ∀ (r : Int32) (w : MW), BND w → FR lr1 z w → -4023 ≤ r.toInt → r.toInt ≤ -3 → Q r w) (n : Nat) : ∀ w : MW, BND w → FR lr1 z w → AG t w → ((∃ m, TR m t (w.1 127 21) (w.1 127 85) (w.1 127 86) (fun j => w.1 179 j) (fun j => w.1 180 j)) → G) → (4020 - (w.1 127 21).toInt).toNat < n → q_Mo_readPlant_15 E Q n w := by
  induction n with
  | zero => intros; omega
  | succ n ih =>
    intro w hI hF hA hG hm
    rw [q_Mo_readPlant_15.eq_2]
    have b22 := bd_127_22 hI
    have b21 := bd_127_21 hI
    refine ⟨fun c => hE w hI hF hA (hG ⟨1, Or.inl (by rw [← hA.2]; exact c)⟩), fun c => ?_⟩
    refine pc_planLine hA (h_Mo_planLine (Q := fun r w' => BND w' ∧ FR l_Mo_planLine w w' ∧ (-1) ≤ r.toInt ∧ r.toInt ≤ 3 ∧ (w.1 127 21).toInt ≤ (w'.1 127 21).toInt ∧ (r.toInt < 0 ∨ (w'.1 127 21).toInt < (w'.1 127 22).toInt) ∧ (r.toInt < 0 ∨ r.toInt = 1 ∨ r.toInt = 3 ∨ 0 ≤ (w'.1 178 0).toInt) ∧ (¬ r.toInt = 3 ∨ (-1 ≤ (w'.1 178 0).toInt ∧ -1 ≤ (w'.1 178 1).toInt ∧ 0 ≤ (w'.1 178 2).toInt))) hI (fun r w' a1 a2 a3 a4 a5 a6 a7 a8 => ⟨a1, a2, a3, a4, a5, a6, a7, a8⟩)) (fun r w2 hp hA2 hPL => ?_)
    obtain ⟨hI2, hF2, r0, r3, pl, lt, wa, wb⟩ := hp
    have b21' := bd_127_21 hI2
    have b22' := bd_127_22 hI2
    have fail : ∀ w' : MW, BND w' → FR lr1 z w' → Q (((-3) : Int32) - (w'.1 127 21)) w' := by
      intro w' hI' hF'
      have bb := bd_127_21 hI'
      have e := ti_sub2 (by decide : ((-3) : Int32).toInt = -3) (Eq.refl (w'.1 127 21).toInt) (by omega) (by omega)
      exact hQ _ _ hI' hF' (by omega) (by omega)
    refine ⟨fun d => fail w2 hI2 (hF.tr hF2 rfl), fun d => ?_⟩
    refine pc_isNew (h_Mo_isNew (Q := fun _ w' => BND w' ∧ FR l_Mo_isNew w2 w') hI2 (by omega) r3 (by omega) wb (fun r4 w4 b1 b2 _ _ => ⟨b1, b2⟩)) (fun w4 h4 => ⟨fun q => absurd (by decide) q, fun _ => fail w4 h4.1 ((hF.tr hF2 rfl).tr h4.2 rfl)⟩) (fun w4 h4 hN => ⟨fun _ => ?_, fun q => absurd (show ¬ (1 : Int32).toInt = 0 by decide) q⟩)
    obtain ⟨hI4, hF4⟩ := h4
    have p4 : w4.1 127 21 = w2.1 127 21 := (hF4 127 21 rfl).1
    have lt2 := lt.resolve_left (by omega)
    have e21 := ti_add2 (Eq.refl (w2.1 127 21).toInt) (by decide : ((1 : Int32)).toInt = 1) (by omega) (by omega)
    have a21 : (sI w4 127 21 ((w4.1 127 21) + (1 : Int32))).1 127 21 = (w4.1 127 21) + (1 : Int32) := sI_same _ _ _ _
    have hA4 : AG t w4 := ⟨fun j => ((hF4 128 j rfl).1).trans (hA2.1 j), ((hF4 127 22 rfl).1).trans hA2.2⟩
    refine ih _ (wbd_127_21 hI4 (by rw [p4]; omega) (by rw [p4]; omega)) (FR.I ((hF.tr hF2 rfl).tr hF4 rfl) rfl) (ag_21 hA4) (fun hm2 => hG ?_) (by rw [a21, p4]; omega)
    obtain ⟨m, hT⟩ := hm2
    have x85 : (sI w4 127 21 ((w4.1 127 21) + (1 : Int32))).1 127 85 = w4.1 127 85 := by rw [sI_at, if_neg (fun q => absurd q.2 (by decide))]
    have x86 : (sI w4 127 21 ((w4.1 127 21) + (1 : Int32))).1 127 86 = w4.1 127 86 := by rw [sI_at, if_neg (fun q => absurd q.2 (by decide))]
    have x179 : (fun j => (sI w4 127 21 ((w4.1 127 21) + (1 : Int32))).1 179 j) = fun j => w4.1 179 j := funext fun j => sI_oth _ _ _ _ _ _ (by decide)
    have x180 : (fun j => (sI w4 127 21 ((w4.1 127 21) + (1 : Int32))).1 180 j) = fun j => w4.1 180 j := funext fun j => sI_oth _ _ _ _ _ _ (by decide)
    rw [a21, x85, x86, x179, x180, p4] at hT
    have y85 : w2.1 127 85 = w.1 127 85 := (hF2 127 85 rfl).1
    have y86 : w2.1 127 86 = w.1 127 86 := (hF2 127 86 rfl).1
    have y179 : ∀ j, w2.1 179 j = w.1 179 j := fun j => (hF2 179 j rfl).1
    have y180 : ∀ j, w2.1 180 j = w.1 180 j := fun j => (hF2 180 j rfl).1
    refine ⟨m + 1, Or.inr ⟨by rw [← hA.2]; exact c, r, w2.1 127 21, fun j => w2.1 178 j, hPL, d, ?_⟩⟩
    rcases hN with ⟨n1, n2, n3, n4, n5⟩ | ⟨n1, n2, n3, n4, n5, n6, n7, n8, n9⟩
    · refine Or.inl ⟨n1, by rw [← y85]; exact n2, n3, n4, ?_⟩
      have v85 : w4.1 127 85 = (w2.1 127 85) + (1 : Int32) := by rw [n5, sI_same]
      have v86 : w4.1 127 86 = w2.1 127 86 := by rw [n5, sI_at, if_neg (fun q => absurd q.2 (by decide)), sI_oth _ _ _ _ _ _ (by decide), sI_oth _ _ _ _ _ _ (by decide)]
      have v179 : (fun j => w4.1 179 j) = fun j => if j = (w2.1 127 85).toInt.toNat then (if r.toInt = 2 then (2 : Int32) + (w2.1 178 0) else r) else w2.1 179 j := by
        funext j
        rw [n5, sI_oth _ _ _ _ _ _ (by decide), sI_oth _ _ _ _ _ _ (by decide), sI_at]
        by_cases hj : j = (w2.1 127 85).toInt.toNat
        · rw [if_pos ⟨rfl, hj⟩, if_pos hj]
        · rw [if_neg (fun q => hj q.2), if_neg hj]
      have v180 : (fun j => w4.1 180 j) = fun j => if j = (w2.1 127 85).toInt.toNat then 0 else w2.1 180 j := by
        funext j
        rw [n5, sI_oth _ _ _ _ _ _ (by decide), sI_at]
        by_cases hj : j = (w2.1 127 85).toInt.toNat
        · rw [if_pos ⟨rfl, hj⟩, if_pos hj]
        · rw [if_neg (fun q => hj q.2), if_neg hj, sI_oth _ _ _ _ _ _ (by decide)]
      rw [v85, v86, v179, v180] at hT
      simp only [y85, y86, y179, y180] at hT
      exact hT
    · have v86 : w4.1 127 86 = (w2.1 127 86) + (1 : Int32) := by rw [n9, sI_same, inc_oth (by decide)]
      have v85 : w4.1 127 85 = w2.1 127 85 := by rw [n9, sI_at, if_neg (fun q => absurd q.2 (by decide)), inc_oth (by decide), inc_oth (by decide)]
      have v179 : (fun j => w4.1 179 j) = fun j => w2.1 179 j := by
        funext j
        rw [n9, sI_oth _ _ _ _ _ _ (by decide), inc_oth (by decide), inc_oth (by decide)]
      have v180 : (fun j => w4.1 180 j) = incF (incF (fun j => w2.1 180 j) (w2.1 178 0)) (w2.1 178 1) := by
        rw [← inc_180, ← inc_180]
        funext j
        rw [n9, sI_oth _ _ _ _ _ _ (by decide)]
      rw [v85, v86, v179, v180] at hT
      simp only [y85, y86, y179, y180] at hT n2 n5 n6 n7 n8
      exact Or.inr ⟨n1, n2, n3, n4, n5, n6, n7, n8, hT⟩
