theorem rm_nn (k : Int32) : 0 ≤ (rm k).toInt := by
  unfold rm
  split
  · decide
  · split
    · decide
    · split
      · decide
      · split
        · decide
        · split
          · decide
          · split <;> decide
theorem pi_eq {v v' : MW} (h4 : v'.1 127 4 = v.1 127 4) (h11 : v'.1 127 11 = v.1 127 11) (h163 : ∀ j, v'.1 163 j = v.1 163 j) (h168 : ∀ j, v'.1 168 j = v.1 168 j) (h169 : ∀ j, v'.1 169 j = v.1 169 j) (h170 : ∀ j, v'.1 170 j = v.1 170 j) (h171 : ∀ j, v'.1 171 j = v.1 171 j) (h : PI v) : PI v' := by
  unfold PI at *
  simp only [h4, h11, h163, h168, h169, h170, h171]
  exact h
theorem rp_90 {t z : MW} {E : MW → Prop} {Q : Int32 → MW → Prop} (hE : ∀ v, BND v → FR lr2 z v → PI v → E v) (n : Nat) : ∀ v : MW, BND v → FR lr2 z v → AG t v → PI v → (∃ m kd tk, TR m t (v.1 127 21) (v.1 127 4) (v.1 127 11) kd tk ∧ ∀ j : Int, 0 ≤ j → j < (v.1 127 4).toInt → v.1 163 j.toNat = kd j.toNat ∧ v.1 168 j.toNat = tk j.toNat) → (4020 - (v.1 127 21).toInt).toNat < n → q_Mo_readPlant_90 E Q n v := by
  induction n with
  | zero => intros; omega
  | succ n ih =>
    intro v hI hF hA hP hT hm
    rw [q_Mo_readPlant_90.eq_2]
    have b22 := bd_127_22 hI
    have b21 := bd_127_21 hI
    refine ⟨fun c => hE v hI hF hP, fun c => ?_⟩
    obtain ⟨m, kd, tk, hT, hS⟩ := hT
    cases m with
    | zero => exact hT.elim
    | succ m =>
      rcases hT with hT | ⟨_, r, q, a, hPL, hr, hK⟩
      · rw [← hA.2] at hT
        exact absurd hT c
      refine pc_planLine hA (h_Mo_planLine (Q := fun r w' => BND w' ∧ FR l_Mo_planLine v w' ∧ (-1) ≤ r.toInt ∧ r.toInt ≤ 3 ∧ (v.1 127 21).toInt ≤ (w'.1 127 21).toInt ∧ (r.toInt < 0 ∨ (w'.1 127 21).toInt < (w'.1 127 22).toInt) ∧ (r.toInt < 0 ∨ r.toInt = 1 ∨ r.toInt = 3 ∨ 0 ≤ (w'.1 178 0).toInt) ∧ (¬ r.toInt = 3 ∨ (-1 ≤ (w'.1 178 0).toInt ∧ -1 ≤ (w'.1 178 1).toInt ∧ 0 ≤ (w'.1 178 2).toInt))) hI (fun r w' a1 a2 a3 a4 a5 a6 a7 a8 => ⟨a1, a2, a3, a4, a5, a6, a7, a8⟩)) (fun r8 w8 hp hA8 hPL8 => ?_)
      obtain ⟨hI8, hF8, r0, r3, pl, lt, wa, wb⟩ := hp
      obtain ⟨er, eq, hw⟩ := pl_det hPL hPL8
      subst er
      have hw := hw hr
      have lt2 := lt.resolve_left (by omega)
      have b21' := bd_127_21 hI8
      have b22' := bd_127_22 hI8
      have b4 := bd_127_4 hI8
      have b11 := bd_127_11 hI8
      have k4 : w8.1 127 4 = v.1 127 4 := (hF8 127 4 rfl).1
      have k11 : w8.1 127 11 = v.1 127 11 := (hF8 127 11 rfl).1
      have k163 : ∀ j, w8.1 163 j = v.1 163 j := fun j => (hF8 163 j rfl).1
      have k168 : ∀ j, w8.1 168 j = v.1 168 j := fun j => (hF8 168 j rfl).1
      have hP8 : PI w8 := pi_eq k4 k11 k163 k168 (fun j => (hF8 169 j rfl).1) (fun j => (hF8 170 j rfl).1) (fun j => (hF8 171 j rfl).1) hP
      have e21 := ti_add2 (Eq.refl (w8.1 127 21).toInt) (by decide : ((1 : Int32)).toInt = 1) (by omega) (by omega)
      -- behind a line that was built
      have nx : ∀ v' : MW, BND v' → FR lr2 w8 v' → v'.1 127 21 = w8.1 127 21 → v'.1 127 22 = w8.1 127 22 → (∀ j, v'.1 128 j = w8.1 128 j) → PI v' → (∃ m kd tk, TR m t (q + (1 : Int32)) (v'.1 127 4) (v'.1 127 11) kd tk ∧ ∀ j : Int, 0 ≤ j → j < (v'.1 127 4).toInt → v'.1 163 j.toNat = kd j.toNat ∧ v'.1 168 j.toNat = tk j.toNat) → q_Mo_readPlant_90 E Q n (sI v' 127 21 ((v'.1 127 21) + (1 : Int32))) := by
        intro v' hI' hF' p21 p22 p128 hP' hT'
        have a21 : (sI v' 127 21 ((v'.1 127 21) + (1 : Int32))).1 127 21 = (v'.1 127 21) + (1 : Int32) := sI_same _ _ _ _
        have a4 : (sI v' 127 21 ((v'.1 127 21) + (1 : Int32))).1 127 4 = v'.1 127 4 := by rw [sI_at, if_neg (fun q => absurd q.2 (by decide))]
        have a11 : (sI v' 127 21 ((v'.1 127 21) + (1 : Int32))).1 127 11 = v'.1 127 11 := by rw [sI_at, if_neg (fun q => absurd q.2 (by decide))]
        have ao : ∀ k j, k ≠ 127 → (sI v' 127 21 ((v'.1 127 21) + (1 : Int32))).1 k j = v'.1 k j := fun k j hk => sI_oth _ _ _ _ _ _ hk
        refine ih _ (wbd_127_21 hI' (by rw [p21]; omega) (by rw [p21]; omega)) (FR.I ((hF.tr hF8 rfl).tr hF' rfl) rfl) (ag_21 ⟨fun j => (p128 j).trans (hA8.1 j), p22.trans hA8.2⟩) (pi_eq a4 a11 (fun j => ao 163 j (by decide)) (fun j => ao 168 j (by decide)) (fun j => ao 169 j (by decide)) (fun j => ao 170 j (by decide)) (fun j => ao 171 j (by decide)) hP') ?_ (by rw [a21, p21]; omega)
        obtain ⟨m', kd', tk', t1, t2⟩ := hT'
        refine ⟨m', kd', tk', ?_, fun j j0 j1 => ?_⟩
        · rw [a21, a4, a11, p21, ← eq]
          exact t1
        · rw [a4] at j1
          rw [ao 163 _ (by decide), ao 168 _ (by decide)]
          exact t2 j j0 j1
      rcases hK with ⟨n1, n2, n3, n4, hT'⟩ | ⟨n1, n2, n3, n4, n5, n6, n7, n8, hT'⟩
      · have w0 : ¬ r.toInt = 1 → a 0 = w8.1 178 0 := by
          intro c1
          refine hw 0 ?_
          have : cnt_ r = 1 := by unfold cnt_; rw [if_neg hr, if_neg c1, if_neg n1]
          rw [this, i_1]
          decide
        rw [← k4] at n2 hT'
        rw [← k11] at hT'
        refine g_buildT hI8 n1 (by omega) r3 (by omega) (fun c0 => ?_) (fun c2 => ?_) (fun v' hI' hF' e4 e163 e168 => nx v' hI' ((FR.refl _ w8).tr hF' rfl) (hF' 127 21 rfl).1 (hF' 127 22 rfl).1 (fun j => (hF' 128 j rfl).1) (pi_thing hI8 hP8 (by omega) e4 hF' e163 e168 (fun _ => rm_nn _)) ⟨m, (fun j => if j = (w8.1 127 4).toInt.toNat then (if r.toInt = 2 then (2 : Int32) + a 0 else r) else kd j), (fun j => if j = (w8.1 127 4).toInt.toNat then 0 else tk j), ?_, fun j j0 j1 => ?_⟩)
        · have q0 := n3 c0
          rw [w0 (by omega)] at q0
          omega
        · have q2 := n4 c2
          rw [w0 (by omega)] at q2
          omega
        · rw [e4, (hF' 127 11 rfl).1]
          exact hT'
        · have e5 := ti_add2 (Eq.refl (w8.1 127 4).toInt) (by decide : ((1 : Int32)).toInt = 1) (by omega) (by omega)
          rw [e4, e5] at j1
          rw [e163, e168]
          by_cases cj : j = (w8.1 127 4).toInt
          · have qj : j.toNat = (w8.1 127 4).toInt.toNat := by rw [cj]
            rw [if_pos qj, if_pos qj]
            refine ⟨?_, ?_⟩
            · show (if r.toInt = 2 then (2 : Int32) + (w8.1 178 0) else r) = if j.toNat = (w8.1 127 4).toInt.toNat then (if r.toInt = 2 then (2 : Int32) + a 0 else r) else kd j.toNat
              rw [if_pos qj]
              by_cases c2 : r.toInt = 2
              · rw [if_pos c2, if_pos c2, w0 (by omega)]
              · rw [if_neg c2, if_neg c2]
            · show (0 : Int32) = if j.toNat = (w8.1 127 4).toInt.toNat then 0 else tk j.toNat
              rw [if_pos qj]
          · have qj : ¬ j.toNat = (w8.1 127 4).toInt.toNat := by omega
            rw [if_neg qj, if_neg qj, k163, k168]
            have hs := hS j j0 (by rw [← k4]; omega)
            refine ⟨?_, ?_⟩
            · show v.1 163 j.toNat = if j.toNat = (w8.1 127 4).toInt.toNat then (if r.toInt = 2 then (2 : Int32) + a 0 else r) else kd j.toNat
              rw [if_neg qj]
              exact hs.1
            · show v.1 168 j.toNat = if j.toNat = (w8.1 127 4).toInt.toNat then 0 else tk j.toNat
              rw [if_neg qj]
              exact hs.2
      · have cn : cnt_ r = 3 := by unfold cnt_; rw [if_neg hr, if_neg (by omega), if_pos n1]
        have c3 : (cnt_ r).toInt = 3 := by rw [cn]; decide
        have w0 : a 0 = w8.1 178 0 := hw 0 (by rw [c3]; decide)
        have w1 : a 1 = w8.1 178 1 := hw 1 (by rw [c3]; decide)
        have w2 : a 2 = w8.1 178 2 := hw 2 (by rw [c3]; decide)
        have wb2 := wb.resolve_left (fun q => q n1)
        rw [← k4] at n5 n6 hT'
        rw [← k11] at n2 hT'
        rw [w2] at n3 n4
        rw [w0] at n5 n7 n8 hT'
        rw [w1] at n6 n7 n8 hT'
        have agr : ∀ x : Int32, ¬ x.toInt < 0 → x.toInt < (w8.1 127 4).toInt → w8.1 163 x.toInt.toNat = kd x.toInt.toNat ∧ w8.1 168 x.toInt.toNat = tk x.toInt.toNat := by
          intro x x0 x1
          rw [k163, k168]
          exact hS x.toInt (by omega) (by rw [← k4]; exact x1)
        have t0 : ∀ i : Int32, i.toInt < (w8.1 127 4).toInt → ∀ (f g : Nat → Int32), (∀ j : Int, 0 ≤ j → j < (w8.1 127 4).toInt → f j.toNat = g j.toNat) → ∀ j : Int, 0 ≤ j → j < (w8.1 127 4).toInt → (incF f i) j.toNat = (incF g i) j.toNat := by
          intro i i1 f g hfg j j0 j1
          unfold incF
          by_cases ci : i.toInt < 0
          · rw [if_pos ci, if_pos ci]
            exact hfg j j0 j1
          · rw [if_neg ci, if_neg ci]
            show (if j.toNat = i.toInt.toNat then f j.toNat + (1 : Int32) else f j.toNat) = (if j.toNat = i.toInt.toNat then g j.toNat + (1 : Int32) else g j.toNat)
            rw [hfg j j0 j1]
        refine g_buildP hI8 n1 (by omega) (by omega) (by omega) wb2.1 (by omega) wb2.2.1 (by omega) (fun v' hI' hF' e11 e169 e170 e171 e168 => nx v' hI' ((FR.refl _ w8).tr hF' rfl) (hF' 127 21 rfl).1 (hF' 127 22 rfl).1 (fun j => (hF' 128 j rfl).1) (pi_pipe hI8 hP8 (by omega) (by omega) hF' e11 e169 e170 e171 e168 (by omega) n6 (fun c0 => ?_) (fun c0 => ?_)) ⟨m, kd, incF (incF tk (w8.1 178 0)) (w8.1 178 1), ?_, fun j j0 j1 => ?_⟩)
        · have q := n7 c0
          have g := agr _ c0 (by omega)
          rw [← g.1, ← g.2] at q
          omega
        · have q := n8 c0
          have g := agr _ c0 n6
          rw [← g.1, ← g.2] at q
          exact q
        · rw [e11, (hF' 127 4 rfl).1]
          exact hT'
        · rw [(hF' 127 4 rfl).1] at j1
          have e : v'.1 168 j.toNat = (incF (incF (fun j => w8.1 168 j) (w8.1 178 0)) (w8.1 178 1)) j.toNat := congrFun e168 j.toNat
          rw [e, (hF' 163 _ rfl).1]
          refine ⟨?_, ?_⟩
          · rw [k163]
            exact (hS j j0 (by rw [← k4]; exact j1)).1
          · exact t0 _ n6 _ _ (t0 _ (by omega) _ _ (fun j j0 j1 => by show w8.1 168 j.toNat = tk j.toNat; rw [k168]; exact (hS j j0 (by rw [← k4]; exact j1)).2)) j j0 j1
theorem rp_126 {s : MW} {E : MW → Prop} {Q : Int32 → MW → Prop} (hE : ∀ v, BND v → FR [(173, none), (174, none)] s v → E v) (n : Nat) : ∀ (x : Int32) (v : MW), BND v → FR [(173, none), (174, none)] s v → 0 ≤ x.toInt → x.toInt ≤ 44 → (44 - x.toInt).toNat < n → q_Mo_readPlant_126 E Q n x v := by
  induction n with
  | zero => intros; omega
  | succ n ih =>
    intro x v hI hF x0 x1 hm
    rw [q_Mo_readPlant_126.eq_2]
    refine ⟨fun _ => hE v hI hF, fun c => ⟨⟨x0, by omega⟩, ?_⟩⟩
    have e3 := ti_add2 (Eq.refl x.toInt) (by decide : ((1 : Int32)).toInt = 1) (by omega) (by omega)
    refine h_Mo_forget (wbd_173 hI _ (by decide) (by decide)) x0 (by omega) (fun w' hI' hF' => ih _ w' hI' ((FR.I hF rfl).tr hF' rfl) (by omega) (by omega) (by omega))
