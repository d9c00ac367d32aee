theorem mp_par {ra ro rp : MW → (Int32 → MW → Prop) → Prop} {d : Nat} (hO : PMr 2 ro 3 d) {w : MW} {f : Int → Int} {n : Int} {W : Nat} {H : Int} {N o t i : Nat} {c : List Int} {Q : Int32 → MW → Prop} (hT : TXW f n W) (h01 : H = 0 ∨ H = 1) (hS : ES w f n W H N o t i) (o2 : o ≤ 20) (t2 : t ≤ 32) (hN : N ≤ lwn f n i) (hd : 3 * (20 - o) + 1 ≤ d + 1) (q8 : wq f n i (ltr 8 3) = false) (q : wq f n i (ltr 9 1) = true) (hQ : ∀ res r w', (∃ k, SP f n k 0 o c t i res) → OU w f n W H N o c i res r w' → Q r w') : q_Mr_part_29 ra ro rp 0 w Q := by
  have q3 := q
  rw [ltw_9] at q3
  have wd := (wq_1.mp q3).1
  have iW := lt_W hT (show 0 < wnd f n i - wat f n i by omega)
  have W4 := hS.1.2.1.2.1
  have lwi := lw_m (f := f) (n := n) i
  have mx := fun j => lw_max (f := f) hT.1 hT.2.1 j
  refine Eq.mpr (q_Mr_part_29.eq_1 _ _ _ _ _ _) ⟨fun c0 => ⟨fun _ => ?_, fun z => absurd i_0 z⟩, fun c0 => ?_⟩
  · rw [hS.2.2.2.1] at c0
    have s5 := ti_add2 hS.1.2.2.1 i_1 (by omega) (by omega)
    have s6 := ti_add2 hS.2.2.2.1 i_1 (by omega) (by omega)
    have F1 : FR lmr w (sI (sI w 147 5 ((w.1 147 5) + (1 : Int32))) 147 6 ((w.1 147 6) + (1 : Int32))) := FR.I (FR.I (FR.refl _ w) rfl) rfl
    have r5 : ((sI (sI w 147 5 ((w.1 147 5) + (1 : Int32))) 147 6 ((w.1 147 6) + (1 : Int32))).1 147 5).toInt = ((i + 1 : Nat) : Int) := by
      rw [sI_ne _ _ _ _ _ (by decide), sI_same, s5]
      omega
    have r6 : ((sI (sI w 147 5 ((w.1 147 5) + (1 : Int32))) 147 6 ((w.1 147 6) + (1 : Int32))).1 147 6).toInt = ((o + 1 : Nat) : Int) := by
      rw [sI_same, s6]
      omega
    have ky : ∀ (p j : Nat), (p = 151 ∨ p = 152 ∨ p = 153) → (sI (sI w 147 5 ((w.1 147 5) + (1 : Int32))) 147 6 ((w.1 147 6) + (1 : Int32))).1 p j = w.1 p j := fun p j hp => by
      rw [sI_oth _ _ _ _ _ _ (by omega), sI_oth _ _ _ _ _ _ (by omega)]
    have r7 : ((sI (sI w 147 5 ((w.1 147 5) + (1 : Int32))) 147 6 ((w.1 147 6) + (1 : Int32))).1 147 7).toInt = (t : Int) := by
      rw [sI_ne _ _ _ _ _ (by decide), sI_ne _ _ _ _ _ (by decide)]
      exact hS.2.2.2.2
    have r11 : ((sI (sI w 147 5 ((w.1 147 5) + (1 : Int32))) 147 6 ((w.1 147 6) + (1 : Int32))).1 147 11).toInt = (N : Int) := by
      rw [sI_ne _ _ _ _ _ (by decide), sI_ne _ _ _ _ _ (by decide)]
      exact hS.2.2.1
    have r12 : ((sI (sI w 147 5 ((w.1 147 5) + (1 : Int32))) 147 6 ((w.1 147 6) + (1 : Int32))).1 147 12).toInt = H := by
      rw [sI_ne _ _ _ _ _ (by decide), sI_ne _ _ _ _ _ (by decide)]
      exact hS.2.1
    generalize (sI (sI w 147 5 ((w.1 147 5) + (1 : Int32))) 147 6 ((w.1 147 6) + (1 : Int32))) = w1 at *
    refine hO w1 f n W H N (o + 1) t (i + 1) c _ hT h01 ⟨ms_fr hS.1 F1 rfl r5 (by omega), r12, r11, r6, r7⟩ (by omega) t2 (by omega) (by omega) (fun res r w5 hk ou => ?_)
    obtain ⟨k, hk⟩ := hk
    have sp := sp_par q8 q (by omega) hk
    obtain ⟨m5, F5, N5, e5, n5, l5, k5, ok, bad⟩ := ou
    have F05 : FR lmr w w5 := FR.tr F1 F5 rfl
    have K05 : ∀ (p j : Nat), (p = 151 ∨ p = 152 ∨ p = 153) → ((j : Int) < 3000 * (1 - H) + (N : Int) ∨ 3000 * (1 - H) + (N5 : Int) ≤ (j : Int)) → w5.1 p j = w.1 p j := fun p j hp hj => (k5 p j hp hj).trans (ky p j hp)
    cases hb : res.1 with
    | false =>
      rw [if_neg (nt hb)] at sp
      exact Eq.mpr (q_Mr_part_75.eq_1 _ _ _ _ _ _ _) ⟨fun _ => hQ _ _ _ ⟨_, sp⟩ (ou_no m5 F05 e5 n5 (by omega) K05 (by decide) res hb rfl), fun z => absurd (bad hb) z⟩
    | true =>
      rw [if_pos hb] at sp
      obtain ⟨o5, t5, tb, l, kk, el, tr, rl⟩ := ok hb
      have r0 := tr_lo tr
      have iR : res.2.2.2 ≤ W := m5.2.2.2
      have lwr := lw_m (f := f) (n := n) res.2.2.2
      refine Eq.mpr (q_Mr_part_75.eq_1 _ _ _ _ _ _ _) ⟨fun z => absurd z (by omega), fun _ => ⟨fun z => absurd i_0 z, fun _ => mone hT m5 (A := 41) (by decide) (fun q10 => ⟨fun _ => ⟨fun _ => ?_, fun z => absurd i_0 z⟩, fun z => absurd i1n z⟩) (fun q10 => ⟨fun z => absurd i_0 z, fun _ => ?_⟩)⟩⟩
      · have wd2 := (wq_1.mp q10).1
        have iW2 := lt_W hT (show 0 < wnd f n res.2.2.2 - wat f n res.2.2.2 by omega)
        rw [ltw_10, if_pos q10] at sp
        refine Eq.mpr (q_Mr_part_109.eq_1 _ _ _ _ _ _ _ _ _) ⟨fun _ => hQ _ _ _ ⟨_, sp⟩ ?_, fun z => absurd i_0 z⟩
        have s7 := ti_add2 m5.2.2.1 i_1 (by omega) (by omega)
        have s8 := ti_sub2 o5 i_1 (by omega) (by omega)
        have F56 : FR lmr w5 (sI (sI w5 147 5 ((w5.1 147 5) + (1 : Int32))) 147 6 ((w5.1 147 6) - (1 : Int32))) := FR.I (FR.I (FR.refl _ w5) rfl) rfl
        have v5 : ((sI (sI w5 147 5 ((w5.1 147 5) + (1 : Int32))) 147 6 ((w5.1 147 6) - (1 : Int32))).1 147 5).toInt = ((res.2.2.2 + 1 : Nat) : Int) := by
          rw [sI_ne _ _ _ _ _ (by decide), sI_same, s7]
          omega
        have v6 : ((sI (sI w5 147 5 ((w5.1 147 5) + (1 : Int32))) 147 6 ((w5.1 147 6) - (1 : Int32))).1 147 6).toInt = (o : Int) := by
          rw [sI_same, s8]
          omega
        have v7 : ((sI (sI w5 147 5 ((w5.1 147 5) + (1 : Int32))) 147 6 ((w5.1 147 6) - (1 : Int32))).1 147 7).toInt = (res.2.2.1 : Int) := by
          rw [sI_ne _ _ _ _ _ (by decide), sI_ne _ _ _ _ _ (by decide)]
          exact t5
        have v11 : ((sI (sI w5 147 5 ((w5.1 147 5) + (1 : Int32))) 147 6 ((w5.1 147 6) - (1 : Int32))).1 147 11).toInt = (N5 : Int) := by
          rw [sI_ne _ _ _ _ _ (by decide), sI_ne _ _ _ _ _ (by decide)]
          exact e5
        have vy : ∀ (p j : Nat), (p = 151 ∨ p = 152 ∨ p = 153) → (sI (sI w5 147 5 ((w5.1 147 5) + (1 : Int32))) 147 6 ((w5.1 147 6) - (1 : Int32))).1 p j = w5.1 p j := fun p j hp => by
          rw [sI_oth _ _ _ _ _ _ (by omega), sI_oth _ _ _ _ _ _ (by omega)]
        generalize (sI (sI w5 147 5 ((w5.1 147 5) + (1 : Int32))) 147 6 ((w5.1 147 6) - (1 : Int32))) = w6 at *
        exact ⟨ms_fr m5 F56 rfl v5 (by show res.2.2.2 + 1 ≤ W; omega), FR.tr F05 F56 rfl, N5, v11, n5, by show N5 + lwn f n i ≤ N + lwn f n (res.2.2.2 + 1); omega, fun p j hp hj => (vy p j hp).trans (K05 p j hp hj), fun _ => ⟨v6, v7, tb, l, kk, el, tr_fr _ _ _ tr (fun p j hp _ _ => vy p j hp) (by omega), rl⟩, fun z => absurd (show true = false from z) (by decide)⟩
      · rw [ltw_10, if_neg (nt q10)] at sp
        exact hQ _ _ _ ⟨_, sp⟩ (ou_no m5 F05 e5 n5 (by omega) K05 (by decide) (rsF res.2.2.2) rfl rfl)
  · have e20 : o = 20 := by
      have := Classical.not_not.mp c0
      rw [hS.2.2.2.1] at this
      omega
    exact hQ _ _ _ ⟨1, sp_f2 q8 q e20⟩ (ou_no hS.1 (FR.refl _ w) hS.2.2.1 (Nat.le_refl _) (Nat.le_refl _) (fun _ _ _ _ => rfl) (by decide) (rsF i) rfl rfl)
theorem mp_con {w : MW} {f : Int → Int} {n : Int} {W : Nat} {H : Int} {N o t i : Nat} {c : List Int} {Q : Int32 → MW → Prop} (hT : TXW f n W) (h01 : H = 0 ∨ H = 1) (hS : ES w f n W H N o t i) (t2 : t ≤ 32) (hN : N ≤ lwn f n i) (q8 : wq f n i (ltr 8 3) = false) (q : wq f n i (ltr 9 1) = false) (hQ : ∀ res r w', (∃ k, SP f n k 0 o c t i res) → OU w f n W H N o c i res r w' → Q r w') : p_Mr_conditionWord w (fun r17 w17 => ((r17.toInt < 0 → (Q (-1) w17)) ∧ (¬ (r17.toInt < 0) → ((¬ (w17.1 147 7).toInt = 32 → (p_Mr_node (sI (sI w17 147 7 ((w17.1 147 7) + (1 : Int32))) 147 5 ((w17.1 147 5) + (1 : Int32))) r17 (-1) (-1) (fun r20 w20 => (Q r20 w20)))) ∧ (¬ (¬ (w17.1 147 7).toInt = 32) → (Q (-1) w17)))))) := by
  have mx := fun j => lw_max (f := f) hT.1 hT.2.1 j
  have W4 := hS.1.2.1.2.1
  have sp := sp_con (o := o) (c := c) (t := t) q8 q
  have no : (cnw f n i < 0 ∨ t = 32) → Q (-1) w := fun z => by
    rw [if_pos z] at sp
    exact hQ _ _ _ ⟨1, sp⟩ (ou_no hS.1 (FR.refl _ w) hS.2.2.1 (Nat.le_refl _) (Nat.le_refl _) (fun _ _ _ _ => rfl) (by decide) (rsF i) rfl rfl)
  refine mcn hT hS.1 (fun r er => ⟨fun z => no (Or.inl (by omega)), fun z => ⟨fun z2 => ?_, fun z2 => no (Or.inr (by have := Classical.not_not.mp z2; rw [hS.2.2.2.2] at this; omega))⟩⟩)
  rw [hS.2.2.2.2] at z2
  have cb := cnw_b (f := f) (n := n) (i := i)
  have c2 := cb.2 (by omega)
  have iW := lt_W hT (show 0 < wnd f n i - wat f n i by omega)
  have lwi := lw_l (f := f) (n := n) (i := i) c2
  have m1 := mx i
  rw [if_neg (fun y => by rcases y with y | y <;> omega)] at sp
  have s7 := ti_add2 hS.2.2.2.2 i_1 (by omega) (by omega)
  have s5 := ti_add2 hS.1.2.2.1 i_1 (by omega) (by omega)
  have F1 : FR lmr w (sI (sI w 147 7 ((w.1 147 7) + (1 : Int32))) 147 5 ((w.1 147 5) + (1 : Int32))) := FR.I (FR.I (FR.refl _ w) rfl) rfl
  have r5 : ((sI (sI w 147 7 ((w.1 147 7) + (1 : Int32))) 147 5 ((w.1 147 5) + (1 : Int32))).1 147 5).toInt = ((i + 1 : Nat) : Int) := by
    rw [sI_same, s5]
    omega
  have r6 : ((sI (sI w 147 7 ((w.1 147 7) + (1 : Int32))) 147 5 ((w.1 147 5) + (1 : Int32))).1 147 6).toInt = (o : Int) := by
    rw [sI_ne _ _ _ _ _ (by decide), sI_ne _ _ _ _ _ (by decide)]
    exact hS.2.2.2.1
  have r7 : ((sI (sI w 147 7 ((w.1 147 7) + (1 : Int32))) 147 5 ((w.1 147 5) + (1 : Int32))).1 147 7).toInt = ((t + 1 : Nat) : Int) := by
    rw [sI_ne _ _ _ _ _ (by decide), sI_same, s7]
    omega
  have r11 : ((sI (sI w 147 7 ((w.1 147 7) + (1 : Int32))) 147 5 ((w.1 147 5) + (1 : Int32))).1 147 11).toInt = (N : Int) := by
    rw [sI_ne _ _ _ _ _ (by decide), sI_ne _ _ _ _ _ (by decide)]
    exact hS.2.2.1
  have r12 : ((sI (sI w 147 7 ((w.1 147 7) + (1 : Int32))) 147 5 ((w.1 147 5) + (1 : Int32))).1 147 12).toInt = H := by
    rw [sI_ne _ _ _ _ _ (by decide), sI_ne _ _ _ _ _ (by decide)]
    exact hS.2.1
  have ky : ∀ (p j : Nat), (p = 151 ∨ p = 152 ∨ p = 153) → (sI (sI w 147 7 ((w.1 147 7) + (1 : Int32))) 147 5 ((w.1 147 5) + (1 : Int32))).1 p j = w.1 p j := fun p j hp => by
    rw [sI_oth _ _ _ _ _ _ (by omega), sI_oth _ _ _ _ _ _ (by omega)]
  generalize (sI (sI w 147 7 ((w.1 147 7) + (1 : Int32))) 147 5 ((w.1 147 5) + (1 : Int32))) = w1 at *
  refine mnd r12 h01 r11 (by omega) (fun x w7 nd => hQ _ _ _ ⟨1, sp⟩ ?_)
  obtain ⟨ex, e7, F7, K7, x1, x2, x3⟩ := nd
  refine ⟨ms_fr hS.1 (FR.tr F1 F7 rfl) rfl (by rw [(F7 147 5 rfl).1]; exact r5) (by show i + 1 ≤ W; omega), FR.tr F1 F7 rfl, N + 1, e7, by omega, by show N + 1 + lwn f n i ≤ N + lwn f n (i + 1); omega, fun p j hp hj => (K7 p j hp (by omega)).trans (ky p j hp), fun _ => ⟨by rw [(F7 147 6 rfl).1]; exact r6, by rw [(F7 147 7 rfl).1]; exact r7, by show t + 1 ≤ 32; omega, [cnw f n i], 1, rfl, ?_, by omega⟩, fun y => absurd (show true = false from y) (by decide)⟩
  rw [TRe_u, x1, er]
  exact ⟨by omega, Or.inl ⟨by omega, cb.1, rfl⟩⟩
theorem mp_part {ra ro rp : MW → (Int32 → MW → Prop) → Prop} {d : Nat} (hO : PMr 2 ro 3 d) (hP : PMr 0 rp 1 d) : PMr 0 (pb_Mr_part ra ro rp) 1 (d + 1) := by
  intro w f n W H N o t i c Q hT h01 hS o2 t2 hN hd hQ
  refine Eq.mpr (pb_Mr_part.eq_1 _ _ _ _ _) (mis3 hT hS.1 (A := 110) (B := 111) (C := 116) (by decide) (by decide) (by decide) (fun q => ⟨fun _ => ?_, fun z => absurd i1n z⟩) (fun q => ⟨fun z => absurd i_0 z, fun _ => ?_⟩))
  · exact mp_not hP hT h01 hS o2 t2 hN hd (by rw [ltw_8]; exact q) hQ
  · refine mone hT hS.1 (A := 40) (by decide) (fun q2 => ⟨fun z => absurd z i1n, fun _ => ?_⟩) (fun q2 => ⟨fun _ => ?_, fun z => absurd i_0 z⟩)
    · exact mp_par hO hT h01 hS o2 t2 hN hd (by rw [ltw_8]; exact q) (by rw [ltw_9]; exact q2) hQ
    · exact mp_con hT h01 hS t2 hN (by rw [ltw_8]; exact q) (by rw [ltw_9]; exact q2) hQ
