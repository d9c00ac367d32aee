theorem mp_par {ra ro rp : MW → (Int32 → MW → Prop) → Prop} {d : Nat} (hO : PMr 2 ro 3 d) {w : MW} {f : Int → Int} {n : Int} {W : Nat} {H : Int} {N o t i : Nat} {c : List Int} {Q : Int32 → MW → Prop} (hT : TXW f n W) (h01 : H = 0 ∨ H = 1) (hS : ES w f n W H N o t i) (o2 : o ≤ 20) (t2 : t ≤ 32) (hN : N ≤ lwn f n i) (hd : 3 * (20 - o) + 1 ≤ d + 1) (q8 : wq f n i (ltr 8 3) = false) (q : wq f n i (ltr 9 1) = true) (hQ : ∀ res r w', (∃ k, SP f n k 0 o c t i res) → OU w f n W H N o c i res r w' → Q r w') : q_Mr_part_29 ra ro rp 0 w Q := by
  have q3 := q
  rw [ltw_9] at q3
  have wd := (wq_1.mp q3).1
  have iW := lt_W hT (show 0 < wnd f n i - wat f n i by omega)
  have W4 := hS.1.2.1.2.1
  have lwi := lw_m (f := f) (n := n) i
  have mx := fun j => lw_max (f := f) hT.1 hT.2.1 j
  refine Eq.mpr (q_Mr_part_29.eq_1 _ _ _ _ _ _) ⟨fun c0 => ⟨fun _ => ?_, fun z => absurd i_0 z⟩, fun c0 => ?_⟩
  · rw [hS.2.2.2.1] at c0
    have s5 := ti_add2 hS.1.2.2.1 i_1 (by omega) (by omega)
    have s6 := ti_add2 hS.2.2.2.1 i_1 (by omega) (by omega)
    have F1 : FR lmr w (sI (sI w 147 5 ((w.1 147 5) + (1 : Int32))) 147 6 ((w.1 147 6) + (1 : Int32))) := FR.I (FR.I (FR.refl _ w) rfl) rfl
    have r5 : ((sI (sI w 147 5 ((w.1 147 5) + (1 : Int32))) 147 6 ((w.1 147 6) + (1 : Int32))).1 147 5).toInt = ((i + 1 : Nat) : Int) := by
      rw [sI_ne _ _ _ _ _ (by decide), sI_same, s5]
      omega
    have r6 : ((sI (sI w 147 5 ((w.1 147 5) + (1 : Int32))) 147 6 ((w.1 147 6) + (1 : Int32))).1 147 6).toInt = ((o + 1 : Nat) : Int) := by
      rw [sI_same, s6]
      omega
    have ky : ∀ (p j : Nat), (p = 151 ∨ p = 152 ∨ p = 153) → (sI (sI w 147 5 ((w.1 147 5) + (1 : Int32))) 147 6 ((w.1 147 6) + (1 : Int32))).1 p j = w.1 p j := fun p j hp => by
      rw [sI_oth _ _ _ _ _ _ (by omega), sI_oth _ _ _ _ _ _ (by omega)]
    have r7 : ((sI (sI w 147 5 ((w.1 147 5) + (1 : Int32))) 147 6 ((w.1 147 6) + (1 : Int32))).1 147 7).toInt = (t : Int) := by
      rw [sI_ne _ _ _ _ _ (by decide), sI_ne _ _ _ _ _ (by decide)]
      exact hS.2.2.2.2
    have r11 : ((sI (sI w 147 5 ((w.1 147 5) + (1 : Int32))) 147 6 ((w.1 147 6) + (1 : Int32))).1 147 11).toInt = (N : Int) := by
      rw [sI_ne _ _ _ _ _ (by decide), sI_ne _ _ _ _ _ (by decide)]
      exact hS.2.2.1
    have r12 : ((sI (sI w 147 5 ((w.1 147 5) + (1 : Int32))) 147 6 ((w.1 147 6) + (1 : Int32))).1 147 12).toInt = H := by
      rw [sI_ne _ _ _ _ _ (by decide), sI_ne _ _ _ _ _ (by decide)]
      exact hS.2.1
    generalize (sI (sI w 147 5 ((w.1 147 5) + (1 : Int32))) 147 6 ((w.1 147 6) + (1 : Int32))) = w1 at *
    refine hO w1 f n W H N (o + 1) t (i + 1) c _ hT h01 ⟨ms_fr hS.1 F1 rfl r5 (by omega), r12, r11, r6, r7⟩ (by omega) t2 (by omega) (by omega) (fun res r w5 hk ou => ?_)
    obtain ⟨k, hk⟩ := hk
    have sp := sp_par q8 q (by omega) hk
    obtain ⟨m5, F5, N5, e5, n5, l5, k5, ok, bad⟩ := ou
    have F05 : FR lmr w w5 := FR.tr F1 F5 rfl
    have K05 : ∀ (p j : Nat), (p = 151 ∨ p = 152 ∨ p = 153) → ((j : Int) < 3000 * (1 - H) + (N : Int) ∨ 3000 * (1 - H) + (N5 : Int) ≤ (j : Int)) → w5.1 p j = w.1 p j := fun p j hp hj => (k5 p j hp hj).trans (ky p j hp)
    cases hb : res.1 with
    | false =>
      rw [if_neg (nt hb)] at sp
      exact Eq.mpr (q_Mr_part_75.eq_1 _ _ _ _ _ _ _) ⟨fun _ => hQ _ _ _ ⟨_, sp⟩ (ou_no m5 F05 e5 n5 (by omega) K05 (by decide) res hb rfl), fun z => absurd (bad hb) z⟩
    | true =>
      rw [if_pos hb] at sp
      obtain ⟨o5, t5, tb, l, kk, el, tr, rl⟩ := ok hb
      have r0 := tr_lo tr
      have iR : res.2.2.2 ≤ W := m5.2.2.2
      have lwr := lw_m (f := f) (n := n) res.2.2.2
      refine Eq.mpr (q_Mr_part_75.eq_1 _ _ _ _ _ _ _) ⟨fun z => absurd z (by omega), fun _ => ⟨fun z => absurd i_0 z, fun _ => mone hT m5 (A := 41) (by decide) (fun q10 => ⟨fun _ => ⟨fun _ => ?_, fun z => absurd i_0 z⟩, fun z => absurd i1n z⟩) (fun q10 => ⟨fun z => absurd i_0 z, fun _ => ?_⟩)⟩⟩
      · have wd2 := (wq_1.mp q10).1
        have iW2 := lt_W hT (show 0 < wnd f n res.2.2.2 - wat f n res.2.2.2 by omega)
        rw [ltw_10, if_pos q10] at sp
        refine Eq.mpr (q_Mr_part_109.eq_1 _ _ _ _ _ _ _ _ _) ⟨fun _ => hQ _ _ _ ⟨_, sp⟩ ?_, fun z => absurd i_0 z⟩
        have s7 := ti_add2 m5.2.2.1 i_1 (by omega) (by omega)
        have s8 := ti_sub2 o5 i_1 (by omega) (by omega)
        have F56 : FR lmr w5 (sI (sI w5 147 5 ((w5.1 147 5) + (1 : Int32))) 147 6 ((w5.1 147 6) - (1 : Int32))) := FR.I (FR.I (FR.refl _ w5) rfl) rfl
        have v5 : ((sI (sI w5 147 5 ((w5.1 147 5) + (1 : Int32))) 147 6 ((w5.1 147 6) - (1 : Int32))).1 147 5).toInt = ((res.2.2.2 + 1 : Nat) : Int) := by
          rw [sI_ne _ _ _ _ _ (by decide), sI_same, s7]
          omega
        have v6 : ((sI (sI w5 147 5 ((w5.1 147 5) + (1 : Int32))) 147 6 ((w5.1 147 6) - (1 : Int32))).1 147 6).toInt = (o : Int) := by
          rw [sI_same, s8]
          omega
        have v7 : ((sI (sI w5 147 5 ((w5.1 147 5) + (1 : Int32))) 147 6 ((w5.1 147 6) - (1 : Int32))).1 147 7).toInt = (res.2.2.1 : Int) := by
          rw [sI_ne _ _ _ _ _ (by decide), sI_ne _ _ _ _ _ (by decide)]
          exact t5
        have v11 : ((sI (sI w5 147 5 ((w5.1 147 5) + (1 : Int32))) 147 6 ((w5.1 147 6) - (1 : Int32))).1 147 11).toInt = (N5 : Int) := by
          rw [sI_ne _ _ _ _ _ (by decide), sI_ne _ _ _ _ _ (by decide)]
          exact e5
        have vy : ∀ (p j : Nat), (p = 151 ∨ p = 152 ∨ p = 153) → (sI (sI w5 147 5 ((w5.1 147 5) + (1 : Int32))) 147 6 ((w5.1 147 6) - (1 : Int32))).1 p j = w5.1 p j := fun p j hp => by
          rw [sI_oth _ _ _ _ _ _ (by omega), sI_oth _ _ _ _ _ _ (by omega)]
        generalize (sI (sI w5 147 5 ((w5.1 147 5) + (1 : Int32))) 147 6 ((w5.1 147 6) - (1 : Int32))) = w6 at *
        exact ⟨ms_fr m5 F56 rfl v5 (by show res.2.2.2 + 1 ≤ W; omega), FR.tr F05 F56 rfl, N5, v11, n5, by show N5 + lwn f n i ≤ N + lwn f n (res.2.2.2 + 1); omega, fun p j hp hj => (vy p j hp).trans (K05 p j hp hj), fun _ => ⟨v6, v7, tb, l, kk, el, tr_fr _ _ _ tr (fun p j hp _ _ => vy p j hp) (by omega), rl⟩, fun z => absurd (show true = false from z) (by decide)⟩
      · rw [ltw_10, if_neg (nt q10)] at sp
        exact hQ _ _ _ ⟨_, sp⟩ (ou_no m5 F05 e5 n5 (by omega) K05 (by decide) (rsF res.2.2.2) rfl rfl)
  · have e20 : o = 20 := by
      have := Classical.not_not.mp c0
      rw [hS.2.2.2.1] at this
      omega
    exact hQ _ _ _ ⟨1, sp_f2 q8 q e20⟩ (ou_no hS.1 (FR.refl _ w) hS.2.2.1 (Nat.le_refl _) (Nat.le_refl _) (fun _ _ _ _ => rfl) (by decide) (rsF i) rfl rfl)
theorem mp_con {w : MW} {f : Int → Int} {n : Int} {W : Nat} {H : Int} {N o t i : Nat} {c : List Int} {Q : Int32 → MW → Prop} (hT : TXW f n W) (h01 : H = 0 ∨ H = 1) (hS : ES w f n W H N o t i) (t2 : t ≤ 32) (hN : N ≤ lwn f n i) (q8 : wq f n i (ltr 8 3) = false) (q : wq f n i (ltr 9 1) = false) (hQ : ∀ res r w', (∃ k, SP f n k 0 o c t i res) → OU w f n W H N o c i res r w' → Q r w') : p_Mr_conditionWord w (fun r17 w17 => ((r17.toInt < 0 → (Q (-1) w17)) ∧ (¬ (r17.toInt < 0) → ((¬ (w17.1 147 7).toInt = 32 → (p_Mr_node (sI (sI w17 147 7 ((w17.1 147 7) + (1 : Int32))) 147 5 ((w17.1 147 5) + (1 : Int32))) r17 (-1) (-1) (fun r20 w20 => (Q r20 w20)))) ∧ (¬ (¬ (w17.1 147 7).toInt = 32) → (Q (-1) w17)))))) := by
  have mx := fun j => lw_max (f := f) hT.1 hT.2.1 j
  have W4 := hS.1.2.1.2.1
  have sp := sp_con (o := o) (c := c) (t := t) q8 q
  have no : (cnw f n i < 0 ∨ t = 32) → Q (-1) w := fun z => by
    rw [if_pos z] at sp
    exact hQ _ _ _ ⟨1, sp⟩ (ou_no hS.1 (FR.refl _ w) hS.2.2.1 (Nat.le_refl _) (Nat.le_refl _) (fun _ _ _ _ => rfl) (by decide) (rsF i) rfl rfl)
  refine mcn hT hS.1 (fun r er => ⟨fun z => no (Or.inl (by omega)), fun z => ⟨fun z2 => ?_, fun z2 => no (Or.inr (by have := Classical.not_not.mp z2; rw [hS.2.2.2.2] at this; omega))⟩⟩)
  rw [hS.2.2.2.2] at z2
  have cb := cnw_b (f := f) (n := n) (i := i)
  have c2 := cb.2 (by omega)
  have iW := lt_W hT (show 0 < wnd f n i - wat f n i by omega)
  have lwi := lw_l (f := f) (n := n) (i := i) c2
  have m1 := mx i
  rw [if_neg (fun y => by rcases y with y | y <;> omega)] at sp
  have s7 := ti_add2 hS.2.2.2.2 i_1 (by omega) (by omega)
  have s5 := ti_add2 hS.1.2.2.1 i_1 (by omega) (by omega)
  have F1 : FR lmr w (sI (sI w 147 7 ((w.1 147 7) + (1 : Int32))) 147 5 ((w.1 147 5) + (1 : Int32))) := FR.I (FR.I (FR.refl _ w) rfl) rfl
  have r5 : ((sI (sI w 147 7 ((w.1 147 7) + (1 : Int32))) 147 5 ((w.1 147 5) + (1 : Int32))).1 147 5).toInt = ((i + 1 : Nat) : Int) := by
    rw [sI_same, s5]
    omega
  have r6 : ((sI (sI w 147 7 ((w.1 147 7) + (1 : Int32))) 147 5 ((w.1 147 5) + (1 : Int32))).1 147 6).toInt = (o : Int) := by
    rw [sI_ne _ _ _ _ _ (by decide), sI_ne _ _ _ _ _ (by decide)]
    exact hS.2.2.2.1
  have r7 : ((sI (sI w 147 7 ((w.1 147 7) + (1 : Int32))) 147 5 ((w.1 147 5) + (1 : Int32))).1 147 7).toInt = ((t + 1 : Nat) : Int) := by
    rw [sI_ne _ _ _ _ _ (by decide), sI_same, s7]
    omega
  have r11 : ((sI (sI w 147 7 ((w.1 147 7) + (1 : Int32))) 147 5 ((w.1 147 5) + (1 : Int32))).1 147 11).toInt = (N : Int) := by
    rw [sI_ne _ _ _ _ _ (by decide), sI_ne _ _ _ _ _ (by decide)]
    exact hS.2.2.1
  have r12 : ((sI (sI w 147 7 ((w.1 147 7) + (1 : Int32))) 147 5 ((w.1 147 5) + (1 : Int32))).1 147 12).toInt = H := by
    rw [sI_ne _ _ _ _ _ (by decide), sI_ne _ _ _ _ _ (by decide)]
    exact hS.2.1
  have ky : ∀ (p j : Nat), (p = 151 ∨ p = 152 ∨ p = 153) → (sI (sI w 147 7 ((w.1 147 7) + (1 : Int32))) 147 5 ((w.1 147 5) + (1 : Int32))).1 p j = w.1 p j := fun p j hp => by
    rw [sI_oth _ _ _ _ _ _ (by omega), sI_oth _ _ _ _ _ _ (by omega)]
  generalize (sI (sI w 147 7 ((w.1 147 7) + (1 : Int32))) 147 5 ((w.1 147 5) + (1 : Int32))) = w1 at *
  refine mnd r12 h01 r11 (by omega) (fun x w7 nd => hQ _ _ _ ⟨1, sp⟩ ?_)
  obtain ⟨ex, e7, F7, K7, x1, x2, x3⟩ := nd
  refine ⟨ms_fr hS.1 (FR.tr F1 F7 rfl) rfl (by rw [(F7 147 5 rfl).1]; exact r5) (by show i + 1 ≤ W; omega), FR.tr F1 F7 rfl, N + 1, e7, by omega, by show N + 1 + lwn f n i ≤ N + lwn f n (i + 1); omega, fun p j hp hj => (K7 p j hp (by omega)).trans (ky p j hp), fun _ => ⟨by rw [(F7 147 6 rfl).1]; exact r6, by rw [(F7 147 7 rfl).1]; exact r7, by show t + 1 ≤ 32; omega, [cnw f n i], 1, rfl, ?_, by omega⟩, fun y => absurd (show true = false from y) (by decide)⟩
  rw [TRe_u, x1, er]
  exact ⟨by omega, Or.inl ⟨by omega, cb.1, rfl⟩⟩
theorem mp_part {ra ro rp : MW → (Int32 → MW → Prop) → Prop} {d : Nat} (hO : PMr 2 ro 3 d) (hP : PMr 0 rp 1 d) : PMr 0 (pb_Mr_part ra ro rp) 1 (d + 1) := by
  intro w f n W H N o t i c Q hT h01 hS o2 t2 hN hd hQ
  refine Eq.mpr (pb_Mr_part.eq_1 _ _ _ _ _) (mis3 hT hS.1 (A := 110) (B := 111) (C := 116) (by decide) (by decide) (by decide) (fun q => ⟨fun _ => ?_, fun z => absurd i1n z⟩) (fun q => ⟨fun z => absurd i_0 z, fun _ => ?_⟩))
  · exact mp_not hP hT h01 hS o2 t2 hN hd (by rw [ltw_8]; exact q) hQ
  · refine mone hT hS.1 (A := 40) (by decide) (fun q2 => ⟨fun z => absurd z i1n, fun _ => ?_⟩) (fun q2 => ⟨fun _ => ?_, fun z => absurd i_0 z⟩)
    · exact mp_par hO hT h01 hS o2 t2 hN hd (by rw [ltw_8]; exact q) (by rw [ltw_9]; exact q2) hQ
    · exact mp_con hT h01 hS t2 hN (by rw [ltw_8]; exact q) (by rw [ltw_9]; exact q2) hQ
/-! and, or: the reference -/
theorem sp3_t {f : Int → Int} {n : Int} {k o : Nat} {c : List Int} {t i : Nat} {r1 r : Bool × List Int × Nat × Nat} (q : wq f n i (ltr 11 3) = true) (h : SP f n k 0 o c t (i + 1) r1) (h1 : r1.1 = true) (h2 : SP f n k 3 o (r1.2.1 ++ [17]) r1.2.2.1 r1.2.2.2 r) : SP f n (k + 1) 3 o c t i r := by
  rw [SP3, if_pos q]
  exact ⟨r1, h, by rw [if_pos h1]; exact h2⟩
theorem sp3_f {f : Int → Int} {n : Int} {k o : Nat} {c : List Int} {t i : Nat} {r1 : Bool × List Int × Nat × Nat} (q : wq f n i (ltr 11 3) = true) (h : SP f n k 0 o c t (i + 1) r1) (h1 : r1.1 = false) : SP f n (k + 1) 3 o c t i r1 := by
  rw [SP3, if_pos q]
  exact ⟨r1, h, by rw [if_neg (nt h1)]⟩
theorem sp3_n {f : Int → Int} {n : Int} {o : Nat} {c : List Int} {t i : Nat} (q : wq f n i (ltr 11 3) = false) : SP f n 1 3 o c t i (true, c, t, i) := by
  rw [SP3, if_neg (nt q)]
theorem mv_and0 {ra ro rp : MW → (Int32 → MW → Prop) → Prop} {E Q : Int32 → MW → Prop} {x : Int32} {w : MW} (hx : x.toInt < 0) (hE : E x w) (m : Nat) (hm : 0 < m) : q_Mr_and_5 ra ro rp E Q m x w := by
  cases m with
  | zero => omega
  | succ m =>
    rw [q_Mr_and_5.eq_2]
    exact ⟨fun _ => hE, fun z => absurd hx z⟩
theorem mv_and {ra ro rp : MW → (Int32 → MW → Prop) → Prop} {d : Nat} (hP : PMr 0 rp 1 d) {w0 : MW} {f : Int → Int} {n : Int} {W : Nat} {H : Int} {N0 o i0 : Nat} {c : List Int} {E Q : Int32 → MW → Prop} (hT : TXW f n W) (h01 : H = 0 ∨ H = 1) (o2 : o ≤ 20) (hd : 3 * (20 - o) + 1 ≤ d) (hH : (w0.1 147 12).toInt = H) (m : Nat) : ∀ (x : Int32) (w : MW) (l : List Int) (kk N t i : Nat), ES w f n W H N o t i → FR lmr w0 w → N0 ≤ N → N + lwn f n i0 ≤ N0 + lwn f n i → (∀ (p j : Nat), (p = 151 ∨ p = 152 ∨ p = 153) → ((j : Int) < 3000 * (1 - H) + (N0 : Int) ∨ 3000 * (1 - H) + (N : Int) ≤ (j : Int)) → w.1 p j = w0.1 p j) → TRe w (3000 * (1 - H) + (N0 : Int)) kk x.toInt l → x.toInt < 3000 * (1 - H) + (N : Int) → t ≤ 32 → N ≤ lwn f n i → (∀ res r w', (∃ k, SP f n k 3 o (c ++ l) t i res) → OU w0 f n W H N0 o c i0 res r w' → E r w') → W + 1 - i < m → q_Mr_and_5 ra ro rp E Q m x w := by
  induction m with
  | zero => intros; omega
  | succ m ih =>
    intro x w l kk N t i hS hF hN0 hacc hK tr xl t2 hN hE hm
    have x0 := tr_lo tr
    have W4 := hS.1.2.1.2.1
    have mx := fun j => lw_max (f := f) hT.1 hT.2.1 j
    rw [q_Mr_and_5.eq_2]
    refine ⟨fun z => absurd z (by omega), fun _ => mis3 hT hS.1 (A := 97) (B := 110) (C := 100) (by decide) (by decide) (by decide) (fun q => ⟨fun z => absurd z i1n, fun _ => ?_⟩) (fun q => ⟨fun _ => ?_, fun z => absurd i_0 z⟩)⟩
    · have wd := (wq_3.mp q).1
      have iW := lt_W hT (show 0 < wnd f n i - wat f n i by omega)
      have lwi := lw_l (f := f) (n := n) (i := i) (by omega)
      have q' : wq f n i (ltr 11 3) = true := by rw [ltw_11]; exact q
      have s5 := ti_add2 hS.1.2.2.1 i_1 (by omega) (by omega)
      have F1 : FR lmr w (sI w 147 5 ((w.1 147 5) + (1 : Int32))) := FR.I (FR.refl _ w) rfl
      have r5 : ((sI w 147 5 ((w.1 147 5) + (1 : Int32))).1 147 5).toInt = ((i + 1 : Nat) : Int) := by
        rw [sI_same, s5]
        omega
      have r6 : ((sI w 147 5 ((w.1 147 5) + (1 : Int32))).1 147 6).toInt = (o : Int) := by
        rw [sI_ne _ _ _ _ _ (by decide)]
        exact hS.2.2.2.1
      have r7 : ((sI w 147 5 ((w.1 147 5) + (1 : Int32))).1 147 7).toInt = (t : Int) := by
        rw [sI_ne _ _ _ _ _ (by decide)]
        exact hS.2.2.2.2
      have r11 : ((sI w 147 5 ((w.1 147 5) + (1 : Int32))).1 147 11).toInt = (N : Int) := by
        rw [sI_ne _ _ _ _ _ (by decide)]
        exact hS.2.2.1
      have r12 : ((sI w 147 5 ((w.1 147 5) + (1 : Int32))).1 147 12).toInt = H := by
        rw [sI_ne _ _ _ _ _ (by decide)]
        exact hS.2.1
      have ky : ∀ (p j : Nat), (p = 151 ∨ p = 152 ∨ p = 153) → (sI w 147 5 ((w.1 147 5) + (1 : Int32))).1 p j = w.1 p j := fun p j hp => by
        rw [sI_oth _ _ _ _ _ _ (by omega)]
      generalize (sI w 147 5 ((w.1 147 5) + (1 : Int32))) = w1 at *
      refine hP w1 f n W H N o t (i + 1) (c ++ l) _ hT h01 ⟨ms_fr hS.1 F1 rfl r5 (by omega), r12, r11, r6, r7⟩ o2 t2 (by omega) hd (fun res r w5 hk ou => ?_)
      obtain ⟨k, hk⟩ := hk
      obtain ⟨m5, F5, N5, e5, n5, l5, k5, ok, bad⟩ := ou
      have F05 : FR lmr w0 w5 := FR.tr (FR.tr hF F1 rfl) F5 rfl
      have K15 : ∀ (p j : Nat), (p = 151 ∨ p = 152 ∨ p = 153) → ((j : Int) < 3000 * (1 - H) + (N : Int) ∨ 3000 * (1 - H) + (N5 : Int) ≤ (j : Int)) → w5.1 p j = w.1 p j := fun p j hp hj => (k5 p j hp hj).trans (ky p j hp)
      have K05 : ∀ (p j : Nat), (p = 151 ∨ p = 152 ∨ p = 153) → ((j : Int) < 3000 * (1 - H) + (N0 : Int) ∨ 3000 * (1 - H) + (N5 : Int) ≤ (j : Int)) → w5.1 p j = w0.1 p j := fun p j hp hj => (K15 p j hp (by omega)).trans (hK p j hp (by omega))
      have mr := mx res.2.2.2
      have iR : res.2.2.2 ≤ W := m5.2.2.2
      have up : i < res.2.2.2 := by
        by_cases y : res.2.2.2 ≤ i
        · have := lw_le (f := f) (n := n) y
          omega
        · omega
      cases hb : res.1 with
      | false =>
        have rn := bad hb
        exact ⟨fun z => absurd rn (by omega), fun _ => mv_and0 (by decide) (hE res _ _ ⟨_, sp3_f q' hk hb⟩ (ou_no m5 F05 e5 (by omega) (by omega) K05 (by decide) res hb rfl)) m (by omega)⟩
      | true =>
        obtain ⟨o5, t5, tb, l2, k2, el, tr2, rl⟩ := ok hb
        have r0 := tr_lo tr2
        refine ⟨fun _ => ?_, fun z => absurd (show 0 ≤ r.toInt by omega) z⟩
        have v12 : (w5.1 147 12).toInt = H := by rw [(F05 147 12 rfl).1]; exact hH
        refine mnd v12 h01 e5 (by omega) (fun x7 w7 nd => ?_)
        obtain ⟨ex, e7, F7, K7, y1, y2, y3⟩ := nd
        have eL : res.2.1 ++ [17] = c ++ (l ++ l2 ++ [17]) := by rw [el, List.append_assoc, List.append_assoc, List.append_assoc]
        refine ih x7 w7 (l ++ l2 ++ [17]) (kk + k2 + 1) (N5 + 1) res.2.2.1 res.2.2.2 ⟨ms_fr m5 F7 rfl (by rw [(F7 147 5 rfl).1]; exact m5.2.2.1) iR, by rw [(F7 147 12 rfl).1]; exact v12, e7, by rw [(F7 147 6 rfl).1]; exact o5, by rw [(F7 147 7 rfl).1]; exact t5⟩ (FR.tr F05 F7 rfl) (by omega) (by omega) (fun p j hp hj => (K7 p j hp (by omega)).trans (K05 p j hp (by omega))) ?_ (by omega) tb (by omega) (fun res' r' w' hk' ou' => ?_) (by omega)
        · rw [TRe_u, y1, y2, y3]
          refine ⟨by omega, Or.inr (Or.inr ⟨Or.inl b17, by omega, by omega, l, l2, tr_le (tr_fr _ _ _ tr (fun p j hp j0 j1 => (K7 p j hp (by omega)).trans (K15 p j hp (by omega))) (by omega)) (by omega), tr_le (tr_fr _ _ _ (tr_low (show 3000 * (1 - H) + (N0 : Int) ≤ 3000 * (1 - H) + (N : Int) by omega) _ _ _ tr2) (fun p j hp j0 j1 => K7 p j hp (by omega)) (by omega)) (by omega), by rw [b17]⟩)⟩
        · obtain ⟨k', hk'⟩ := hk'
          rw [← eL] at hk'
          exact hE res' r' w' ⟨k + k' + 1, sp3_t q' (sp_le hk (by omega)) hb (sp_le hk' (by omega))⟩ ou'
    · exact hE (true, c ++ l, t, i) x w ⟨1, sp3_n (by rw [ltw_11]; exact q)⟩ ⟨hS.1, hF, N, hS.2.2.1, hN0, hacc, hK, fun _ => ⟨hS.2.2.2.1, hS.2.2.2.2, t2, l, kk, rfl, tr, xl⟩, fun z => absurd (show true = false from z) (by decide)⟩
theorem sp1_t {f : Int → Int} {n : Int} {k o : Nat} {c : List Int} {t i : Nat} {r1 r : Bool × List Int × Nat × Nat} (h : SP f n k 0 o c t i r1) (h1 : r1.1 = true) (h2 : SP f n k 3 o r1.2.1 r1.2.2.1 r1.2.2.2 r) : SP f n (k + 1) 1 o c t i r := by
  rw [SP1]
  exact ⟨r1, h, by rw [if_pos h1]; exact h2⟩
theorem sp1_f {f : Int → Int} {n : Int} {k o : Nat} {c : List Int} {t i : Nat} {r1 : Bool × List Int × Nat × Nat} (h : SP f n k 0 o c t i r1) (h1 : r1.1 = false) : SP f n (k + 1) 1 o c t i r1 := by
  rw [SP1]
  exact ⟨r1, h, by rw [if_neg (nt h1)]⟩
theorem mp_and {ra ro rp : MW → (Int32 → MW → Prop) → Prop} {d : Nat} (hP : PMr 0 rp 1 d) : PMr 1 (pb_Mr_and ra ro rp) (1 + 1) (d + 1) := by
  intro w f n W H N o t i c Q hT h01 hS o2 t2 hN hd hQ
  refine Eq.mpr (pb_Mr_and.eq_1 _ _ _ _ _) (hP w f n W H N o t i c _ hT h01 hS o2 t2 hN (by omega) (fun res r w5 hk ou => ?_))
  obtain ⟨k, hk⟩ := hk
  have W4 := hS.1.2.1.2.1
  cases hb : res.1 with
  | false => exact mv_and0 (ou.2.2.elim (fun N' z => z.2.2.2.2.2 hb)) (hQ res _ _ ⟨_, sp1_f hk hb⟩ ou) FU (fu_lt (by decide))
  | true =>
    obtain ⟨m5, F5, N5, e5, n5, l5, k5, ok, bad⟩ := ou
    obtain ⟨o5, t5, tb, l2, k2, el, tr2, rl⟩ := ok hb
    have v12 : (w5.1 147 12).toInt = H := by rw [(F5 147 12 rfl).1]; exact hS.2.1
    refine mv_and (c := c) hP hT h01 o2 (by omega) hS.2.1 FU r w5 l2 k2 N5 res.2.2.1 res.2.2.2 ⟨m5, v12, e5, o5, t5⟩ F5 n5 l5 k5 tr2 rl tb (by omega) (fun res' r' w' hk' ou' => ?_) (Nat.lt_of_le_of_lt (show _ ≤ 4001 by omega) (fu_lt (by decide)))
    obtain ⟨k', hk'⟩ := hk'
    rw [← el] at hk'
    exact hQ res' r' w' ⟨k + k' + 1, sp1_t (sp_le hk (by omega)) hb (sp_le hk' (by omega))⟩ ou'

theorem sp4_t {f : Int → Int} {n : Int} {k o : Nat} {c : List Int} {t i : Nat} {r1 r : Bool × List Int × Nat × Nat} (q : wq f n i (ltr 12 2) = true) (h : SP f n k 1 o c t (i + 1) r1) (h1 : r1.1 = true) (h2 : SP f n k 4 o (r1.2.1 ++ [18]) r1.2.2.1 r1.2.2.2 r) : SP f n (k + 1) 4 o c t i r := by
  rw [SP4, if_pos q]
  exact ⟨r1, h, by rw [if_pos h1]; exact h2⟩
theorem sp4_f {f : Int → Int} {n : Int} {k o : Nat} {c : List Int} {t i : Nat} {r1 : Bool × List Int × Nat × Nat} (q : wq f n i (ltr 12 2) = true) (h : SP f n k 1 o c t (i + 1) r1) (h1 : r1.1 = false) : SP f n (k + 1) 4 o c t i r1 := by
  rw [SP4, if_pos q]
  exact ⟨r1, h, by rw [if_neg (nt h1)]⟩
theorem sp4_n {f : Int → Int} {n : Int} {o : Nat} {c : List Int} {t i : Nat} (q : wq f n i (ltr 12 2) = false) : SP f n 1 4 o c t i (true, c, t, i) := by
  rw [SP4, if_neg (nt q)]
theorem mv_or0 {ra ro rp : MW → (Int32 → MW → Prop) → Prop} {E Q : Int32 → MW → Prop} {x : Int32} {w : MW} (hx : x.toInt < 0) (hE : E x w) (m : Nat) (hm : 0 < m) : q_Mr_or_5 ra ro rp E Q m x w := by
  cases m with
  | zero => omega
  | succ m =>
    rw [q_Mr_or_5.eq_2]
    exact ⟨fun _ => hE, fun z => absurd hx z⟩
theorem mv_or {ra ro rp : MW → (Int32 → MW → Prop) → Prop} {d : Nat} (hP : PMr 1 ra 2 d) {w0 : MW} {f : Int → Int} {n : Int} {W : Nat} {H : Int} {N0 o i0 : Nat} {c : List Int} {E Q : Int32 → MW → Prop} (hT : TXW f n W) (h01 : H = 0 ∨ H = 1) (o2 : o ≤ 20) (hd : 3 * (20 - o) + 2 ≤ d) (hH : (w0.1 147 12).toInt = H) (m : Nat) : ∀ (x : Int32) (w : MW) (l : List Int) (kk N t i : Nat), ES w f n W H N o t i → FR lmr w0 w → N0 ≤ N → N + lwn f n i0 ≤ N0 + lwn f n i → (∀ (p j : Nat), (p = 151 ∨ p = 152 ∨ p = 153) → ((j : Int) < 3000 * (1 - H) + (N0 : Int) ∨ 3000 * (1 - H) + (N : Int) ≤ (j : Int)) → w.1 p j = w0.1 p j) → TRe w (3000 * (1 - H) + (N0 : Int)) kk x.toInt l → x.toInt < 3000 * (1 - H) + (N : Int) → t ≤ 32 → N ≤ lwn f n i → (∀ res r w', (∃ k, SP f n k 4 o (c ++ l) t i res) → OU w0 f n W H N0 o c i0 res r w' → E r w') → W + 1 - i < m → q_Mr_or_5 ra ro rp E Q m x w := by
  induction m with
  | zero => intros; omega
  | succ m ih =>
    intro x w l kk N t i hS hF hN0 hacc hK tr xl t2 hN hE hm
    have x0 := tr_lo tr
    have W4 := hS.1.2.1.2.1
    have mx := fun j => lw_max (f := f) hT.1 hT.2.1 j
    rw [q_Mr_or_5.eq_2]
    refine ⟨fun z => absurd z (by omega), fun _ => mis2 hT hS.1 (A := 111) (B := 114) (by decide) (by decide) (fun q => ⟨fun z => absurd z i1n, fun _ => ?_⟩) (fun q => ⟨fun _ => ?_, fun z => absurd i_0 z⟩)⟩
    · have wd := (wq_2.mp q).1
      have iW := lt_W hT (show 0 < wnd f n i - wat f n i by omega)
      have lwi := lw_l (f := f) (n := n) (i := i) (by omega)
      have q' : wq f n i (ltr 12 2) = true := by rw [ltw_12]; exact q
      have s5 := ti_add2 hS.1.2.2.1 i_1 (by omega) (by omega)
      have F1 : FR lmr w (sI w 147 5 ((w.1 147 5) + (1 : Int32))) := FR.I (FR.refl _ w) rfl
      have r5 : ((sI w 147 5 ((w.1 147 5) + (1 : Int32))).1 147 5).toInt = ((i + 1 : Nat) : Int) := by
        rw [sI_same, s5]
        omega
      have r6 : ((sI w 147 5 ((w.1 147 5) + (1 : Int32))).1 147 6).toInt = (o : Int) := by
        rw [sI_ne _ _ _ _ _ (by decide)]
        exact hS.2.2.2.1
      have r7 : ((sI w 147 5 ((w.1 147 5) + (1 : Int32))).1 147 7).toInt = (t : Int) := by
        rw [sI_ne _ _ _ _ _ (by decide)]
        exact hS.2.2.2.2
      have r11 : ((sI w 147 5 ((w.1 147 5) + (1 : Int32))).1 147 11).toInt = (N : Int) := by
        rw [sI_ne _ _ _ _ _ (by decide)]
        exact hS.2.2.1
      have r12 : ((sI w 147 5 ((w.1 147 5) + (1 : Int32))).1 147 12).toInt = H := by
        rw [sI_ne _ _ _ _ _ (by decide)]
        exact hS.2.1
      have ky : ∀ (p j : Nat), (p = 151 ∨ p = 152 ∨ p = 153) → (sI w 147 5 ((w.1 147 5) + (1 : Int32))).1 p j = w.1 p j := fun p j hp => by
        rw [sI_oth _ _ _ _ _ _ (by omega)]
      generalize (sI w 147 5 ((w.1 147 5) + (1 : Int32))) = w1 at *
      refine hP w1 f n W H N o t (i + 1) (c ++ l) _ hT h01 ⟨ms_fr hS.1 F1 rfl r5 (by omega), r12, r11, r6, r7⟩ o2 t2 (by omega) hd (fun res r w5 hk ou => ?_)
      obtain ⟨k, hk⟩ := hk
      obtain ⟨m5, F5, N5, e5, n5, l5, k5, ok, bad⟩ := ou
      have F05 : FR lmr w0 w5 := FR.tr (FR.tr hF F1 rfl) F5 rfl
      have K15 : ∀ (p j : Nat), (p = 151 ∨ p = 152 ∨ p = 153) → ((j : Int) < 3000 * (1 - H) + (N : Int) ∨ 3000 * (1 - H) + (N5 : Int) ≤ (j : Int)) → w5.1 p j = w.1 p j := fun p j hp hj => (k5 p j hp hj).trans (ky p j hp)
      have K05 : ∀ (p j : Nat), (p = 151 ∨ p = 152 ∨ p = 153) → ((j : Int) < 3000 * (1 - H) + (N0 : Int) ∨ 3000 * (1 - H) + (N5 : Int) ≤ (j : Int)) → w5.1 p j = w0.1 p j := fun p j hp hj => (K15 p j hp (by omega)).trans (hK p j hp (by omega))
      have mr := mx res.2.2.2
      have iR : res.2.2.2 ≤ W := m5.2.2.2
      have up : i < res.2.2.2 := by
        by_cases y : res.2.2.2 ≤ i
        · have := lw_le (f := f) (n := n) y
          omega
        · omega
      cases hb : res.1 with
      | false =>
        have rn := bad hb
        exact ⟨fun z => absurd rn (by omega), fun _ => mv_or0 (by decide) (hE res _ _ ⟨_, sp4_f q' hk hb⟩ (ou_no m5 F05 e5 (by omega) (by omega) K05 (by decide) res hb rfl)) m (by omega)⟩
      | true =>
        obtain ⟨o5, t5, tb, l2, k2, el, tr2, rl⟩ := ok hb
        have r0 := tr_lo tr2
        refine ⟨fun _ => ?_, fun z => absurd (show 0 ≤ r.toInt by omega) z⟩
        have v12 : (w5.1 147 12).toInt = H := by rw [(F05 147 12 rfl).1]; exact hH
        refine mnd v12 h01 e5 (by omega) (fun x7 w7 nd => ?_)
        obtain ⟨ex, e7, F7, K7, y1, y2, y3⟩ := nd
        have eL : res.2.1 ++ [18] = c ++ (l ++ l2 ++ [18]) := by rw [el, List.append_assoc, List.append_assoc, List.append_assoc]
        refine ih x7 w7 (l ++ l2 ++ [18]) (kk + k2 + 1) (N5 + 1) res.2.2.1 res.2.2.2 ⟨ms_fr m5 F7 rfl (by rw [(F7 147 5 rfl).1]; exact m5.2.2.1) iR, by rw [(F7 147 12 rfl).1]; exact v12, e7, by rw [(F7 147 6 rfl).1]; exact o5, by rw [(F7 147 7 rfl).1]; exact t5⟩ (FR.tr F05 F7 rfl) (by omega) (by omega) (fun p j hp hj => (K7 p j hp (by omega)).trans (K05 p j hp (by omega))) ?_ (by omega) tb (by omega) (fun res' r' w' hk' ou' => ?_) (by omega)
        · rw [TRe_u, y1, y2, y3]
          refine ⟨by omega, Or.inr (Or.inr ⟨Or.inr b18, by omega, by omega, l, l2, tr_le (tr_fr _ _ _ tr (fun p j hp j0 j1 => (K7 p j hp (by omega)).trans (K15 p j hp (by omega))) (by omega)) (by omega), tr_le (tr_fr _ _ _ (tr_low (show 3000 * (1 - H) + (N0 : Int) ≤ 3000 * (1 - H) + (N : Int) by omega) _ _ _ tr2) (fun p j hp j0 j1 => K7 p j hp (by omega)) (by omega)) (by omega), by rw [b18]⟩)⟩
        · obtain ⟨k', hk'⟩ := hk'
          rw [← eL] at hk'
          exact hE res' r' w' ⟨k + k' + 1, sp4_t q' (sp_le hk (by omega)) hb (sp_le hk' (by omega))⟩ ou'
    · exact hE (true, c ++ l, t, i) x w ⟨1, sp4_n (by rw [ltw_12]; exact q)⟩ ⟨hS.1, hF, N, hS.2.2.1, hN0, hacc, hK, fun _ => ⟨hS.2.2.2.1, hS.2.2.2.2, t2, l, kk, rfl, tr, xl⟩, fun z => absurd (show true = false from z) (by decide)⟩
theorem sp2_t {f : Int → Int} {n : Int} {k o : Nat} {c : List Int} {t i : Nat} {r1 r : Bool × List Int × Nat × Nat} (h : SP f n k 1 o c t i r1) (h1 : r1.1 = true) (h2 : SP f n k 4 o r1.2.1 r1.2.2.1 r1.2.2.2 r) : SP f n (k + 1) 2 o c t i r := by
  rw [SP2]
  exact ⟨r1, h, by rw [if_pos h1]; exact h2⟩
theorem sp2_f {f : Int → Int} {n : Int} {k o : Nat} {c : List Int} {t i : Nat} {r1 : Bool × List Int × Nat × Nat} (h : SP f n k 1 o c t i r1) (h1 : r1.1 = false) : SP f n (k + 1) 2 o c t i r1 := by
  rw [SP2]
  exact ⟨r1, h, by rw [if_neg (nt h1)]⟩
theorem mp_or {ra ro rp : MW → (Int32 → MW → Prop) → Prop} {d : Nat} (hP : PMr 1 ra 2 d) : PMr 2 (pb_Mr_or ra ro rp) (2 + 1) (d + 1) := by
  intro w f n W H N o t i c Q hT h01 hS o2 t2 hN hd hQ
  refine Eq.mpr (pb_Mr_or.eq_1 _ _ _ _ _) (hP w f n W H N o t i c _ hT h01 hS o2 t2 hN (by omega) (fun res r w5 hk ou => ?_))
  obtain ⟨k, hk⟩ := hk
  have W4 := hS.1.2.1.2.1
  cases hb : res.1 with
  | false => exact mv_or0 (ou.2.2.elim (fun N' z => z.2.2.2.2.2 hb)) (hQ res _ _ ⟨_, sp2_f hk hb⟩ ou) FU (fu_lt (by decide))
  | true =>
    obtain ⟨m5, F5, N5, e5, n5, l5, k5, ok, bad⟩ := ou
    obtain ⟨o5, t5, tb, l2, k2, el, tr2, rl⟩ := ok hb
    have v12 : (w5.1 147 12).toInt = H := by rw [(F5 147 12 rfl).1]; exact hS.2.1
    refine mv_or (c := c) hP hT h01 o2 (by omega) hS.2.1 FU r w5 l2 k2 N5 res.2.2.1 res.2.2.2 ⟨m5, v12, e5, o5, t5⟩ F5 n5 l5 k5 tr2 rl tb (by omega) (fun res' r' w' hk' ou' => ?_) (Nat.lt_of_le_of_lt (show _ ≤ 4001 by omega) (fu_lt (by decide)))
    obtain ⟨k', hk'⟩ := hk'
    rw [← el] at hk'
    exact hQ res' r' w' ⟨k + k' + 1, sp2_t (sp_le hk (by omega)) hb (sp_le hk' (by omega))⟩ ou'

theorem mp_all (m : Nat) : PMr 1 (pn_Mr_and m) 2 m ∧ PMr 2 (pn_Mr_or m) 3 m ∧ PMr 0 (pn_Mr_part m) 1 m := by
  induction m with
  | zero => exact ⟨fun w f n W H N o t i c Q _ _ _ _ _ _ hd => absurd hd (by omega), fun w f n W H N o t i c Q _ _ _ _ _ _ hd => absurd hd (by omega), fun w f n W H N o t i c Q _ _ _ _ _ _ hd => absurd hd (by omega)⟩
  | succ m ih =>
    refine ⟨fun w f n W H N o t i c Q a1 a2 a3 a4 a5 a6 a7 a8 => ?_, fun w f n W H N o t i c Q a1 a2 a3 a4 a5 a6 a7 a8 => ?_, fun w f n W H N o t i c Q a1 a2 a3 a4 a5 a6 a7 a8 => ?_⟩
    · exact Eq.mpr (pe_Mr_and m w Q) (mp_and ih.2.2 w f n W H N o t i c Q a1 a2 a3 a4 a5 a6 a7 a8)
    · exact Eq.mpr (pe_Mr_or m w Q) (mp_or ih.1 w f n W H N o t i c Q a1 a2 a3 a4 a5 a6 a7 a8)
    · exact Eq.mpr (pe_Mr_part m w Q) (mp_part ih.2.1 ih.2.2 w f n W H N o t i c Q a1 a2 a3 a4 a5 a6 a7 a8)
/-- the reference reads a condition -/
theorem mor {w : MW} {f : Int → Int} {n : Int} {W : Nat} {H : Int} {N i : Nat} {Q : Int32 → MW → Prop} (hT : TXW f n W) (h01 : H = 0 ∨ H = 1) (hS : ES w f n W H N 0 0 i) (hN : N ≤ lwn f n i) (hQ : ∀ res r w', (∃ k, SP f n k 2 0 [] 0 i res) → OU w f n W H N 0 [] i res r w' → Q r w') : p_Mr_or w Q :=
  (mp_all 400).2.1 w f n W H N 0 0 i [] Q hT h01 hS (by decide) (by decide) hN (by decide) hQ
/-! the reference reads the end of a row -/
def RwP (w : MW) (g r N : Nat) (as c : List Int) (v : Int) : Prop := (w.1 155 (40 * g + r)).toInt = (as.length : Int) ∧ (∀ (k : Nat) (a : Int), as[k]? = some a → (w.1 156 (8 * (40 * g + r) + k)).toInt = a) ∧ as.length ≤ 8 ∧ (∃ k, TRe w (3000 * (g : Int)) k (w.1 154 (40 * g + r)).toInt c) ∧ (w.1 154 (40 * g + r)).toInt < 3000 * (g : Int) + (N : Int) ∧ (w.1 157 (40 * g + r)).toInt = v
def RwM (w : MW) (g r N : Nat) (x : Rw) : Prop := RwP w g r N x.1 x.2.1 x.2.2.1 ∧ (w.1 158 (40 * g + r)).toInt = (if x.2.2.2 = true then 1 else 0)
/-- nodes from n0 to n1 and rows from r0 to r1 (of both halves' arrays) are the same -/
def KR (n0 n1 r0 r1 : Int) (w w' : MW) : Prop := (∀ p j : Nat, (p = 151 ∨ p = 152 ∨ p = 153) → n0 ≤ (j : Int) → (j : Int) < n1 → w'.1 p j = w.1 p j) ∧ (∀ p j : Nat, (p = 154 ∨ p = 155 ∨ p = 157 ∨ p = 158) → r0 ≤ (j : Int) → (j : Int) < r1 → w'.1 p j = w.1 p j) ∧ (∀ j : Nat, 8 * r0 ≤ (j : Int) → (j : Int) < 8 * r1 → w'.1 156 j = w.1 156 j)
theorem KR.tr {n0 n1 r0 r1 : Int} {w w' w2 : MW} (h : KR n0 n1 r0 r1 w w') (h2 : KR n0 n1 r0 r1 w' w2) : KR n0 n1 r0 r1 w w2 := ⟨fun p j hp a b => (h2.1 p j hp a b).trans (h.1 p j hp a b), fun p j hp a b => (h2.2.1 p j hp a b).trans (h.2.1 p j hp a b), fun j a b => (h2.2.2 j a b).trans (h.2.2 j a b)⟩
theorem KR.mono {n0 n1 r0 r1 m0 m1 s0 s1 : Int} {w w' : MW} (h : KR n0 n1 r0 r1 w w') (a : n0 ≤ m0) (b : m1 ≤ n1) (c : r0 ≤ s0) (d : s1 ≤ r1) : KR m0 m1 s0 s1 w w' := ⟨fun p j hp x y => h.1 p j hp (by omega) (by omega), fun p j hp x y => h.2.1 p j hp (by omega) (by omega), fun j x y => h.2.2 j (by omega) (by omega)⟩
def lka : Pl := [(151, none), (152, none), (153, none), (154, none), (155, none), (156, none), (157, none), (158, none)]
theorem KR.fr {l : Pl} {n0 n1 r0 r1 : Int} {w w' : MW} (hF : FR l w w') (ho : off l lka = true) : KR n0 n1 r0 r1 w w' := by
  refine ⟨fun p j hp _ _ => ?_, fun p j hp _ _ => ?_, fun j _ _ => (hF 156 j (off_hit ho rfl)).1⟩
  · rcases hp with rfl | rfl | rfl
    · exact (hF 151 j (off_hit ho rfl)).1
    · exact (hF 152 j (off_hit ho rfl)).1
    · exact (hF 153 j (off_hit ho rfl)).1
  · rcases hp with rfl | rfl | rfl | rfl
    · exact (hF 154 j (off_hit ho rfl)).1
    · exact (hF 155 j (off_hit ho rfl)).1
    · exact (hF 157 j (off_hit ho rfl)).1
    · exact (hF 158 j (off_hit ho rfl)).1
theorem trr {w w' : MW} {g N : Nat} {r0 r1 : Int} (hK : KR (3000 * (g : Int)) (3000 * (g : Int) + (N : Int)) r0 r1 w w') {x : Int} {l : List Int} (h : ∃ k, TRe w (3000 * (g : Int)) k x l) (hx : x < 3000 * (g : Int) + (N : Int)) : ∃ k, TRe w' (3000 * (g : Int)) k x l := by
  obtain ⟨k, hk⟩ := h
  exact ⟨k, tr_fr _ _ _ hk (fun p j hp a b => hK.1 p j hp a (by omega)) (by omega)⟩
theorem rwm_k {w w' : MW} {g r N N' : Nat} {x : Rw} {r0 r1 : Int} (h : RwM w g r N x) (hK : KR (3000 * (g : Int)) (3000 * (g : Int) + (N : Int)) r0 r1 w w') (h0 : r0 ≤ 40 * (g : Int) + (r : Int)) (h1 : 40 * (g : Int) + (r : Int) < r1) (hN : N ≤ N') : RwM w' g r N' x := by
  obtain ⟨⟨a1, a2, a3, a4, a5, a6⟩, b⟩ := h
  have e4 := hK.2.1 154 (40 * g + r) (Or.inl rfl) (by omega) (by omega)
  have e5 := hK.2.1 155 (40 * g + r) (Or.inr (Or.inl rfl)) (by omega) (by omega)
  have e7 := hK.2.1 157 (40 * g + r) (Or.inr (Or.inr (Or.inl rfl))) (by omega) (by omega)
  have e8 := hK.2.1 158 (40 * g + r) (Or.inr (Or.inr (Or.inr rfl))) (by omega) (by omega)
  refine ⟨⟨by rw [e5]; exact a1, fun k a hk => ?_, a3, by rw [e4]; exact trr hK a4 a5, by rw [e4]; omega, by rw [e7]; exact a6⟩, by rw [e8]; exact b⟩
  have lk : k < x.1.length := by
    by_cases q : k < x.1.length
    · exact q
    · rw [List.getElem?_eq_none (by omega)] at hk
      exact absurd hk (by intro z; cases z)
  rw [hK.2.2 _ (by omega) (by omega)]
  exact a2 k a hk
theorem rwp_k {w w' : MW} {g r N : Nat} {as c : List Int} {v : Int} {l : Pl} (h : RwP w g r N as c v) (hF : FR l w w') (ho : off l [(151, none), (152, none), (153, none), (154, none), (155, none), (156, none), (157, none)] = true) : RwP w' g r N as c v := by
  obtain ⟨a1, a2, a3, a4, a5, a6⟩ := h
  have K : KR (3000 * (g : Int)) (3000 * (g : Int) + (N : Int)) 0 0 w w' := ⟨fun p j hp _ _ => by
    rcases hp with rfl | rfl | rfl
    · exact (hF 151 j (off_hit ho rfl)).1
    · exact (hF 152 j (off_hit ho rfl)).1
    · exact (hF 153 j (off_hit ho rfl)).1, fun p j hp x y => absurd (Int.lt_of_le_of_lt x y) (by decide), fun j x y => absurd (show (0 : Int) < 0 by omega) (by decide)⟩
  have e4 := (hF 154 (40 * g + r) (off_hit ho rfl)).1
  exact ⟨by rw [(hF 155 _ (off_hit ho rfl)).1]; exact a1, fun k a hk => by rw [(hF 156 _ (off_hit ho rfl)).1]; exact a2 k a hk, a3, by rw [e4]; exact trr K a4 a5, by rw [e4]; exact a5, by rw [(hF 157 _ (off_hit ho rfl)).1]; exact a6⟩
/-- the rows rs are made, word j is next -/
def GN (w : MW) (f : Int → Int) (n : Int) (W : Nat) (H : Int) (g : Nat) (rs : List Rw) (N j : Nat) : Prop := MS w f n W j ∧ (w.1 147 12).toInt = H ∧ (w.1 147 11).toInt = (N : Int) ∧ (w.1 147 13).toInt = (rs.length : Int) ∧ ∀ (r : Nat) (x : Rw), rs[r]? = some x → RwM w g r N x
theorem rs_lt {rs : List Rw} {r : Nat} {x : Rw} (h : rs[r]? = some x) : r < rs.length := by
  by_cases q : r < rs.length
  · exact q
  · rw [List.getElem?_eq_none (by omega)] at h
    exact absurd h (by intro z; cases z)
theorem gn_fr {l : Pl} {w w' : MW} {f : Int → Int} {n : Int} {W : Nat} {H : Int} {g : Nat} {rs : List Rw} {N j j' : Nat} (h : GN w f n W H g rs N j) (hF : FR l w w') (ho : off l [(147, some 4), (148, none), (149, none), (150, none)] = true) (ho2 : off l [(147, some 11), (147, some 12), (147, some 13)] = true) (e : (w'.1 147 5).toInt = (j' : Int)) (hj : j' ≤ W) (hK : KR (3000 * (g : Int)) (3000 * (g : Int) + (N : Int)) (40 * (g : Int)) (40 * (g : Int) + (rs.length : Int)) w w') : GN w' f n W H g rs N j' :=
  ⟨ms_fr h.1 hF ho e hj, by rw [(hF 147 12 (off_hit ho2 rfl)).1]; exact h.2.1, by rw [(hF 147 11 (off_hit ho2 rfl)).1]; exact h.2.2.1, by rw [(hF 147 13 (off_hit ho2 rfl)).1]; exact h.2.2.2.1, fun r x hx => by have := rs_lt hx; exact rwm_k (h.2.2.2.2 r x hx) hK (by omega) (by omega) (Nat.le_refl _)⟩
/-- nothing but row R of 154 .. 158 is written -/
def KQ (R : Nat) (w w' : MW) : Prop := ∀ p j : Nat, (p = 154 ∨ p = 155 ∨ p = 157 ∨ p = 158) → ¬ j = R → w'.1 p j = w.1 p j
def ltz : Pl := [(147, some 5), (147, some 13), (154, none), (155, none), (157, none), (158, none), (159, none)]
theorem kq_kr {R : Nat} {w w' : MW} {n0 n1 r0 r1 : Int} (h : KQ R w w') (hF : FR ltz w w') (hr : (R : Int) < r0 ∨ r1 ≤ (R : Int)) : KR n0 n1 r0 r1 w w' := by
  refine ⟨fun p j hp _ _ => ?_, fun p j hp a b => h p j hp (by omega), fun j _ _ => (hF 156 j rfl).1⟩
  rcases hp with rfl | rfl | rfl
  · exact (hF 151 j rfl).1
  · exact (hF 152 j rfl).1
  · exact (hF 153 j rfl).1
theorem KQ.tr {R : Nat} {w w' w2 : MW} (h : KQ R w w') (h2 : KQ R w' w2) : KQ R w w2 := fun p j hp hj => (h2 p j hp hj).trans (h p j hp hj)
theorem kq_7 {R i : Nat} {w : MW} {v : Int32} : KQ R w (sI w 147 i v) := fun p j hp _ => sI_oth _ _ _ _ _ _ (by omega)
theorem kq_R {R k : Nat} {w : MW} {v : Int32} : KQ R w (sI w k R v) := fun p j hp hj => by
  by_cases q : p = k
  · rw [q]
    exact sI_ne _ _ _ _ _ hj
  · exact sI_oth _ _ _ _ _ _ q
/-- what the end of a row leaves -/
def RE (w' : MW) (f : Int → Int) (n : Int) (W : Nat) (H : Int) (g : Nat) (rs : List Rw) (N : Nat) (q : Bool × Rw × Nat) (b : Int32) : Prop := (q.1 = true → b.toInt = 1 ∧ GN w' f n W H g (rs ++ [q.2.1]) N q.2.2) ∧ (q.1 = false → b.toInt = 0 ∧ (w'.1 147 5).toInt = (q.2.2 : Int) ∧ q.2.2 ≤ W)
theorem t322 {w : MW} {a b : Int32} {f : Int → Int} {n : Int} {W : Nat} {H : Int} {g : Nat} {rs : List Rw} {N j : Nat} {x : Rw} {Q : Int32 → MW → Prop} (hT : TXW f n W) (h : GN (sI w 147 5 (b + a)) f n W H g rs N j) (hx : RwM (sI w 147 5 (b + a)) g rs.length N x) (L4 : rs.length < 40) (hQ : ∀ b' w', FR ltz (sI w 147 5 (b + a)) w' → KQ (40 * g + rs.length) (sI w 147 5 (b + a)) w' → RE w' f n W H g rs N (if wq f n j (ltr 15 1) = true then (true, x, j + 1) else rwF j) b' → Q b' w') : q_Mr_readRow_322 a b w Q := by
  refine Eq.mpr (q_Mr_readRow_322.eq_1 _ _ _ _) ?_
  generalize (sI w 147 5 (b + a)) = w1 at *
  refine mone hT h.1 (A := 59) (by decide) (fun q => ⟨fun _ => ?_, fun z => absurd i1n z⟩) (fun q => ⟨fun z => absurd i_0 z, fun _ => ?_⟩)
  · have wd := (wq_1.mp q).1
    have iW := lt_W hT (show 0 < wnd f n j - wat f n j by omega)
    have W4 := h.1.2.1.2.1
    rw [ltw_15, if_pos q] at hQ
    have s5 := ti_add2 h.1.2.2.1 i_1 (by omega) (by omega)
    have s13 := ti_add2 h.2.2.2.1 i_1 (by omega) (by omega)
    have F1 : FR ltz w1 (sI (sI w1 147 5 ((w1.1 147 5) + (1 : Int32))) 147 13 ((w1.1 147 13) + (1 : Int32))) := FR.I (FR.I (FR.refl _ w1) rfl) rfl
    have F2 : FR [(147, some 5), (147, some 13)] w1 (sI (sI w1 147 5 ((w1.1 147 5) + (1 : Int32))) 147 13 ((w1.1 147 13) + (1 : Int32))) := FR.I (FR.I (FR.refl _ w1) rfl) rfl
    have r5 : ((sI (sI w1 147 5 ((w1.1 147 5) + (1 : Int32))) 147 13 ((w1.1 147 13) + (1 : Int32))).1 147 5).toInt = ((j + 1 : Nat) : Int) := by
      rw [sI_ne _ _ _ _ _ (by decide), sI_same, s5]
      omega
    have r13 : ((sI (sI w1 147 5 ((w1.1 147 5) + (1 : Int32))) 147 13 ((w1.1 147 13) + (1 : Int32))).1 147 13).toInt = (((rs ++ [x]).length : Nat) : Int) := by
      rw [sI_same, s13, List.length_append]
      show _ = ((rs.length + 1 : Nat) : Int)
      omega
    have kq : KQ (40 * g + rs.length) w1 (sI (sI w1 147 5 ((w1.1 147 5) + (1 : Int32))) 147 13 ((w1.1 147 13) + (1 : Int32))) := kq_7.tr kq_7
    refine hQ 1 _ F1 kq ⟨fun _ => ⟨i_1, ?_⟩, fun z => absurd (show true = false from z) (by decide)⟩
    generalize (sI (sI w1 147 5 ((w1.1 147 5) + (1 : Int32))) 147 13 ((w1.1 147 13) + (1 : Int32))) = w2 at *
    have K : ∀ n0 n1 r0 r1 : Int, KR n0 n1 r0 r1 w1 w2 := fun n0 n1 r0 r1 => KR.fr F2 rfl
    refine ⟨ms_fr h.1 F2 rfl r5 (by show j + 1 ≤ W; omega), by rw [(F2 147 12 rfl).1]; exact h.2.1, by rw [(F2 147 11 rfl).1]; exact h.2.2.1, r13, fun r y hy => ?_⟩
    have hy : (rs ++ [x])[r]? = some y := hy
    by_cases z : r < rs.length
    · rw [List.getElem?_append_left z] at hy
      exact rwm_k (h.2.2.2.2 r y hy) (K _ _ _ (40 * (g : Int) + (r : Int) + 1)) (Int.le_refl _) (by omega) (Nat.le_refl _)
    · have z2 : r = rs.length := by
        have := rs_lt hy
        rw [List.length_append] at this
        have e1 : ([x] : List Rw).length = 1 := rfl
        omega
      rw [z2, List.getElem?_append_right (Nat.le_refl _), Nat.sub_self] at hy
      have ey : x = y := Option.some.inj hy
      rw [← ey, z2]
      exact rwm_k hx (K _ _ _ (40 * (g : Int) + (rs.length : Int) + 1)) (Int.le_refl _) (by omega) (Nat.le_refl _)
  · rw [ltw_15, if_neg (nt q)] at hQ
    exact hQ 0 w1 (FR.refl _ w1) (fun _ _ _ _ => rfl) ⟨fun z => absurd (show false = true from z) (by decide), fun _ => ⟨i_0, h.1.2.2.1, h.1.2.2.2⟩⟩
theorem t277 {w : MW} {y : Int32} {f : Int → Int} {n : Int} {W : Nat} {H : Int} {g : Nat} {rs : List Rw} {N j : Nat} {as c : List Int} {v : Int} {Q : Int32 → MW → Prop} (hT : TXW f n W) (hg : g ≤ 1) (h : GN w f n W H g rs N j) (hx : RwP w g rs.length N as c v) (L4 : rs.length < 40) (hy : y.toInt = ((40 * g + rs.length : Nat) : Int)) (hQ : ∀ b' w', FR ltz w w' → KQ (40 * g + rs.length) w w' → RE w' f n W H g rs N (rwT f n as c v j) b' → Q b' w') : q_Mr_readRow_277 y w Q := by
  have eR : y.toInt.toNat = 40 * g + rs.length := by rw [hy]; omega
  have bR : 0 ≤ y.toInt ∧ y.toInt < 80 := by rw [hy]; omega
  have W4 := h.1.2.1.2.1
  unfold rwT at hQ
  refine Eq.mpr (q_Mr_readRow_277.eq_1 _ _ _) (mis7 hT h.1 (A := 108) (B := 97) (C := 116) (D := 99) (X := 104) (Y := 101) (Z := 100) (by decide) (by decide) (by decide) (by decide) (by decide) (by decide) (by decide) (fun q => ⟨bR, bR, ?_⟩) (fun q => ⟨bR, bR, ?_⟩))
  · have wd := (wq_7.mp q).1
    have iW := lt_W hT (show 0 < wnd f n j - wat f n j by omega)
    rw [ltw_14, if_pos q] at hQ
    rw [eR, nar1z, sI_same]
    refine ⟨fun z => absurd z i1n, fun _ => ?_⟩
    have s5 := ti_add2 h.1.2.2.1 i_1 (by omega) (by omega)
    have F1 : FR ltz w (sI (sI w 158 (40 * g + rs.length) 1) 147 5 ((w.1 147 5) + (1 : Int32))) := FR.I (FR.I (FR.refl _ w) rfl) rfl
    have F2 : FR [(147, some 5), (158, none)] w (sI (sI w 158 (40 * g + rs.length) 1) 147 5 ((w.1 147 5) + (1 : Int32))) := FR.I (FR.I (FR.refl _ w) rfl) rfl
    have kq : KQ (40 * g + rs.length) w (sI (sI w 158 (40 * g + rs.length) 1) 147 5 ((w.1 147 5) + (1 : Int32))) := kq_R.tr kq_7
    have r5 : ((sI (sI w 158 (40 * g + rs.length) 1) 147 5 ((w.1 147 5) + (1 : Int32))).1 147 5).toInt = ((j + 1 : Nat) : Int) := by
      rw [sI_same, s5]
      omega
    have r8 : ((sI (sI w 158 (40 * g + rs.length) 1) 147 5 ((w.1 147 5) + (1 : Int32))).1 158 (40 * g + rs.length)).toInt = 1 := by
      rw [sI_oth _ _ _ _ _ _ (by decide), sI_same]
      exact i_1
    have Kq : KR (3000 * (g : Int)) (3000 * (g : Int) + (N : Int)) (40 * (g : Int)) (40 * (g : Int) + (rs.length : Int)) w (sI (sI w 158 (40 * g + rs.length) 1) 147 5 ((w.1 147 5) + (1 : Int32))) := kq_kr kq F1 (by omega)
    refine t322 (x := (as, c, v, true)) hT (gn_fr h F2 rfl rfl r5 (by omega) Kq) ⟨rwp_k hx F2 rfl, r8⟩ L4 (fun b' w' F' K' R' => hQ b' w' (F1.tr F' rfl) (kq.tr K') R')
  · rw [ltw_14, if_neg (nt q)] at hQ
    rw [eR, nar0z, sI_same]
    refine ⟨fun _ => ?_, fun z => absurd i_0 z⟩
    have W5 := h.1.2.2.2
    have s5 := tin h.1.2.2.1 i_0 (by omega) (by omega)
    have F1 : FR ltz w (sI (sI w 158 (40 * g + rs.length) 0) 147 5 ((w.1 147 5) + (0 : Int32))) := FR.I (FR.I (FR.refl _ w) rfl) rfl
    have F2 : FR [(147, some 5), (158, none)] w (sI (sI w 158 (40 * g + rs.length) 0) 147 5 ((w.1 147 5) + (0 : Int32))) := FR.I (FR.I (FR.refl _ w) rfl) rfl
    have kq : KQ (40 * g + rs.length) w (sI (sI w 158 (40 * g + rs.length) 0) 147 5 ((w.1 147 5) + (0 : Int32))) := kq_R.tr kq_7
    have r5 : ((sI (sI w 158 (40 * g + rs.length) 0) 147 5 ((w.1 147 5) + (0 : Int32))).1 147 5).toInt = (j : Int) := by
      rw [sI_same, s5]
    have r8 : ((sI (sI w 158 (40 * g + rs.length) 0) 147 5 ((w.1 147 5) + (0 : Int32))).1 158 (40 * g + rs.length)).toInt = 0 := by
      rw [sI_oth _ _ _ _ _ _ (by decide), sI_same]
      exact i_0
    have Kq : KR (3000 * (g : Int)) (3000 * (g : Int) + (N : Int)) (40 * (g : Int)) (40 * (g : Int) + (rs.length : Int)) w (sI (sI w 158 (40 * g + rs.length) 0) 147 5 ((w.1 147 5) + (0 : Int32))) := kq_kr kq F1 (by omega)
    refine t322 (x := (as, c, v, false)) hT (gn_fr h F2 rfl rfl r5 W5 Kq) ⟨rwp_k hx F2 rfl, r8⟩ L4 (fun b' w' F' K' R' => hQ b' w' (F1.tr F' rfl) (kq.tr K') R')
theorem b_3600 : ((3600 : Int32)).toInt = 3600 := by decide
/-- behind the condition -/
def MFr (RI : Int32) (w : MW) (Q : Int32 → MW → Prop) : Prop := p_Mr_is w 102 111 114 0 0 0 0 3 (fun r21 w21 => ((r21.toInt = 0 → (q_Mr_readRow_277 RI w21 Q)) ∧ (¬ (r21.toInt = 0) → (p_Mr_number (sI w21 147 5 ((w21.1 147 5) + (1 : Int32))) 0 3600 (fun r29 w29 => ((0 ≤ r29.toInt → ((0 ≤ RI.toInt ∧ RI.toInt < 80) ∧ (q_Mr_readRow_277 RI (sI (sI w29 157 (RI.toInt.toNat) r29) 147 5 ((w29.1 147 5) + (1 : Int32))) Q))) ∧ (¬ (0 ≤ r29.toInt) → (Q 0 w29))))))))
theorem tfor {w : MW} {y : Int32} {f : Int → Int} {n : Int} {W : Nat} {H : Int} {g : Nat} {rs : List Rw} {N j : Nat} {as c : List Int} {Q : Int32 → MW → Prop} (hT : TXW f n W) (hg : g ≤ 1) (h : GN w f n W H g rs N j) (hx : RwP w g rs.length N as c 0) (L4 : rs.length < 40) (hy : y.toInt = ((40 * g + rs.length : Nat) : Int)) (hQ : ∀ b' w', FR ltz w w' → KQ (40 * g + rs.length) w w' → RE w' f n W H g rs N (tlS f n as c j) b' → Q b' w') : MFr y w Q := by
  have eR : y.toInt.toNat = 40 * g + rs.length := by rw [hy]; omega
  have bR : 0 ≤ y.toInt ∧ y.toInt < 80 := by rw [hy]; omega
  have W4 := h.1.2.1.2.1
  unfold tlS at hQ
  refine mis3 hT h.1 (A := 102) (B := 111) (C := 114) (by decide) (by decide) (by decide) (fun q => ⟨fun z => absurd z i1n, fun _ => ?_⟩) (fun q => ⟨fun _ => ?_, fun z => absurd i_0 z⟩)
  · have wd := (wq_3.mp q).1
    have iW := lt_W hT (show 0 < wnd f n j - wat f n j by omega)
    rw [ltw_13, if_pos q] at hQ
    have s5 := ti_add2 h.1.2.2.1 i_1 (by omega) (by omega)
    have F1 : FR ltz w (sI w 147 5 ((w.1 147 5) + (1 : Int32))) := FR.I (FR.refl _ w) rfl
    have F2 : FR [(147, some 5)] w (sI w 147 5 ((w.1 147 5) + (1 : Int32))) := FR.I (FR.refl _ w) rfl
    have kq : KQ (40 * g + rs.length) w (sI w 147 5 ((w.1 147 5) + (1 : Int32))) := kq_7
    have r5 : ((sI w 147 5 ((w.1 147 5) + (1 : Int32))).1 147 5).toInt = ((j + 1 : Nat) : Int) := by
      rw [sI_same, s5]
      omega
    generalize (sI w 147 5 ((w.1 147 5) + (1 : Int32))) = w1 at *
    have h1 : GN w1 f n W H g rs N (j + 1) := gn_fr h F2 rfl rfl r5 (by omega) (KR.fr F2 rfl)
    have x1 : RwP w1 g rs.length N as c 0 := rwp_k hx F2 rfl
    refine mnb hT h1.1 i_0 (by decide) (by decide) b_3600 (by decide) (fun r er => ⟨fun z => ⟨bR, ?_⟩, fun z => ?_⟩)
    · rw [if_neg (by omega)] at hQ
      have nv : ¬ nbv f n (j + 1) 0 3600 < 0 := by omega
      have iW2 := lt_W hT (show 0 < wnd f n (j + 1) - wat f n (j + 1) by have := nbv_p nv; omega)
      rw [eR]
      have t5 := ti_add2 h1.1.2.2.1 i_1 (by omega) (by omega)
      have G1 : FR ltz w1 (sI (sI w1 157 (40 * g + rs.length) r) 147 5 ((w1.1 147 5) + (1 : Int32))) := FR.I (FR.I (FR.refl _ w1) rfl) rfl
      have G2 : FR [(147, some 5), (157, none)] w1 (sI (sI w1 157 (40 * g + rs.length) r) 147 5 ((w1.1 147 5) + (1 : Int32))) := FR.I (FR.I (FR.refl _ w1) rfl) rfl
      have kq2 : KQ (40 * g + rs.length) w1 (sI (sI w1 157 (40 * g + rs.length) r) 147 5 ((w1.1 147 5) + (1 : Int32))) := kq_R.tr kq_7
      have u5 : ((sI (sI w1 157 (40 * g + rs.length) r) 147 5 ((w1.1 147 5) + (1 : Int32))).1 147 5).toInt = ((j + 2 : Nat) : Int) := by
        rw [sI_same, t5]
        omega
      have u7 : ((sI (sI w1 157 (40 * g + rs.length) r) 147 5 ((w1.1 147 5) + (1 : Int32))).1 157 (40 * g + rs.length)).toInt = nbv f n (j + 1) 0 3600 := by
        rw [sI_oth _ _ _ _ _ _ (by decide), sI_same]
        exact er
      have Kq : KR (3000 * (g : Int)) (3000 * (g : Int) + (N : Int)) (40 * (g : Int)) (40 * (g : Int) + (rs.length : Int)) w1 (sI (sI w1 157 (40 * g + rs.length) r) 147 5 ((w1.1 147 5) + (1 : Int32))) := kq_kr kq2 G1 (by omega)
      generalize (sI (sI w1 157 (40 * g + rs.length) r) 147 5 ((w1.1 147 5) + (1 : Int32))) = w2 at *
      have h2 : GN w2 f n W H g rs N (j + 2) := gn_fr h1 G2 rfl rfl u5 (by omega) Kq
      have x2 : RwP w2 g rs.length N as c (nbv f n (j + 1) 0 3600) := by
        have e4 := (G2 154 (40 * g + rs.length) rfl).1
        exact ⟨by rw [(G2 155 _ rfl).1]; exact x1.1, fun k a hk => by rw [(G2 156 _ rfl).1]; exact x1.2.1 k a hk, x1.2.2.1, by rw [e4]; exact trr Kq x1.2.2.2.1 x1.2.2.2.2.1, by rw [e4]; exact x1.2.2.2.2.1, u7⟩
      exact t277 hT hg h2 x2 L4 hy (fun b' w' F' K' R' => hQ b' w' ((F1.tr G1 rfl).tr F' rfl) ((kq.tr kq2).tr K') R')
    · rw [if_pos (by omega)] at hQ
      exact hQ 0 w1 F1 kq ⟨fun y => absurd (show false = true from y) (by decide), fun _ => ⟨i_0, r5, by show j + 1 ≤ W; omega⟩⟩
  · rw [ltw_13, if_neg (nt q)] at hQ
    exact t277 hT hg h hx L4 hy hQ
/-! the reference reads the acts of a row -/
theorem rw42 {w : MW} {RI cI x3 : Int32} {R cnt : Nat} {Q : Int32 → MW → Prop} (hR : RI.toInt = (R : Int)) (R8 : R < 80) (hc : cI.toInt = (cnt : Int)) (c8 : cnt ≤ 8) : ∀ (l : List Int) (k : Nat) (b : Int32) (m : Nat) (E : Int32 → MW → Prop), (∀ (j : Nat) (x : Int), l[j]? = some x → (w.1 156 (8 * R + (k + j))).toInt = x) → k + l.length = cnt → l.length < m → (∀ b' : Int32, b'.toInt = (if b.toInt ∈ l then -1 else b.toInt) → E b' w) → q_Mr_readRow_42 RI cI x3 E Q m b (nI k) w := by
  intro l
  induction l with
  | nil =>
    intro k b m E hl hk hm hE
    have hk' : k = cnt := hk
    cases m with
    | zero => exact absurd hm (Nat.not_lt_zero _)
    | succ m =>
      have tk : (nI k).toInt = (k : Int) := nI_toInt (by omega)
      rw [q_Mr_readRow_42.eq_2]
      exact ⟨fun _ => hE b (by rw [if_neg (fun z => by cases z)]), fun z => by omega⟩
  | cons y l ih =>
    intro k b m E hl hk hm hE
    have hk' : k + (l.length + 1) = cnt := hk
    cases m with
    | zero => exact absurd hm (Nat.not_lt_zero _)
    | succ m =>
      have hm' : l.length + 1 < m + 1 := hm
      have tk : (nI k).toInt = (k : Int) := nI_toInt (by omega)
      have e8 := ti_mul2 (by decide : ((8 : Int32)).toInt = 8) hR (by omega) (by omega)
      have ex := ti_add2 e8 tk (by omega) (by omega)
      have en : (((8 : Int32) * RI) + nI k).toInt.toNat = 8 * R + (k + 0) := by rw [ex]; omega
      have ey := hl 0 y rfl
      rw [q_Mr_readRow_42.eq_2]
      refine ⟨fun z => by omega, fun _ => ⟨by rw [ex]; omega, ?_⟩⟩
      rw [en, ey, nI_1]
      have hl' : ∀ (j : Nat) (x : Int), l[j]? = some x → (w.1 156 (8 * R + (k + 1 + j))).toInt = x := fun j x hx => by
        have := hl (j + 1) x hx
        rw [show k + 1 + j = k + (j + 1) by omega]
        exact this
      refine ⟨fun z => ih (k + 1) b m E hl' (by omega) (by omega) (fun b' hb' => hE b' ?_), fun z => ih (k + 1) (-1) m E hl' (by omega) (by omega) (fun b' hb' => hE b' ?_)⟩
      · rw [hb']
        by_cases q : b.toInt ∈ l
        · rw [if_pos q, if_pos (List.mem_cons_of_mem _ q)]
        · rw [if_neg q, if_neg (fun t => by
            rcases List.mem_cons.mp t with t | t
            · exact z t.symm
            · exact q t)]
      · have z' := Classical.not_not.mp z
        rw [hb', if_pos (show b.toInt ∈ y :: l by rw [← z']; exact List.mem_cons_self)]
        by_cases q : (-1 : Int32).toInt ∈ l
        · rw [if_pos q]
        · rw [if_neg q]
          exact i_m1
theorem when_a {f : Int → Int} {n : Int} {i : Nat} (h : wq f n i (ltr 7 4) = true) : actw f n i < 0 := by
  rw [ltw_7] at h
  have t := wq_4.mp h
  have e : f (wat f n i) = 119 := by
    have a := atv_in (f := f) (n := n) (i := i) (a := 0) (by omega)
    rw [Int.add_zero] at a
    rw [← a]
    exact t.2.1
  unfold actw
  rw [if_neg (by rw [e]; decide)]
  decide
def lra : Pl := [(147, some 5), (156, none)]
/-- the acts of row R as they stand -/
def AcM (w : MW) (R : Nat) (as : List Int) : Prop := ∀ (k : Nat) (a : Int), as[k]? = some a → (w.1 156 (8 * R + k)).toInt = a
theorem rw29 {w0 : MW} {RI : Int32} {f : Int → Int} {n : Int} {W R : Nat} {E Q : Int32 → MW → Prop} (hT : TXW f n W) (hR : RI.toInt = (R : Int)) (R8 : R < 80) (m : Nat) : ∀ (w : MW) (as : List Int) (i k : Nat) (y : Bool × List Int × Nat), MS w f n W i → FR lra w0 w → (∀ j : Nat, (j < 8 * R ∨ 8 * R + 8 ≤ j) → w.1 156 j = w0.1 156 j) → AcM w R as → as.length ≤ 8 → 10 ≤ k + as.length → acF f n k as i = y → (∀ (as' : List Int) (i' : Nat) (w' : MW), MS w' f n W i' → FR lra w0 w' → (∀ j : Nat, (j < 8 * R ∨ 8 * R + 8 ≤ j) → w'.1 156 j = w0.1 156 j) → AcM w' R as' → as'.length ≤ 8 → i ≤ i' → y = (if ¬ as' = [] ∧ wq f n i' (ltr 7 4) = true then (true, as', i') else (false, [], i')) → E (nI as'.length) w') → 10 - as.length < m → q_Mr_readRow_29 RI E Q m (nI as.length) 1 w := by
  induction m with
  | zero => intros; omega
  | succ m ih =>
    intro w as i k y hS hF hK hA a8 hk ey hE hm
    have W4 := hS.2.1.2.1
    have tl : (nI as.length).toInt = (as.length : Int) := nI_toInt (by omega)
    obtain ⟨k', ek⟩ : ∃ k', k = k' + 1 := ⟨k - 1, by omega⟩
    rw [ek, acF_u] at ey
    obtain ⟨m', em⟩ : ∃ m', m = m' + 1 := ⟨m - 1, by omega⟩
    have stop : (actw f n i < 0 ∨ as.length = 8 ∨ actw f n i ∈ as) → q_Mr_readRow_29 RI E Q m (nI as.length) 0 w := fun z => by
      rw [em, q_Mr_readRow_29.eq_2]
      refine ⟨fun _ => hE as i w hS hF hK hA a8 (Nat.le_refl _) ?_, fun y => absurd i_0 y⟩
      by_cases q : ¬ as = [] ∧ wq f n i (ltr 7 4) = true
      · rw [if_pos q] at ey ⊢
        exact ey.symm
      · rw [if_neg q] at ey ⊢
        rw [if_pos z] at ey
        exact ey.symm
    rw [q_Mr_readRow_29.eq_2]
    refine ⟨fun z => absurd z i1n, fun _ => mac hT hS (fun r er => ?_)⟩
    refine rw42 hR R8 tl a8 as 0 r FU _ (fun j x hx => by rw [Nat.zero_add]; exact hA j x hx) (Nat.zero_add _) (Nat.lt_of_le_of_lt a8 (fu_lt (by decide))) (fun b hb => ?_)
    rw [er] at hb
    refine ⟨fun z => stop ?_, fun z => ⟨fun z2 => ?_, fun z2 => stop (Or.inr (Or.inl ?_))⟩⟩
    · by_cases q : actw f n i ∈ as
      · exact Or.inr (Or.inr q)
      · rw [if_neg q] at hb
        exact Or.inl (by omega)
    · have q : ¬ actw f n i ∈ as := fun q => by
        rw [if_pos q] at hb
        omega
      rw [if_neg q] at hb
      have e8 := ti_mul2 (by decide : ((8 : Int32)).toInt = 8) hR (by omega) (by omega)
      have ex := ti_add2 e8 tl (by omega) (by omega)
      have en : (((8 : Int32) * RI) + nI as.length).toInt.toNat = 8 * R + as.length := by rw [ex]; omega
      rw [tl] at z2
      have a2 := (actw_b (f := f) (n := n) (i := i)).2 (by omega)
      have iW := lt_W hT (show 0 < wnd f n i - wat f n i by omega)
      have s5 := ti_add2 hS.2.2.1 i_1 (by omega) (by omega)
      refine ⟨by rw [ex]; omega, ?_⟩
      rw [en, nI_1]
      have F1 : FR lra w (sI (sI w 156 (8 * R + as.length) b) 147 5 ((w.1 147 5) + (1 : Int32))) := FR.I (FR.I (FR.refl _ w) rfl) rfl
      have r5 : ((sI (sI w 156 (8 * R + as.length) b) 147 5 ((w.1 147 5) + (1 : Int32))).1 147 5).toInt = ((i + 1 : Nat) : Int) := by
        rw [sI_same, s5]
        omega
      have rb : ((sI (sI w 156 (8 * R + as.length) b) 147 5 ((w.1 147 5) + (1 : Int32))).1 156 (8 * R + as.length)).toInt = actw f n i := by
        rw [sI_oth _ _ _ _ _ _ (by decide), sI_same]
        exact hb
      have rk : ∀ j : Nat, ¬ j = 8 * R + as.length → (sI (sI w 156 (8 * R + as.length) b) 147 5 ((w.1 147 5) + (1 : Int32))).1 156 j = w.1 156 j := fun j hj => by
        rw [sI_oth _ _ _ _ _ _ (by decide), sI_ne _ _ _ _ _ hj]
      generalize (sI (sI w 156 (8 * R + as.length) b) 147 5 ((w.1 147 5) + (1 : Int32))) = w1 at *
      have el : (as ++ [actw f n i]).length = as.length + 1 := by
        rw [List.length_append]
        rfl
      rw [if_neg (fun t => by have := when_a t.2; omega), if_neg (fun t => by
        rcases t with t | t | t
        · omega
        · omega
        · exact q t)] at ey
      rw [← el]
      refine ih w1 (as ++ [actw f n i]) (i + 1) k' y (ms_fr hS F1 rfl r5 (by omega)) (hF.tr F1 rfl) (fun j hj => (rk j (by omega)).trans (hK j hj)) (fun j x hx => ?_) (by omega) (by omega) ey (fun as' i' w' h1 h2 h3 h4 h5 h6 h7 => hE as' i' w' h1 h2 h3 h4 h5 (by omega) h7) (by omega)
      by_cases c : j < as.length
      · rw [List.getElem?_append_left c] at hx
        rw [rk _ (by omega)]
        exact hA j x hx
      · have jl : j < (as ++ [actw f n i]).length := by
          by_cases c2 : j < (as ++ [actw f n i]).length
          · exact c2
          · rw [List.getElem?_eq_none (by omega)] at hx
            exact absurd hx (by intro z; cases z)
        have je : j = as.length := by omega
        rw [je, List.getElem?_append_right (Nat.le_refl _), Nat.sub_self] at hx
        rw [je, rb]
        exact Option.some.inj hx
    · rw [tl] at z2
      have := Classical.not_not.mp z2
      omega
/-! the reference reads a row -/
theorem rwT_j {f : Int → Int} {n : Int} {as c : List Int} {v : Int} {j : Nat} : j ≤ (rwT f n as c v j).2.2 := by
  unfold rwT
  by_cases a : wq f n j (ltr 14 7) = true
  · rw [if_pos a]
    by_cases b : wq f n (j + 1) (ltr 15 1) = true
    · rw [if_pos b]
      show j ≤ j + 2
      omega
    · rw [if_neg b]
      show j ≤ j + 1
      omega
  · rw [if_neg a]
    by_cases b : wq f n j (ltr 15 1) = true
    · rw [if_pos b]
      show j ≤ j + 1
      omega
    · rw [if_neg b]
      exact Nat.le_refl j
theorem tlS_j {f : Int → Int} {n : Int} {as c : List Int} {j : Nat} : j ≤ (tlS f n as c j).2.2 := by
  unfold tlS
  by_cases a : wq f n j (ltr 13 3) = true
  · rw [if_pos a]
    by_cases b : nbv f n (j + 1) 0 3600 < 0
    · rw [if_pos b]
      show j ≤ j + 1
      omega
    · rw [if_neg b]
      have := rwT_j (f := f) (n := n) (as := as) (c := c) (v := nbv f n (j + 1) 0 3600) (j := j + 2)
      omega
  · rw [if_neg a]
    exact rwT_j
def lrz : Pl := [(147, some 5), (147, some 6), (147, some 7), (147, some 11), (147, some 13), (151, none), (152, none), (153, none), (154, none), (155, none), (156, none), (157, none), (158, none), (159, none)]
theorem b_40 : ((40 : Int32)).toInt = 40 := by decide
theorem mrow {w : MW} {f : Int → Int} {n : Int} {W : Nat} {H : Int} {g : Nat} {rs : List Rw} {N i : Nat} {Q : Int32 → MW → Prop} (hT : TXW f n W) (h01 : H = 0 ∨ H = 1) (hg : (g : Int) = 1 - H) (h : GN w f n W H g rs N i) (L4 : rs.length < 40) (hN : N ≤ lwn f n i) (hb : wq f n i (ltr 6 3) = true) (hQ : ∀ b w' q, RowS f n i q → FR lrz w w' → KR (3000 * H) (3000 * H + 3000) (40 * H) (40 * H + 40) w w' → (q.1 = true → b.toInt = 1 ∧ ∃ N', GN w' f n W H g (rs ++ [q.2.1]) N' q.2.2 ∧ N' ≤ lwn f n q.2.2) → (q.1 = false → b.toInt = 0 ∧ (w'.1 147 5).toInt = (q.2.2 : Int) ∧ q.2.2 ≤ W) → Q b w') : p_Mr_readRow w Q := by
  have W4 := h.1.2.1.2.1
  have mx := fun j => lw_max (f := f) hT.1 hT.2.1 j
  have hb2 := hb
  rw [ltw_6] at hb2
  have wd := (wq_3.mp hb2).1
  have iW := lt_W hT (show 0 < wnd f n i - wat f n i by omega)
  have e1 := ti_sub2 i_1 h.2.1 (by omega) (by omega)
  have e2 := ti_mul2 b_40 e1 (by omega) (by omega)
  have e3 := ti_add2 e2 h.2.2.2.1 (by omega) (by omega)
  have hR : (((40 : Int32) * ((1 : Int32) - (w.1 147 12))) + (w.1 147 13)).toInt = ((40 * g + rs.length : Nat) : Int) := by rw [e3]; omega
  refine Eq.mpr (p_Mr_readRow.eq_1 _ _) ?_
  generalize ((40 : Int32) * ((1 : Int32) - (w.1 147 12))) + (w.1 147 13) = RI at *
  have R8 : 40 * g + rs.length < 80 := by omega
  have bR : 0 ≤ RI.toInt ∧ RI.toInt < 80 := by rw [hR]; omega
  have eR : RI.toInt.toNat = 40 * g + rs.length := by rw [hR]; omega
  rw [eR]
  have s5 := ti_add2 h.1.2.2.1 i_1 (by omega) (by omega)
  have F1 : FR [(147, some 5)] w (sI w 147 5 ((w.1 147 5) + (1 : Int32))) := FR.I (FR.refl _ w) rfl
  have r5 : ((sI w 147 5 ((w.1 147 5) + (1 : Int32))).1 147 5).toInt = ((i + 1 : Nat) : Int) := by
    rw [sI_same, s5]
    omega
  generalize (sI w 147 5 ((w.1 147 5) + (1 : Int32))) = w1 at *
  have K1 : ∀ n0 n1 r0 r1 : Int, KR n0 n1 r0 r1 w w1 := fun n0 n1 r0 r1 => KR.fr F1 rfl
  have m1 : MS w1 f n W (i + 1) := ms_fr h.1 F1 rfl r5 (by omega)
  refine rw29 (w0 := w1) hT hR R8 FU w1 [] (i + 1) 10 (acF f n 10 [] (i + 1)) m1 (FR.refl _ w1) (fun _ _ => rfl) (fun k a hk => by cases hk) (by decide) (by decide) rfl (fun as' i' w10 m10 F10 k10 A10 a8 ii ey => ?_) (fu_lt (by decide))
  have G10 : FR lrz w w10 := (FR.tr (FR.refl _ w) F1 rfl).tr F10 rfl
  have K2 : ∀ n0 n1 r0 r1 : Int, (r1 ≤ ((40 * g + rs.length : Nat) : Int) ∨ ((40 * g + rs.length : Nat) : Int) < r0) → KR n0 n1 r0 r1 w w10 := fun n0 n1 r0 r1 hr => by
    refine (K1 n0 n1 r0 r1).tr ⟨fun p j hp _ _ => ?_, fun p j hp _ _ => ?_, fun j a b => k10 j (by omega)⟩
    · rcases hp with rfl | rfl | rfl
      · exact (F10 151 j rfl).1
      · exact (F10 152 j rfl).1
      · exact (F10 153 j rfl).1
    · rcases hp with rfl | rfl | rfl | rfl
      · exact (F10 154 j rfl).1
      · exact (F10 155 j rfl).1
      · exact (F10 157 j rfl).1
      · exact (F10 158 j rfl).1
  have no : ¬ (¬ as' = [] ∧ wq f n i' (ltr 7 4) = true) → Q 0 w10 := fun z => by
    rw [if_neg z] at ey
    refine hQ 0 w10 (rwF i') ?_ G10 (K2 _ _ _ _ (by omega)) (fun y => absurd (show false = true from y) (by decide)) (fun _ => ⟨i_0, m10.2.2.1, m10.2.2.2⟩)
    unfold RowS
    rw [if_pos hb, ey, if_neg (fun y => absurd (show false = true from y) (by decide))]
  have tl : (nI as'.length).toInt = (as'.length : Int) := nI_toInt (by omega)
  refine ⟨fun z => no (fun y => y.1 (List.eq_nil_of_length_eq_zero (by rw [tl] at z; omega))), fun z => mis4 hT m10 (A := 119) (B := 104) (C := 101) (D := 110) (by decide) (by decide) (by decide) (by decide) (fun q => ⟨fun _ => ⟨bR, ?_⟩, fun y => absurd i1n y⟩) (fun q => ⟨fun y => absurd i_0 y, fun _ => no (fun y => absurd y.2 (by rw [ltw_7]; exact nt q))⟩)⟩
  have ne : ¬ as' = [] := fun y => z (by rw [tl, y]; rfl)
  have q' : wq f n i' (ltr 7 4) = true := by rw [ltw_7]; exact q
  rw [if_pos ⟨ne, q'⟩] at ey
  have wd2 := (wq_4.mp q).1
  have iW2 := lt_W hT (show 0 < wnd f n i' - wat f n i' by omega)
  have t5 := ti_add2 m10.2.2.1 i_1 (by omega) (by omega)
  have F3 : FR [(147, some 5), (147, some 6), (147, some 7), (155, none)] w10 (sI (sI (sI (sI w10 155 (40 * g + rs.length) (nI as'.length)) 147 5 ((w10.1 147 5) + (1 : Int32))) 147 6 0) 147 7 0) := FR.I (FR.I (FR.I (FR.I (FR.refl _ w10) rfl) rfl) rfl) rfl
  have u5 : ((sI (sI (sI (sI w10 155 (40 * g + rs.length) (nI as'.length)) 147 5 ((w10.1 147 5) + (1 : Int32))) 147 6 0) 147 7 0).1 147 5).toInt = ((i' + 1 : Nat) : Int) := by
    rw [sI_ne _ _ _ _ _ (by decide), sI_ne _ _ _ _ _ (by decide), sI_same, t5]
    omega
  have u6 : ((sI (sI (sI (sI w10 155 (40 * g + rs.length) (nI as'.length)) 147 5 ((w10.1 147 5) + (1 : Int32))) 147 6 0) 147 7 0).1 147 6).toInt = ((0 : Nat) : Int) := by
    rw [sI_ne _ _ _ _ _ (by decide), sI_same]
    exact i_0
  have u7 : ((sI (sI (sI (sI w10 155 (40 * g + rs.length) (nI as'.length)) 147 5 ((w10.1 147 5) + (1 : Int32))) 147 6 0) 147 7 0).1 147 7).toInt = ((0 : Nat) : Int) := by
    rw [sI_same]
    exact i_0
  have u55 : ((sI (sI (sI (sI w10 155 (40 * g + rs.length) (nI as'.length)) 147 5 ((w10.1 147 5) + (1 : Int32))) 147 6 0) 147 7 0).1 155 (40 * g + rs.length)).toInt = (as'.length : Int) := by
    rw [sI_oth _ _ _ _ _ _ (by decide), sI_oth _ _ _ _ _ _ (by decide), sI_oth _ _ _ _ _ _ (by decide), sI_same]
    exact tl
  have kq3 : KQ (40 * g + rs.length) w10 (sI (sI (sI (sI w10 155 (40 * g + rs.length) (nI as'.length)) 147 5 ((w10.1 147 5) + (1 : Int32))) 147 6 0) 147 7 0) := ((kq_R.tr kq_7).tr kq_7).tr kq_7
  generalize (sI (sI (sI (sI w10 155 (40 * g + rs.length) (nI as'.length)) 147 5 ((w10.1 147 5) + (1 : Int32))) 147 6 0) 147 7 0) = w13 at *
  have G13 : FR lrz w w13 := G10.tr F3 rfl
  have K3 : ∀ n0 n1 r0 r1 : Int, (r1 ≤ ((40 * g + rs.length : Nat) : Int) ∨ ((40 * g + rs.length : Nat) : Int) < r0) → KR n0 n1 r0 r1 w w13 := fun n0 n1 r0 r1 hr => by
    refine (K2 n0 n1 r0 r1 hr).tr ⟨fun p j hp _ _ => ?_, fun p j hp _ _ => kq3 p j hp (by omega), fun j a b => (F3 156 j rfl).1⟩
    rcases hp with rfl | rfl | rfl
    · exact (F3 151 j rfl).1
    · exact (F3 152 j rfl).1
    · exact (F3 153 j rfl).1
  have v12 : (w13.1 147 12).toInt = H := by rw [(G13 147 12 rfl).1]; exact h.2.1
  have F113 : FR [(147, some 5), (147, some 6), (147, some 7), (155, none), (156, none)] w w13 := ((FR.tr (FR.refl _ w) F1 rfl).tr F10 rfl).tr F3 rfl
  have v11 : (w13.1 147 11).toInt = (N : Int) := by rw [(F113 147 11 rfl).1]; exact h.2.2.1
  have lwi := lw_le (f := f) (n := n) (show i ≤ i' + 1 by omega)
  refine mor hT h01 ⟨ms_fr m10 F3 rfl u5 (by omega), v12, v11, u6, u7⟩ (by omega) (fun res r15 w15 hk ou => ⟨bR, bR, ?_⟩)
  obtain ⟨m5, F5, N5, e5, n5, l5, k5, ok, bad⟩ := ou
  have mr := mx res.2.2.2
  have G15 : FR lrz w w15 := G13.tr F5 rfl
  have K5 : ∀ n0 n1 r0 r1 : Int, (r1 ≤ ((40 * g + rs.length : Nat) : Int) ∨ ((40 * g + rs.length : Nat) : Int) < r0) → (n1 ≤ 3000 * (1 - H) + (N : Int) ∨ 3000 * (1 - H) + (N5 : Int) ≤ n0) → KR n0 n1 r0 r1 w w15 := fun n0 n1 r0 r1 hr hn => by
    refine (K3 n0 n1 r0 r1 hr).tr ⟨fun p j hp a b => k5 p j hp (by omega), fun p j hp _ _ => ?_, fun j a b => (F5 156 j rfl).1⟩
    rcases hp with rfl | rfl | rfl | rfl
    · exact (F5 154 j rfl).1
    · exact (F5 155 j rfl).1
    · exact (F5 157 j rfl).1
    · exact (F5 158 j rfl).1
  rw [sI_same]
  have row : ∀ q, q = (if res.1 = true then tlS f n as' res.2.1 res.2.2.2 else rwF res.2.2.2) → RowS f n i q := fun q eq => by
    unfold RowS
    rw [if_pos hb, ey, if_pos (by rfl)]
    exact ⟨res, hk, eq⟩
  cases hr : res.1 with
  | false =>
    have rn := bad hr
    refine ⟨fun y => absurd rn (by omega), fun _ => hQ 0 _ (rwF res.2.2.2) (row _ (by rw [if_neg (nt hr)])) (FR.I G15 rfl) ((K5 _ _ _ _ (by omega) (by omega)).tr (kq_kr (R := 40 * g + rs.length) kq_R (FR.I (FR.refl _ w15) rfl) (by omega))) (fun y => absurd (show false = true from y) (by decide)) (fun _ => ⟨i_0, ?_, m5.2.2.2⟩)⟩
    rw [sI_oth _ _ _ _ _ _ (by decide)]
    exact m5.2.2.1
  | true =>
    obtain ⟨o5, st5, tb, l, kk, el, tr, rl⟩ := ok hr
    have r0 := tr_lo tr
    refine ⟨fun _ => ⟨bR, bR, ?_⟩, fun y => absurd (show 0 ≤ r15.toInt by omega) y⟩
    have iR : res.2.2.2 ≤ W := m5.2.2.2
    have F6 : FR [(154, none), (157, none), (159, none)] w15 (sI (sI (sI w15 154 (40 * g + rs.length) r15) 159 (40 * g + rs.length) (w15.1 147 7)) 157 (40 * g + rs.length) 0) := FR.I (FR.I (FR.I (FR.refl _ w15) rfl) rfl) rfl
    have F6t : FR ltz w15 (sI (sI (sI w15 154 (40 * g + rs.length) r15) 159 (40 * g + rs.length) (w15.1 147 7)) 157 (40 * g + rs.length) 0) := FR.I (FR.I (FR.I (FR.refl _ w15) rfl) rfl) rfl
    have kq6 : KQ (40 * g + rs.length) w15 (sI (sI (sI w15 154 (40 * g + rs.length) r15) 159 (40 * g + rs.length) (w15.1 147 7)) 157 (40 * g + rs.length) 0) := (kq_R.tr kq_R).tr kq_R
    have x4 : (sI (sI (sI w15 154 (40 * g + rs.length) r15) 159 (40 * g + rs.length) (w15.1 147 7)) 157 (40 * g + rs.length) 0).1 154 (40 * g + rs.length) = r15 := by
      rw [sI_oth _ _ _ _ _ _ (by decide), sI_oth _ _ _ _ _ _ (by decide), sI_same]
    have x7 : ((sI (sI (sI w15 154 (40 * g + rs.length) r15) 159 (40 * g + rs.length) (w15.1 147 7)) 157 (40 * g + rs.length) 0).1 157 (40 * g + rs.length)).toInt = 0 := by
      rw [sI_same]
      exact i_0
    generalize (sI (sI (sI w15 154 (40 * g + rs.length) r15) 159 (40 * g + rs.length) (w15.1 147 7)) 157 (40 * g + rs.length) 0) = w16 at *
    have K6 : ∀ n0 n1 r0 r1 : Int, (r1 ≤ ((40 * g + rs.length : Nat) : Int) ∨ ((40 * g + rs.length : Nat) : Int) < r0) → (n1 ≤ 3000 * (1 - H) + (N : Int) ∨ 3000 * (1 - H) + (N5 : Int) ≤ n0) → KR n0 n1 r0 r1 w w16 := fun n0 n1 r0 r1 hr hn => (K5 n0 n1 r0 r1 hr hn).tr (kq_kr kq6 F6t (by omega))
    have G16 : FR lrz w w16 := G15.tr F6 rfl
    have h16 : GN w16 f n W H g rs N5 res.2.2.2 := by
      refine ⟨ms_fr m5 F6 rfl (by rw [(F6 147 5 rfl).1]; exact m5.2.2.1) iR, by rw [(G16 147 12 rfl).1]; exact h.2.1, by rw [(F6 147 11 rfl).1]; exact e5, ?_, fun r x hx => ?_⟩
      · rw [(F6 147 13 rfl).1, (F5 147 13 rfl).1, (F113 147 13 rfl).1]
        exact h.2.2.2.1
      · have := rs_lt hx
        exact rwm_k (h.2.2.2.2 r x hx) (K6 _ _ (40 * (g : Int)) (40 * (g : Int) + (rs.length : Int)) (by omega) (by omega)) (by omega) (by omega) n5
    have trn : TRe w16 (3000 * (g : Int)) kk r15.toInt l := tr_fr _ _ _ (tr_low (show 3000 * (g : Int) ≤ 3000 * (1 - H) + (N : Int) by omega) _ _ _ tr) (fun p j hp _ _ => by
      rcases hp with rfl | rfl | rfl
      · exact (F6 151 j rfl).1
      · exact (F6 152 j rfl).1
      · exact (F6 153 j rfl).1) (by omega)
    have x16 : RwP w16 g rs.length N5 as' res.2.1 0 := by
      refine ⟨by rw [(F6 155 _ rfl).1, (F5 155 _ rfl).1]; exact u55, fun k a hk => ?_, a8, ⟨kk, by rw [x4, el]; exact trn⟩, by rw [x4]; omega, x7⟩
      rw [(F6 156 _ rfl).1, (F5 156 _ rfl).1, (F3 156 _ rfl).1]
      exact A10 k a hk
    have lwj := lw_le (f := f) (n := n) (tlS_j (f := f) (n := n) (as := as') (c := res.2.1) (j := res.2.2.2))
    have T : MFr RI w16 Q := tfor hT (by omega) h16 x16 L4 hR (fun b' w' F' K' R' => hQ b' w' _ (row _ (by rw [if_pos hr])) (G16.tr F' rfl) ((K6 _ _ _ _ (by omega) (by omega)).tr (kq_kr K' F' (by omega))) (fun y => ⟨(R'.1 y).1, N5, (R'.1 y).2, by omega⟩) (fun y => R'.2 y))
    unfold MFr at T
    rw [eR] at T
    exact T
/-! the reference reads all rows -/
theorem mr26 {w0 : MW} {f : Int → Int} {n : Int} {W : Nat} {H : Int} {g : Nat} {E Q : Int32 → MW → Prop} (hT : TXW f n W) (h01 : H = 0 ∨ H = 1) (hg : (g : Int) = 1 - H) (hE1 : ∀ w' rs' N' j, FR lrz w0 w' → KR (3000 * H) (3000 * H + 3000) (40 * H) (40 * H + 40) w0 w' → GN w' f n W H g rs' N' j → N' ≤ 3000 → rs'.length ≤ 40 → (∃ k, RdQ f n k [] 0 (-1) rs') → E 1 w') (hE0 : ∀ w' (r : Nat), FR lrz w0 w' → KR (3000 * H) (3000 * H + 3000) (40 * H) (40 * H + 40) w0 w' → (∃ k, RdQ f n k [] 0 (r : Int) []) → (w'.1 147 5).toInt = (r : Int) → r ≤ W → E 0 w') (m : Nat) : ∀ (w : MW) (rs : List Rw) (N i : Nat), FR lrz w0 w → KR (3000 * H) (3000 * H + 3000) (40 * H) (40 * H + 40) w0 w → GN w f n W H g rs N i → rs.length ≤ 40 → N ≤ lwn f n i → (∀ r x, (∃ k, RdQ f n k rs i r x) → ∃ k, RdQ f n k [] 0 r x) → 42 - rs.length < m → q_Mr_read_26 E Q m 1 w := by
  induction m with
  | zero => intros; omega
  | succ m ih =>
    intro w rs N i hF hK h c40 hN hc hm
    have mx := lw_max (f := f) hT.1 hT.2.1 i
    have W4 := h.1.2.1.2.1
    obtain ⟨m', em⟩ : ∃ m', m = m' + 1 := ⟨m - 1, by omega⟩
    rw [q_Mr_read_26.eq_2]
    refine ⟨fun z => absurd z i1n, fun _ => ⟨fun z => ?_, fun z => ?_⟩⟩
    · rw [h.1.2.1.1, h.1.2.2.1] at z
      have e := wat_e hT.1 hT.2.2 (i - W)
      rw [show W + (i - W) = i by omega] at e
      exact hE1 w rs N i hF hK h (by omega) c40 (hc _ _ ⟨1, Or.inl ⟨by omega, rfl, rfl⟩⟩)
    rw [h.1.2.1.1, h.1.2.2.1] at z
    have iw := (h.1.2.1.2.2 i (by omega)).2.2
    have fail : ∀ (w' : MW) (r : Nat), FR lrz w w' → KR (3000 * H) (3000 * H + 3000) (40 * H) (40 * H + 40) w w' → (∃ k, RdQ f n k rs i (r : Int) []) → (w'.1 147 5).toInt = (r : Int) → r ≤ W → q_Mr_read_26 E Q m 0 w' := fun w' r F' K' hk e eb => by
      rw [em, q_Mr_read_26.eq_2]
      exact ⟨fun _ => hE0 w' r (hF.tr F' rfl) (hK.tr K') (hc _ _ hk) e eb, fun y => absurd i_0 y⟩
    have K0 : KR (3000 * H) (3000 * H + 3000) (40 * H) (40 * H + 40) w w := ⟨fun _ _ _ _ _ => rfl, fun _ _ _ _ _ => rfl, fun _ _ _ => rfl⟩
    refine mis3 hT h.1 (A := 98) (B := 97) (C := 114) (by decide) (by decide) (by decide) (fun q => ⟨fun y => absurd y i1n, fun _ => ⟨fun y => ?_, fun y => ?_⟩⟩) (fun q => ⟨fun _ => ?_, fun y => absurd i_0 y⟩)
    · rw [h.2.2.2.1] at y
      exact fail w i (FR.refl _ w) K0 ⟨1, Or.inr (Or.inl ⟨iw, by omega, rfl, rfl⟩)⟩ h.1.2.2.1 h.1.2.2.2
    · rw [h.2.2.2.1] at y
      refine mrow hT h01 hg h (by omega) hN (by rw [ltw_6]; exact q) (fun b w' x S' F' K' h1 h0 => ?_)
      cases hx : x.1 with
      | false =>
        have e := h0 hx
        exact ⟨fun _ => fail w' x.2.2 F' K' ⟨1, Or.inr (Or.inr ⟨iw, by omega, x, S', Or.inl ⟨hx, rfl, rfl⟩⟩)⟩ e.2.1 e.2.2, fun t => absurd e.1 t⟩
      | true =>
        obtain ⟨e, N', g', n'⟩ := h1 hx
        have el : (rs ++ [x.2.1]).length = rs.length + 1 := by
          rw [List.length_append]
          rfl
        refine ⟨fun t => absurd (e.symm.trans t) (by decide), fun _ => ih w' (rs ++ [x.2.1]) N' x.2.2 (hF.tr F' rfl) (hK.tr K') g' (by omega) n' (fun r y hk => hc r y ?_) (by omega)⟩
        obtain ⟨k, hk⟩ := hk
        exact ⟨k + 1, Or.inr (Or.inr ⟨iw, by omega, x, S', Or.inr ⟨hx, hk⟩⟩)⟩
    · by_cases l40 : rs.length = 40
      · exact fail w i (FR.refl _ w) K0 ⟨1, Or.inr (Or.inl ⟨iw, l40, rfl, rfl⟩)⟩ h.1.2.2.1 h.1.2.2.2
      · refine fail w i (FR.refl _ w) K0 ⟨1, Or.inr (Or.inr ⟨iw, by omega, rwF i, ?_, Or.inl ⟨rfl, rfl, rfl⟩⟩)⟩ h.1.2.2.1 h.1.2.2.2
        unfold RowS
        rw [ltw_6, if_neg (nt q)]
def lcn : Pl := [(160, none), (161, none), (162, none)]
theorem mr115 {w0 : MW} {L : Nat} {E : MW → Prop} {Q : Int32 → MW → Prop} (hL : (w0.1 147 20).toInt = (L : Int)) (L4 : L ≤ 40) (hE : ∀ w', FR lcn w0 w' → (∀ r : Nat, r < L → w'.1 160 r = 0 ∧ w'.1 161 r = 0 ∧ w'.1 162 r = 0) → E w') (m : Nat) : ∀ (j : Nat) (w : MW), j ≤ L → FR lcn w0 w → (∀ r : Nat, r < j → w.1 160 r = 0 ∧ w.1 161 r = 0 ∧ w.1 162 r = 0) → L - j < m → q_Mr_read_115 E Q m (nI j) w := by
  induction m with
  | zero => intros; omega
  | succ m ih =>
    intro j w hj hF hz hm
    have tj : (nI j).toInt = (j : Int) := nI_toInt (by omega)
    have e20 : (w.1 147 20).toInt = (L : Int) := by rw [(hF 147 20 rfl).1]; exact hL
    rw [q_Mr_read_115.eq_2]
    refine ⟨fun c => hE w hF (fun r hr => hz r (by omega)), fun c => ?_⟩
    have bj : 0 ≤ (nI j).toInt ∧ (nI j).toInt < 40 := by rw [tj]; omega
    refine ⟨bj, bj, bj, ?_⟩
    rw [nI_1, nar0z, show (nI j).toInt.toNat = j by rw [tj]; omega]
    refine ih (j + 1) _ (by omega) (FR.I (FR.I (FR.I hF rfl) rfl) rfl) (fun r hr => ?_) (by omega)
    by_cases q : r = j
    · rw [q]
      refine ⟨?_, ?_, ?_⟩
      · rw [sI_oth _ _ _ _ _ _ (by decide), sI_oth _ _ _ _ _ _ (by decide), sI_same]
      · rw [sI_oth _ _ _ _ _ _ (by decide), sI_same]
      · rw [sI_same]
    · have t := hz r (by omega)
      refine ⟨?_, ?_, ?_⟩
      · rw [sI_oth _ _ _ _ _ _ (by decide), sI_oth _ _ _ _ _ _ (by decide), sI_ne _ _ _ _ _ q]
        exact t.1
      · rw [sI_oth _ _ _ _ _ _ (by decide), sI_ne _ _ _ _ _ q, sI_oth _ _ _ _ _ _ (by decide)]
        exact t.2.1
      · rw [sI_ne _ _ _ _ _ q, sI_oth _ _ _ _ _ _ (by decide), sI_oth _ _ _ _ _ _ (by decide)]
        exact t.2.2
/-- the rows rs stand, in half g -/
def RoM (w : MW) (g : Nat) (rs : List Rw) : Prop := g ≤ 1 ∧ (w.1 147 12).toInt = (g : Int) ∧ (w.1 147 20).toInt = (rs.length : Int) ∧ rs.length ≤ 40 ∧ ∀ (r : Nat) (x : Rw), rs[r]? = some x → RwM w g r 3000 x
theorem rom_k {w w' : MW} {g : Nat} {rs : List Rw} (h : RoM w g rs) (e1 : w'.1 147 12 = w.1 147 12) (e2 : w'.1 147 20 = w.1 147 20) (hK : KR (3000 * (g : Int)) (3000 * (g : Int) + 3000) (40 * (g : Int)) (40 * (g : Int) + 40) w w') : RoM w' g rs :=
  ⟨h.1, by rw [e1]; exact h.2.1, by rw [e2]; exact h.2.2.1, h.2.2.2.1, fun r x hx => by
    have := rs_lt hx
    have l4 := h.2.2.2.1
    exact rwm_k (h.2.2.2.2 r x hx) (hK.mono (Int.le_refl _) (by omega) (Int.le_refl _) (Int.le_refl _)) (by omega) (by omega) (Nat.le_refl _)⟩
def lmq : Pl := [(147, some 1), (147, some 4), (147, some 5), (147, some 6), (147, some 7), (147, some 11), (147, some 12), (147, some 13), (147, some 20), (149, none), (150, none), (151, none), (152, none), (153, none), (154, none), (155, none), (156, none), (157, none), (158, none), (159, none), (160, none), (161, none), (162, none)]
/-- the reference reads interlocks -/
theorem mq_read {w : MW} {f : Int → Int} {n : Int} {g0 : Nat} {rs0 : List Rw} {Q : Int32 → MW → Prop} (n0 : 0 ≤ n) (n4 : n ≤ 4000) (hs : (w.1 147 1).toInt = n) (hM : MT w f n) (h0 : RoM w g0 rs0) (hQ : ∀ (a : Int32) (w' : MW), FR lmq w w' → (w'.1 147 1).toInt = 0 → ((∃ g rs, (∃ k, RdQ f n k [] 0 (-1) rs) ∧ RoM w' g rs ∧ a.toInt = (rs.length : Int) ∧ ∀ r : Nat, r < rs.length → w'.1 160 r = 0 ∧ w'.1 161 r = 0 ∧ w'.1 162 r = 0) ∨ (∃ r : Nat, (∃ k, RdQ f n k [] 0 (r : Int) []) ∧ r ≤ 4000 ∧ a.toInt = -1 - (r : Int) ∧ RoM w' g0 rs0 ∧ (∀ j : Nat, w'.1 160 j = w.1 160 j ∧ w'.1 161 j = w.1 161 j ∧ w'.1 162 j = w.1 162 j))) → Q a w') : p_Mr_read w Q := by
  refine Eq.mpr (p_Mr_read.eq_1 _ _) (mq_cut n0 n4 hs hM (fun w1 W F1 c1 eW => ?_))
  have hT : TXW f n W := ⟨n0, n4, eW⟩
  have gb := h0.1
  obtain ⟨g, hg⟩ : ∃ g : Nat, (g : Int) = 1 - (g0 : Int) := ⟨1 - g0, by omega⟩
  have h01 : (g0 : Int) = 0 ∨ (g0 : Int) = 1 := by omega
  have F2 : FR [(147, some 1), (147, some 5), (147, some 11), (147, some 13)] w1 (sI (sI (sI (sI w1 147 1 0) 147 5 0) 147 11 0) 147 13 0) := FR.I (FR.I (FR.I (FR.I (FR.refl _ w1) rfl) rfl) rfl) rfl
  have r1 : ((sI (sI (sI (sI w1 147 1 0) 147 5 0) 147 11 0) 147 13 0).1 147 1).toInt = 0 := by
    rw [sI_ne _ _ _ _ _ (by decide), sI_ne _ _ _ _ _ (by decide), sI_ne _ _ _ _ _ (by decide), sI_same]
    exact i_0
  have r5 : ((sI (sI (sI (sI w1 147 1 0) 147 5 0) 147 11 0) 147 13 0).1 147 5).toInt = ((0 : Nat) : Int) := by
    rw [sI_ne _ _ _ _ _ (by decide), sI_ne _ _ _ _ _ (by decide), sI_same]
    exact i_0
  have r11 : ((sI (sI (sI (sI w1 147 1 0) 147 5 0) 147 11 0) 147 13 0).1 147 11).toInt = ((0 : Nat) : Int) := by
    rw [sI_ne _ _ _ _ _ (by decide), sI_same]
    exact i_0
  have r13 : ((sI (sI (sI (sI w1 147 1 0) 147 5 0) 147 11 0) 147 13 0).1 147 13).toInt = (([] : List Rw).length : Int) := by
    rw [sI_same]
    exact i_0
  generalize (sI (sI (sI (sI w1 147 1 0) 147 5 0) 147 11 0) 147 13 0) = w2 at *
  have F12 : FR [(147, some 1), (147, some 4), (147, some 5), (147, some 11), (147, some 13), (149, none), (150, none)] w w2 := (FR.tr (FR.refl _ w) F1 rfl).tr F2 rfl
  have M2 : MT w2 f n := fun p hp => by rw [(F12 148 p rfl).1]; exact hM p hp
  have C2 : WC w2 f n W := ⟨by rw [(F2 147 4 rfl).1]; exact c1.1, c1.2.1, fun j hj => by rw [(F2 149 j rfl).1, (F2 150 j rfl).1]; exact c1.2.2 j hj⟩
  have h12 : (w2.1 147 12).toInt = (g0 : Int) := by rw [(F12 147 12 rfl).1]; exact h0.2.1
  refine mr26 (w0 := w2) hT h01 hg (fun w' rs' N' j F' K' G' N3 L4 hk => ?_) (fun w' r F' K' hk e eb => ?_) FU w2 [] 0 0 (FR.refl _ w2) ⟨fun _ _ _ _ _ => rfl, fun _ _ _ _ _ => rfl, fun _ _ _ => rfl⟩ ⟨⟨M2, C2, r5, Nat.zero_le _⟩, h12, r11, r13, fun r x hx => by cases hx⟩ (by decide) (Nat.zero_le _) (fun r x hk => hk) (fu_lt (by decide))
  · refine ⟨fun _ => ?_, fun y => absurd i1n y⟩
    have e12 := ti_sub2 i_1 G'.2.1 (by omega) (by omega)
    have F3 : FR [(147, some 12), (147, some 20)] w' (sI (sI w' 147 12 ((1 : Int32) - (w'.1 147 12))) 147 20 (w'.1 147 13)) := FR.I (FR.I (FR.refl _ w') rfl) rfl
    have v12 : ((sI (sI w' 147 12 ((1 : Int32) - (w'.1 147 12))) 147 20 (w'.1 147 13)).1 147 12).toInt = (g : Int) := by
      rw [sI_ne _ _ _ _ _ (by decide), sI_same, e12]
      omega
    have v20 : ((sI (sI w' 147 12 ((1 : Int32) - (w'.1 147 12))) 147 20 (w'.1 147 13)).1 147 20).toInt = (rs'.length : Int) := by
      rw [sI_same]
      exact G'.2.2.2.1
    generalize (sI (sI w' 147 12 ((1 : Int32) - (w'.1 147 12))) 147 20 (w'.1 147 13)) = w3 at *
    refine mr115 v20 L4 (fun w4 F4 z4 => hQ _ w4 ?_ ?_ (Or.inl ⟨g, rs', hk, ⟨by omega, by rw [(F4 147 12 rfl).1]; exact v12, by rw [(F4 147 20 rfl).1]; exact v20, L4, fun r x hx => ?_⟩, by rw [(F4 147 20 rfl).1]; exact v20, z4⟩)) FU 0 w3 (Nat.zero_le _) (FR.refl _ w3) (fun r hr => absurd hr (Nat.not_lt_zero _)) (Nat.lt_of_le_of_lt (show _ ≤ 40 by omega) (fu_lt (by decide)))
    · exact ((((FR.tr (FR.refl _ w) F12 rfl).tr F' rfl).tr F3 rfl).tr F4 rfl)
    · rw [(F4 147 1 rfl).1, (F3 147 1 rfl).1, (F' 147 1 rfl).1]
      exact r1
    · have := rs_lt hx
      have F34 : FR [(147, some 12), (147, some 20), (160, none), (161, none), (162, none)] w' w4 := (FR.tr (FR.refl _ w') F3 rfl).tr F4 rfl
      exact rwm_k (G'.2.2.2.2 r x hx) (KR.fr F34 rfl) (Int.le_refl _) (show 40 * (g : Int) + (r : Int) < 40 * (g : Int) + (r : Int) + 1 by omega) N3
  · refine ⟨fun y => absurd i_0 y, fun _ => hQ _ w' ((FR.tr (FR.refl _ w) F12 rfl).tr F' rfl) (by rw [(F' 147 1 rfl).1]; exact r1) (Or.inr ⟨r, hk, by have := c1.2.1; omega, ?_, ?_, fun j => ⟨?_, ?_, ?_⟩⟩)⟩
    · have hh := ti_hi (w'.1 147 5)
      rw [ti_sub2 i_m1 e (by omega) (by omega)]
    · exact rom_k h0 (((F' 147 12 rfl).1).trans (F12 147 12 rfl).1) (((F' 147 20 rfl).1).trans (F12 147 20 rfl).1) ((KR.fr F12 rfl).tr K')
    · rw [(F' 160 j rfl).1, (F12 160 j rfl).1]
    · rw [(F' 161 j rfl).1, (F12 161 j rfl).1]
    · rw [(F' 162 j rfl).1, (F12 162 j rfl).1]
/-! the reference's end of a text, as far as its rows go -/
def sameR (w w' : MW) : Prop := ∀ k j : Nat, (k = 147 ∨ (151 ≤ k ∧ k ≤ 162)) → w'.1 k j = w.1 k j
def lqq : Pl := [(147, none), (151, none), (152, none), (153, none), (154, none), (155, none), (156, none), (157, none), (158, none), (159, none), (160, none), (161, none), (162, none)]
theorem sr_fr {l : Pl} {w w' : MW} (hF : FR l w w') (ho : off l lqq = true) : sameR w w' := fun k j hk => by
  have : k = 147 ∨ k = 151 ∨ k = 152 ∨ k = 153 ∨ k = 154 ∨ k = 155 ∨ k = 156 ∨ k = 157 ∨ k = 158 ∨ k = 159 ∨ k = 160 ∨ k = 161 ∨ k = 162 := by omega
  rcases this with rfl | rfl | rfl | rfl | rfl | rfl | rfl | rfl | rfl | rfl | rfl | rfl | rfl <;> exact (hF _ j (off_hit ho rfl)).1
def lme3 : Pl := [(129, some 1), (130, none), (129, some 12), (129, some 30), (129, some 31), (129, some 32), (129, some 33), (129, some 2), (129, some 3), (129, some 4), (129, some 5), (129, some 6), (129, some 7), (129, some 8), (129, some 9), (129, some 10), (129, some 11), (129, some 13), (129, some 21), (129, some 23), (129, some 24), (129, some 35), (129, some 38), (145, none), (146, none), (131, none), (132, none), (133, none), (134, none), (135, none), (136, none), (137, none), (138, none), (139, none), (140, none), (141, none), (142, none), (143, none), (144, none), (127, some 26), (127, some 59), (167, none), (181, none), (182, none), (183, none), (184, none), (185, none), (186, none), (187, none), (201, none), (206, none)]
theorem mej_97 {a b : Int32} {E : MW → Prop} {Q : Int32 → MW → Prop} (ha : ¬ a.toInt = 1) (hb : b.toInt ≤ 4000) {w0 : MW} (hE : ∀ w', MdJ w' → FR lme3 w0 w' → E w') (n : Nat) : ∀ (k : Int32) (w : MW), MdJ w → FR lme3 w0 w → 0 ≤ k.toInt → k.toInt ≤ 4000 → (4000 - k.toInt).toNat < n → q_Mo_end_97 a b E Q n k w := by
  induction n with
  | zero => intros; omega
  | succ n ih =>
    intro k w h hw k0 k1 hm
    rw [q_Mo_end_97.eq_2]
    refine ⟨fun _ => hE w h hw, fun c => ?_⟩
    have s1 := ti_add2 (Eq.refl k.toInt) i_1 (by omega) (by omega)
    have b128 := bd_128 h.1.1 k.toInt.toNat
    exact ⟨fun _ => ⟨⟨by omega, by omega⟩, h_Tx_unit h.1.1 b128.1 b128.2 (fun r w' h' f' _ _ => ih _ _ (MdJ_fr f' h' rfl h) (hw.tr f' rfl) (by omega) (by omega) (by omega))⟩, fun z => absurd ha z⟩
theorem mej_193 {z : Int32} {E : MW → Prop} {Q : Int32 → MW → Prop} {w0 : MW} (hE : ∀ w', FR lme3 w0 w' → E w') (n : Nat) : ∀ (k : Int32) (w : MW), FR lme3 w0 w → 0 ≤ k.toInt → k.toInt ≤ 40 → (40 - k.toInt).toNat < n → q_Mo_end_193 z E Q n k w := by
  induction n with
  | zero => intros; omega
  | succ n ih =>
    intro k w hw k0 k1 hm
    rw [q_Mo_end_193.eq_2]
    refine ⟨fun _ => hE w hw, fun c => ?_⟩
    have s1 := ti_add2 (Eq.refl k.toInt) i_1 (by omega) (by omega)
    exact ⟨⟨by omega, by omega⟩, ⟨by omega, by omega⟩, ih _ _ (FR.J (FR.I hw rfl) rfl) (by omega) (by omega) (by omega)⟩
def lun : Pl := [(147, some 1), (148, none)]
theorem meq_97 {a b : Int32} {E : MW → Prop} {Q : Int32 → MW → Prop} (ha : a.toInt = 1) (b0 : 0 ≤ b.toInt) (b4 : b.toInt ≤ 4000) {w0 : MW} (hb : ∀ p : Nat, (p : Int) < b.toInt → 1 ≤ (w0.1 128 p).toInt ∧ (w0.1 128 p).toInt ≤ 127) (hE : ∀ w', FR lun w0 w' → (w'.1 147 1).toInt = b.toInt → (∀ p : Nat, (p : Int) < b.toInt → (w'.1 148 p).toInt = (w0.1 128 p).toInt) → E w') (n : Nat) : ∀ (k : Nat) (w : MW), (k : Int) ≤ b.toInt → FR lun w0 w → (w.1 147 1).toInt = (k : Int) → (∀ p : Nat, p < k → (w.1 148 p).toInt = (w0.1 128 p).toInt) → 4001 - k < n → q_Mo_end_97 a b E Q n (nI k) w := by
  induction n with
  | zero => intros; omega
  | succ n ih =>
    intro k w hk hw hs hp hm
    have tk : (nI k).toInt = (k : Int) := nI_toInt (by omega)
    have tn : (nI k).toInt.toNat = k := by omega
    rw [q_Mo_end_97.eq_2]
    refine ⟨fun c => hE w hw (by omega) (fun p hp' => hp p (by omega)), fun c => ⟨fun z => absurd ha z, fun _ => ⟨⟨by omega, by omega⟩, ?_⟩⟩⟩
    rw [tn, nI_1]
    have e8 : w.1 128 k = w0.1 128 k := (hw 128 k rfl).1
    have bk := hb k (by omega)
    rw [e8]
    have sz : (w.1 147 1).toInt.toNat = k := by omega
    refine Eq.mpr (p_Mr_unit.eq_1 _ _ _) ⟨fun z => by omega, fun _ => ⟨fun z => by omega, fun _ => ⟨fun _ => ⟨⟨by omega, by omega⟩, ?_⟩, fun z => absurd (show ¬ (w.1 147 1).toInt = 4020 by omega) z⟩⟩⟩
    rw [sz]
    have s1 := ti_add2 hs i_1 (by omega) (by omega)
    refine ih (k + 1) _ (by omega) (FR.I (FR.I hw rfl) rfl) (by rw [sI_same, s1]; omega) (fun p hp' => ?_) (by omega)
    rw [sI_oth _ _ _ _ _ _ (by decide)]
    by_cases q : p = k
    · rw [q, sI_same]
      exact nby (by omega) (by omega)
    · rw [sI_ne _ _ _ _ _ q]
      exact hp p (by omega)
/-- what the reference's end does to its rows; f the text's bytes -/
def EMq (w : MW) (f : Int → Int) (g0 : Nat) (rs0 : List Rw) (a b : Int32) (r : Int32) (w' : MW) : Prop := (¬ ((fitE (w.1 127 1).toInt a b ∧ txO (MTx w b.toInt) b.toInt) ∧ a.toInt = 1) ∧ sameR w w') ∨ (((fitE (w.1 127 1).toInt a b ∧ txO (MTx w b.toInt) b.toInt) ∧ a.toInt = 1) ∧ (w'.1 147 1).toInt = 0 ∧ w'.1 147 24 = w.1 147 24 ∧ ((∃ g rs, (∃ k, RdQ f b.toInt k [] 0 (-1) rs) ∧ RoM w' g rs ∧ r.toInt = (rs.length : Int) ∧ ∀ j : Nat, j < rs.length → w'.1 160 j = 0 ∧ w'.1 161 j = 0 ∧ w'.1 162 j = 0) ∨ (∃ q : Nat, (∃ k, RdQ f b.toInt k [] 0 (q : Int) []) ∧ r.toInt = -3 - (q : Int) ∧ RoM w' g0 rs0 ∧ (∀ j : Nat, w'.1 160 j = w.1 160 j ∧ w'.1 161 j = w.1 161 j ∧ w'.1 162 j = w.1 162 j))))
theorem mx_endq {w : MW} {a b : Int32} {f : Int → Int} {g0 : Nat} {rs0 : List Rw} {Q : Int32 → MW → Prop} (h : MdJ w) (hs : (w.1 147 1).toInt = 0) (hR : RoM w g0 rs0) (hf : ∀ p : Nat, (p : Int) < b.toInt → (w.1 128 p).toInt = f p) (hQ : ∀ r w', EMq w f g0 rs0 a b r w' → Q r w') : p_Mo_end w a b Q := by
  have F0 : FR [(127, some 1)] w (sI w 127 1 0) := FR.I (FR.refl _ w) rfl
  have h1 : MdJ (sI w 127 1 0) := MdJ_fr (l := [(127, some 1)]) F0 (wbd_127_1 h.1.1 (by decide) (by decide)) rfl h
  have S0 : sameR w (sI w 127 1 0) := sr_fr F0 rfl
  have N : ¬ (fitE (w.1 127 1).toInt a b ∧ txO (MTx w b.toInt) b.toInt) → Q (-1) (sI w 127 1 0) := fun k => hQ _ _ (Or.inl ⟨fun z => k z.1, S0⟩)
  have K0 : ¬ fitE (w.1 127 1).toInt a b → q_Mo_end_33 a b 0 w Q := fun k => Eq.mpr (q_Mo_end_33.eq_1 _ _ _ _ _) (z37 99999999999999999999 _ ⟨fun c => absurd i_0 c, fun _ => N (fun z => k z.1)⟩)
  have K1 : fitE (w.1 127 1).toInt a b → q_Mo_end_33 a b 1 w Q := fun ft => by
    have g0' := ft.1
    have g2 := ft.2.1
    have gb := ft.2.2.1
    have gb4 := ft.2.2.2.1
    refine Eq.mpr (q_Mo_end_33.eq_1 _ _ _ _ _) (mx_37 h.1.1 ft.2.2.2.1 (fun ok => ⟨fun _ => ⟨fun ca => ?_, fun ca => ?_⟩, fun c => absurd (show ¬ (1 : Int32).toInt = 0 by decide) c⟩) (fun no => ⟨fun c => absurd i_0 c, fun _ => N (fun z => no z.2)⟩) FU 0 (by omega) (fun p p0 p1 => by omega) (fu_lt (by decide)))
    · by_cases c1 : a.toInt = 1
      · have e128 : ∀ j, (sI w 127 1 0).1 128 j = w.1 128 j := fun j => (F0 128 j rfl).1
        have hs1 : ((sI w 127 1 0).1 147 1).toInt = 0 := by rw [(F0 147 1 rfl).1]; exact hs
        have R1 : RoM (sI w 127 1 0) g0 rs0 := rom_k hR (F0 147 12 rfl).1 (F0 147 20 rfl).1 (KR.fr F0 rfl)
        clear N K0 S0
        generalize (sI w 127 1 0) = w1 at *
        have byt1 : ∀ p : Nat, (p : Int) < b.toInt → 1 ≤ (w1.1 128 p).toInt ∧ (w1.1 128 p).toInt ≤ 127 := fun p hp => by
          have t := ok p (by omega) hp
          unfold MTx at t
          rw [if_pos ⟨by omega, hp⟩] at t
          rw [e128]
          exact t
        refine meq_97 (w0 := w1) c1 gb gb4 byt1 (fun w15 f15 s15 t15 => ⟨fun z => absurd c1 z, fun _ => ?_⟩) FU 0 w1 gb (FR.refl _ w1) hs1 (fun p hp => absurd hp (Nat.not_lt_zero _)) (fu_lt (by decide))
        refine mq_read (f := f) (g0 := g0) (rs0 := rs0) gb gb4 s15 (fun p hp => by rw [t15 p hp, e128]; exact hf p hp) (rom_k R1 (f15 147 12 rfl).1 (f15 147 20 rfl).1 (KR.fr f15 rfl)) (fun r w' F' z1 q => ?_)
        have e24 : w'.1 147 24 = w.1 147 24 := ((F' 147 24 rfl).1).trans (((f15 147 24 rfl).1).trans (F0 147 24 rfl).1)
        refine Eq.mpr (q_Mo_end_169.eq_1 _ _ _ _) ⟨fun _ => ?_, fun c2 => by omega⟩
        rcases q with ⟨g, rs, k, R', er, z⟩ | ⟨q, k, qb, er, R', z⟩
        · exact ⟨fun _ => hQ r w' (Or.inr ⟨⟨⟨ft, ok⟩, c1⟩, z1, e24, Or.inl ⟨g, rs, k, R', er, z⟩⟩), fun c => by omega⟩
        · have lo := ti_lo r
          have er2 : -3 - (q : Int) < 0 := by omega
          obtain ⟨kk, hk⟩ := k
          refine ⟨fun c => by omega, fun _ => hQ _ w' (Or.inr ⟨⟨⟨ft, ok⟩, c1⟩, z1, e24, Or.inr ⟨q, ⟨kk, hk⟩, ?_, R', fun j => ?_⟩⟩)⟩
          · rw [ti_sub2 er b_2 (by omega) (by omega)]
            omega
          · have t := z j
            rw [t.1, t.2.1, t.2.2, (f15 160 j rfl).1, (f15 161 j rfl).1, (f15 162 j rfl).1, (F0 160 j rfl).1, (F0 161 j rfl).1, (F0 162 j rfl).1]
            exact ⟨rfl, rfl, rfl⟩
      · have O : ∀ (r : Int32) (w' : MW), FR lme3 (sI w 127 1 0) w' → Q r w' := fun r w' ff => hQ r w' (Or.inl ⟨fun z => c1 z.2, fun k j hk => (sr_fr ff rfl k j hk).trans (S0 k j hk)⟩)
        clear N K0 S0 F0
        generalize (sI w 127 1 0) = w1 at *
        refine mej_97 (w0 := w1) c1 gb4 (fun w15 h15 f15 => ?_) FU 0 w1 h1 (FR.refl _ w1) (by decide) (by decide) (fu_lt (by decide))
        have P15 := h15.1.2.2.2.1
        refine ⟨fun _ => t_read h15.1.1 h15.2.2 h15.2.1 (fun r w' hB hF hV hL _ => ?_), fun z => absurd c1 z⟩
        have P' : PF w' := PF_fr hF rfl P15
        have OO : ∀ w26 : MW, FR lme3 w1 w26 → ((0 ≤ r.toInt → (Q r w26)) ∧ (¬ (0 ≤ r.toInt) → (Q (r - (2 : Int32)) w26))) := fun w26 f26 => ⟨fun _ => O _ _ f26, fun _ => O _ _ f26⟩
        refine Eq.mpr (q_Mo_end_169.eq_1 _ _ _ _) ⟨fun c2 => OO w' (f15.tr hF rfl), fun _ => ⟨fun c => OO w' (f15.tr hF rfl), fun _ => ?_⟩⟩
        have B4 : BND (sI w' 127 59 4) := wbd_127_59 hB (by decide) (by decide)
        have F4 : FR [(127, some 59)] w' (sI w' 127 59 4) := FR.I (FR.refl _ w') rfl
        have G4 : FR lme3 w1 (sI w' 127 59 4) := FR.I (f15.tr hF rfl) rfl
        have P4 : PF (sI w' 127 59 4) := PF_fr F4 rfl P'
        generalize (sI w' 127 59 4) = w4 at *
        exact h_Mo_closeAll B4 P4.2.1 P4.2.2.1 (fun w22 B22 F22 T22 H22 => mej_193 (w0 := w1) (fun w26 f26 => OO w26 f26) FU 0 w22 (G4.tr F22 rfl) (by decide) (by decide) (fu_lt (by decide)))
    · have h2 : MdJ (sI (sI w 127 1 0) 127 22 b) := MdJ_fr (l := [(127, some 22)]) (FR.I (FR.refl _ _) rfl) (wbd_127_22 h1.1.1 gb gb4) rfl h1
      have F2 : FR [(127, some 1), (127, some 22)] w (sI (sI w 127 1 0) 127 22 b) := FR.I (FR.I (FR.refl _ w) rfl) rfl
      have a0 := Classical.not_not.mp ca
      generalize (sI (sI w 127 1 0) 127 22 b) = w2 at *
      exact rm_read h2.1.1 (fun r w' r' ls B' F' k q => hQ r w' (Or.inl ⟨fun z => by have := z.2; omega, fun k j hk => (sr_fr F' rfl k j hk).trans (sr_fr F2 rfl k j hk)⟩))
  exact Eq.mpr (p_Mo_end.eq_1 _ _ _ _) ⟨fun c => K0 (fun z => by have := z.1; omega), fun a0 => ⟨fun c => K0 (fun z => by have := z.2.1; omega), fun a2 => ⟨fun c => K0 (fun z => by have := z.2.2.1; omega), fun b0 => ⟨fun c => K0 (fun z => by have := z.2.2.2.1; omega), fun b4 => ⟨fun c => K0 (fun z => by have := z.2.2.2.2; omega), fun bn => K1 ⟨by omega, by omega, by omega, by omega, by omega⟩⟩⟩⟩⟩⟩
/-! the class's end of a text, as far as its rows go -/
def sameC (w w' : MW) : Prop := (∀ k j : Nat, 48 ≤ k → k ≤ 56 → w'.1 k j = w.1 k j) ∧ w'.2.2 47 3 = w.2.2 47 3
def lqc : Pl := [(47, some 3), (48, none), (49, none), (50, none), (51, none), (52, none), (53, none), (54, none), (55, none), (56, none)]
theorem sc_fr {l : Pl} {w w' : MW} (hF : FR l w w') (ho : off l lqc = true) : sameC w w' := by
  refine ⟨fun k j h1 h2 => ?_, (hF 47 3 (off_hit ho rfl)).2.2⟩
  have : k = 48 ∨ k = 49 ∨ k = 50 ∨ k = 51 ∨ k = 52 ∨ k = 53 ∨ k = 54 ∨ k = 55 ∨ k = 56 := by omega
  rcases this with rfl | rfl | rfl | rfl | rfl | rfl | rfl | rfl | rfl <;> exact (hF _ j (off_hit ho rfl)).1
theorem roc_fr {l : Pl} {w w' : MW} {rs : List Rw} (h : RosC w rs) (hF : FR l w w') (ho : off l [(99, some 0), (99, some 10), (99, some 15), (100, none), (101, none), (102, none), (103, none), (104, none), (105, none), (106, none), (107, none)] = true) : RosC w' rs := by
  refine ⟨by rw [(hF 99 0 (off_hit ho rfl)).1]; exact h.1, ⟨by rw [(hF 99 10 (off_hit ho rfl)).1]; exact h.2.1.1, fun j x hx => by rw [(hF 107 _ (off_hit ho rfl)).1]; exact h.2.1.2 j x hx⟩, by rw [(hF 99 15 (off_hit ho rfl)).1]; exact h.2.2.1, fun r x hx => ?_⟩
  have t := h.2.2.2 r x hx
  unfold RwC at t ⊢
  rw [(hF 100 r (off_hit ho rfl)).1, (hF 101 r (off_hit ho rfl)).1, (hF 102 r (off_hit ho rfl)).1, (hF 103 r (off_hit ho rfl)).1, (hF 104 r (off_hit ho rfl)).1, (hF 105 r (off_hit ho rfl)).1, (hF 106 r (off_hit ho rfl)).1, (hF 106 (r + 1) (off_hit ho rfl)).1]
  exact t
theorem rdq_nil {f : Int → Int} {n : Int} : ∀ (k : Nat) (rs : List Rw) (i : Nat) (r : Int) (x : List Rw), RdQ f n k rs i r x → 0 ≤ r → x = [] := by
  intro k
  induction k with
  | zero => intro rs i r x h; exact absurd h (fun z => z)
  | succ k ih =>
    intro rs i r x h r0
    rcases h with ⟨_, b, _⟩ | ⟨_, _, _, d⟩ | ⟨_, _, q, _, h⟩
    · omega
    · exact d
    · rcases h with ⟨_, _, s⟩ | ⟨_, v⟩
      · exact s
      · exact ih _ _ _ _ v r0
def ECr (w : MW) (g : Int → Int) (n : Int) (r : Int32) (w' : MW) : Prop := (∃ rs, (∃ k, RdQ g n k [] 0 (-1) rs) ∧ r.toInt = (rs.length : Int) ∧ RosC w' rs ∧ w'.1 99 1 = w.1 48 1 ∧ w'.2.2 47 3 = some 99) ∨ (∃ (q : Int) (x : Int32), 0 ≤ q ∧ (∃ k, RdQ g n k [] 0 q []) ∧ x.toInt = q ∧ r = ((-3) : Int32) - x ∧ sameC w w')
/-- what the class's end does to its rows -/
def ECq (w : MW) (a b : Int32) (r : Int32) (w' : MW) : Prop := (¬ ((fitE (w.1 1 1).toInt a b ∧ txO (CTx w b.toInt) b.toInt) ∧ a.toInt = 1) ∧ sameC w w') ∨ (((fitE (w.1 1 1).toInt a b ∧ txO (CTx w b.toInt) b.toInt) ∧ a.toInt = 1) ∧ ECr w (CTx w b.toInt) b.toInt r w')
theorem cq_end58 {w : MW} {y f s : Int32} {Q : Int32 → MW → Prop} (h : CI w) (hf : ¬ f.toInt = 0 → 0 ≤ y.toInt ∧ y.toInt ≤ 2) (s0 : 0 ≤ s.toInt) (s1 : s.toInt ≤ 4000) (hN : (f.toInt = 0 ∨ ¬ txO (CTx w s.toInt) s.toInt ∨ ¬ y.toInt = 1) → ∀ r w', sameC w w' → Q r w') (hY : ¬ f.toInt = 0 → txO (CTx w s.toInt) s.toInt → y.toInt = 1 → ∀ r w', ECr w (CTx w s.toInt) s.toInt r w' → Q r w') : q_Bh_end_58 y f s w Q := by
  have F1 : FR [(1, some 2)] w (sI w 1 2 s) := FR.I (FR.refl _ w) rfl
  have h1 : CI (sI w 1 2 s) := ci_fr (l := [(1, some 2)]) h F1 (wbd_1_2 h.1 s0 s1) rfl
  have en : (sI w 1 2 s).1 1 2 = s := sI_same _ _ _ _
  have ec : cf (sI w 1 2 s) = CTx w s.toInt := by
    funext p
    unfold cf CTx
    rw [sI_same, sI_oth _ _ _ _ _ _ (by decide)]
  refine Eq.mpr (q_Bh_end_58.eq_1 _ _ _ _ _) ?_
  generalize (sI w 1 2 s) = w1 at *
  refine ⟨fun c => hN (Or.inl c) _ w1 (sc_fr F1 rfl), fun c => it_x h1.1 (fun ok => ?_) (fun no => ⟨fun q => absurd i_0 q, fun _ => hN (Or.inr (Or.inl (by rw [ec, en] at no; exact no))) _ w1 (sc_fr F1 rfl)⟩)⟩
  rw [ec, en] at ok
  have yy := hf c
  have x := h1.2.2.2.2
  refine ⟨fun _ => ⟨fun c0 => ⟨fun c1 => ⟨x.2.2.2.2, ci_readN h1 (fun r3 w3 h3 F3 hp => ?_)⟩, fun c1 => ⟨x.2.2.2.1, rq_read h1.1 (fun r3 w3 r' rs' B3 F3 k q => ?_)⟩⟩, fun c0 => ⟨x.2.2.1, rc_read h1.1 (fun r3 w3 ls B3 F3 r4 k P3 => ?_)⟩⟩, fun q => absurd (show ¬ (1 : Int32).toInt = 0 by decide) q⟩
  · exact Eq.mpr (q_Bh_end_129.eq_1 _ _ _ _) ⟨fun d => ⟨fun _ => ⟨fun _ => ci_takeProgram h3 (hp d) (fun r w' h' hF => hN (Or.inr (Or.inr c1)) r w' (sc_fr (FR.tr (FR.tr (l := (1, some 2) :: (lrr ++ ltN)) (FR.tr (FR.refl _ w) F1 rfl) F3 rfl) hF rfl) rfl)), fun q => absurd c1 q⟩, fun q => absurd c0 q⟩, fun _ => hN (Or.inr (Or.inr c1)) _ w3 (sc_fr (FR.tr (l := (1, some 2) :: lrr) (FR.tr (FR.refl _ w) F1 rfl) F3 rfl) rfl)⟩
  · have y1 := Classical.not_not.mp c1
    rw [ec, en] at k
    have G3 : FR ((1, some 2) :: lrq) w w3 := FR.tr (FR.tr (FR.refl _ w) F1 rfl) F3 rfl
    have e47 : w3.2.2 47 3 = some 48 := ((F3 47 3 rfl).2.2).trans h1.2.1.2.2.2.2.2.2.2.2.2
    have e09 : w3.2.2 0 9 = some 99 := ((F3 0 9 rfl).2.2).trans x.2.2.2.1
    refine Eq.mpr (q_Bh_end_129.eq_1 _ _ _ _) ⟨fun d => ⟨fun _ => ⟨fun z => absurd y1 z, fun _ => ?_⟩, fun z => absurd c0 z⟩, fun d => ?_⟩
    · rcases q with ⟨er, _, R3⟩ | ⟨_, _⟩
      · have F4 : FR [(99, some 1), (47, some 3), (0, some 9)] w3 (sR (sR (sI w3 99 1 (w3.1 48 1)) 47 3 (some 99)) 0 9 (some 48)) := FR.R (FR.R (FR.I (FR.refl _ w3) rfl) rfl) rfl
        refine Eq.mpr (p_Bh_takeRows.eq_1 _ _) ⟨e47, e09, e09, hY c ok y1 _ _ (Or.inl ⟨rs', by rw [er] at k; exact k, R3.1, roc_fr R3 F4 rfl, ?_, ?_⟩)⟩
        · show (sI w3 99 1 (w3.1 48 1)).1 99 1 = w.1 48 1
          rw [sI_same]
          exact (G3 48 1 rfl).1
        · have g : FR [(0, some 9)] (sR (sI w3 99 1 (w3.1 48 1)) 47 3 (some 99)) (sR (sR (sI w3 99 1 (w3.1 48 1)) 47 3 (some 99)) 0 9 (some 48)) := FR.R (FR.refl _ _) rfl
          rw [(g 47 3 rfl).2.2]
          exact sRs _ _ _ _
      · omega
    · rcases q with ⟨_, _, _⟩ | ⟨r0, e3⟩
      · omega
      · obtain ⟨kk, hk⟩ := k
        have en := rdq_nil _ _ _ _ _ hk r0
        rw [en] at hk
        exact hY c ok y1 _ _ (Or.inr ⟨r', r3, r0, ⟨kk, hk⟩, e3, rfl, sc_fr G3 rfl⟩)
  · have y0 := Classical.not_not.mp c0
    have k2 := k
    obtain ⟨kk, hk⟩ := k2
    have S3 : FR ((1, some 2) :: lrc9) w w3 := FR.tr (l := (1, some 2) :: lrc9) (FR.tr (FR.refl _ w) F1 rfl) F3 rfl
    have T3 := sc_fr S3 rfl
    refine Eq.mpr (q_Bh_end_129.eq_1 _ _ _ _) ⟨fun d => ⟨fun q => absurd y0 q, fun _ => ct_plant B3 (((F3 7 0 rfl).2.2).trans h1.2.1.2.2.2.2.2.2.2.2.1) (((F3 0 8 rfl).2.2).trans x.2.2.1) (P3 d) (plr_gl kk 0 [] _ _ hk gl_nil) (fun r w' B' F' er Z W => hN (Or.inr (Or.inr (by omega))) r w' ?_)⟩, fun d => hN (Or.inr (Or.inr (by omega))) _ w3 T3⟩
    have T4 := sc_fr F' rfl
    exact ⟨fun k j a b => (T4.1 k j a b).trans (T3.1 k j a b), T4.2.trans T3.2⟩
theorem cq_end {w : MW} {a b : Int32} {Q : Int32 → MW → Prop} (h : CI w) (hQ : ∀ r w', ECq w a b r w' → Q r w') : p_Bh_end w a b Q := by
  have F0 : FR [(1, some 1)] w (sI w 1 1 0) := FR.I (FR.refl _ w) rfl
  have h1 : CI (sI w 1 1 0) := ci_fr (l := [(1, some 1)]) h F0 (wbd_1_1 h.1 (by decide) (by decide)) rfl
  have eT : ∀ n, CTx (sI w 1 1 0) n = CTx w n := fun n => rfl
  have T0 := sc_fr F0 rfl
  have s0 : ∀ w', sameC (sI w 1 1 0) w' → sameC w w' := fun w' q => ⟨fun k j a b => (q.1 k j a b).trans (T0.1 k j a b), q.2.trans T0.2⟩
  have no : ¬ fitE (w.1 1 1).toInt a b → q_Bh_end_36 a b 0 w Q := fun nf => Eq.mpr (q_Bh_end_36.eq_1 _ _ _ _ _) ⟨fun _ => cq_end58 h1 (fun q => absurd i_0 q) (by decide) (by decide) (fun _ r w' q => hQ _ w' (Or.inl ⟨fun z => nf z.1.1, s0 w' q⟩)) (fun q => absurd i_0 q), fun q => absurd i_0 q⟩
  refine Eq.mpr (p_Bh_end.eq_1 _ _ _ _) ⟨fun c => no (fun z => ?_), fun a0 => ⟨fun c => no (fun z => ?_), fun a2 => ⟨fun c => no (fun z => ?_), fun b0 => ⟨fun c => no (fun z => ?_), fun b4 => ⟨fun c => no (fun z => ?_), fun bn => ?_⟩⟩⟩⟩⟩
  · have := z.1
    omega
  · have := z.2.1
    omega
  · have := z.2.2.1
    omega
  · have := z.2.2.2.1
    omega
  · have := z.2.2.2.2
    omega
  · have ft : fitE (w.1 1 1).toInt a b := ⟨by omega, by omega, by omega, by omega, by omega⟩
    refine Eq.mpr (q_Bh_end_36.eq_1 _ _ _ _ _) ⟨fun q => absurd q (by decide), fun _ => cq_end58 h1 (fun _ => ⟨by omega, by omega⟩) (by omega) (by omega) (fun q r w' st => ?_) (fun _ ok ya r w' q => ?_)⟩
    · rw [eT] at q
      refine hQ _ w' (Or.inl ⟨fun z => ?_, s0 w' st⟩)
      rcases q with q | q | q
      · exact absurd q (by decide)
      · exact q z.1.2
      · exact q z.2
    · rw [eT] at ok q
      refine hQ r w' (Or.inr ⟨⟨⟨ft, ok⟩, ya⟩, ?_⟩)
      rcases q with ⟨rs, k, e, R, e1, e2⟩ | ⟨v, x, v0, k, ex, er, st⟩
      · exact Or.inl ⟨rs, k, e, R, e1.trans (F0 48 1 rfl).1, e2⟩
      · exact Or.inr ⟨v, x, v0, k, ex, er, s0 w' st⟩
/-! pass on both sides -/
def psv (n v r a b s : Int) : Int32 := if r < 1 ∨ n < r then -1 else if a < 1 ∨ 999 < a ∨ b < 1 ∨ 999 < b ∨ a = b then -2 else if s < 1 ∨ 3600 < s then -3 else if v ≤ 0 then 0 else -4
theorem psv_1 {n v r a b s : Int} (h1 : r < 1 ∨ n < r) : psv n v r a b s = -1 := by
  unfold psv
  rw [if_pos h1]
theorem psv_2 {n v r a b s : Int} (h1 : ¬ (r < 1 ∨ n < r)) (h2 : a < 1 ∨ 999 < a ∨ b < 1 ∨ 999 < b ∨ a = b) : psv n v r a b s = -2 := by
  unfold psv
  rw [if_neg h1, if_pos h2]
theorem psv_3 {n v r a b s : Int} (h1 : ¬ (r < 1 ∨ n < r)) (h2 : ¬ (a < 1 ∨ 999 < a ∨ b < 1 ∨ 999 < b ∨ a = b)) (h3 : s < 1 ∨ 3600 < s) : psv n v r a b s = -3 := by
  unfold psv
  rw [if_neg h1, if_neg h2, if_pos h3]
theorem psv_0 {n v r a b s : Int} (h1 : ¬ (r < 1 ∨ n < r)) (h2 : ¬ (a < 1 ∨ 999 < a ∨ b < 1 ∨ 999 < b ∨ a = b)) (h3 : ¬ (s < 1 ∨ 3600 < s)) (h4 : v ≤ 0) : psv n v r a b s = 0 := by
  unfold psv
  rw [if_neg h1, if_neg h2, if_neg h3, if_pos h4]
theorem psv_4 {n v r a b s : Int} (h1 : ¬ (r < 1 ∨ n < r)) (h2 : ¬ (a < 1 ∨ 999 < a ∨ b < 1 ∨ 999 < b ∨ a = b)) (h3 : ¬ (s < 1 ∨ 3600 < s)) (h4 : ¬ v ≤ 0) : psv n v r a b s = -4 := by
  unfold psv
  rw [if_neg h1, if_neg h2, if_neg h3, if_neg h4]
theorem isp_x {w : MW} {x : Int32} {Q : Int32 → MW → Prop} (h1 : ¬ (x.toInt < 1 ∨ 999 < x.toInt) → Q 1 w) (h0 : (x.toInt < 1 ∨ 999 < x.toInt) → Q 0 w) : p_Bh_isPerson w x Q :=
  Eq.mpr (p_Bh_isPerson.eq_1 _ _ _) ⟨fun d => h0 (Or.inl d), fun d => ⟨fun d2 => h0 (Or.inr d2), fun d2 => h1 (by omega)⟩⟩
/-- what pass does; k the cell of the passes -/
def PsE (k : Nat) (n : Int) (w : MW) (r a b s : Int32) (x : Int32) (w' : MW) : Prop := x = psv n (w.1 k (r - (1 : Int32)).toInt.toNat).toInt r.toInt a.toInt b.toInt s.toInt ∧ ((x = 0 ∧ (1 ≤ r.toInt ∧ r.toInt ≤ n) ∧ (1 ≤ s.toInt ∧ s.toInt ≤ 3600) ∧ w' = sI w k (r - (1 : Int32)).toInt.toNat s) ∨ (¬ x = 0 ∧ w' = w))
theorem cs_pass {w : MW} {r a b s : Int32} {Q : Int32 → MW → Prop} (h4 : w.2.2 47 3 = some 48) (n4 : (w.1 48 0).toInt ≤ 40) (hQ : ∀ x w', PsE 51 (w.1 48 0).toInt w r a b s x w' → Q x w') : p_Bh_pass w r a b s Q := by
  have e1 : 1 ≤ r.toInt → (r - (1 : Int32)).toInt = r.toInt - 1 := fun c => by
    have := ti_hi r
    exact ti_sub2 (Eq.refl r.toInt) i_1 (by omega) (by omega)
  have z1 : (r.toInt < 1 ∨ (w.1 48 0).toInt < r.toInt) → Q (-1) w := fun c => hQ _ _ ⟨(psv_1 c).symm, Or.inr ⟨by decide, rfl⟩⟩
  refine Eq.mpr (p_Bh_pass.eq_1 _ _ _ _ _ _) ⟨h4, Eq.mpr (p_Ro_has.eq_1 _ _ _) ⟨fun c => ⟨fun z => absurd i_0 z, fun _ => z1 (Or.inl c)⟩, fun c => ⟨fun c2 => ⟨fun z => absurd i_0 z, fun _ => z1 (Or.inr c2)⟩, fun c2 => ⟨fun _ => ?_, fun z => absurd i1n z⟩⟩⟩⟩
  have h1 : ¬ (r.toInt < 1 ∨ (w.1 48 0).toInt < r.toInt) := by omega
  have z2 : (a.toInt < 1 ∨ 999 < a.toInt ∨ b.toInt < 1 ∨ 999 < b.toInt ∨ a.toInt = b.toInt) → Q (-2) w := fun c => hQ _ _ ⟨(psv_2 h1 c).symm, Or.inr ⟨by decide, rfl⟩⟩
  refine isp_x (fun d => ⟨fun z => absurd z i1n, fun _ => isp_x (fun d2 => ⟨fun z => absurd z i1n, fun _ => ⟨fun d3 => ?_, fun d3 => z2 (by omega)⟩⟩) (fun d2 => ⟨fun _ => z2 (by omega), fun z => absurd i_0 z⟩)⟩) (fun d => ⟨fun _ => z2 (by omega), fun z => absurd i_0 z⟩)
  have h2 : ¬ (a.toInt < 1 ∨ 999 < a.toInt ∨ b.toInt < 1 ∨ 999 < b.toInt ∨ a.toInt = b.toInt) := by omega
  have z3 : (s.toInt < 1 ∨ 3600 < s.toInt) → Q (-3) w := fun c => hQ _ _ ⟨(psv_3 h1 h2 c).symm, Or.inr ⟨by decide, rfl⟩⟩
  refine ⟨fun c3 => z3 (Or.inl c3), fun c3 => ⟨fun c4 => ?_, fun c4 => z3 (Or.inr (by omega))⟩⟩
  have ee := e1 (by omega)
  have bb : 0 ≤ (r - (1 : Int32)).toInt ∧ (r - (1 : Int32)).toInt < 40 := by omega
  exact ⟨h4, bb, fun c5 => ⟨h4, bb, hQ _ _ ⟨(psv_0 h1 h2 (by omega) c5).symm, Or.inl ⟨rfl, by omega, by omega, rfl⟩⟩⟩, fun c5 => hQ _ _ ⟨(psv_4 h1 h2 (by omega) c5).symm, Or.inr ⟨by decide, rfl⟩⟩⟩
theorem ms_pass {w : MW} {r a b s : Int32} {Q : Int32 → MW → Prop} (n4 : (w.1 147 20).toInt ≤ 40) (hQ : ∀ x w', PsE 162 (w.1 147 20).toInt w r a b s x w' → Q x w') : p_Mo_pass w r a b s Q := by
  have e1 : 1 ≤ r.toInt → (r - (1 : Int32)).toInt = r.toInt - 1 := fun c => by
    have := ti_hi r
    exact ti_sub2 (Eq.refl r.toInt) i_1 (by omega) (by omega)
  have z1 : (r.toInt < 1 ∨ (w.1 147 20).toInt < r.toInt) → Q (-1) w := fun c => hQ _ _ ⟨(psv_1 c).symm, Or.inr ⟨by decide, rfl⟩⟩
  refine Eq.mpr (p_Mo_pass.eq_1 _ _ _ _ _ _) (Eq.mpr (p_Mr_pass.eq_1 _ _ _ _ _ _) (Eq.mpr (p_Mr_isRow.eq_1 _ _ _) ⟨fun c => ⟨fun z => absurd i_0 z, fun _ => z1 (Or.inl c)⟩, fun c => ⟨fun c2 => ⟨fun z => absurd i_0 z, fun _ => z1 (Or.inr c2)⟩, fun c2 => ⟨fun _ => ?_, fun z => absurd i1n z⟩⟩⟩))
  have h1 : ¬ (r.toInt < 1 ∨ (w.1 147 20).toInt < r.toInt) := by omega
  have z2 : (a.toInt < 1 ∨ 999 < a.toInt ∨ b.toInt < 1 ∨ 999 < b.toInt ∨ a.toInt = b.toInt) → Q (-2) w := fun c => hQ _ _ ⟨(psv_2 h1 c).symm, Or.inr ⟨by decide, rfl⟩⟩
  refine ⟨fun d => z2 (by omega), fun d => ⟨fun d1 => z2 (by omega), fun d1 => ⟨fun d2 => z2 (by omega), fun d2 => ⟨fun d3 => z2 (by omega), fun d3 => ⟨fun d4 => ?_, fun d4 => z2 (by omega)⟩⟩⟩⟩⟩
  have h2 : ¬ (a.toInt < 1 ∨ 999 < a.toInt ∨ b.toInt < 1 ∨ 999 < b.toInt ∨ a.toInt = b.toInt) := by omega
  have z3 : (s.toInt < 1 ∨ 3600 < s.toInt) → Q (-3) w := fun c => hQ _ _ ⟨(psv_3 h1 h2 c).symm, Or.inr ⟨by decide, rfl⟩⟩
  refine ⟨fun c3 => z3 (Or.inl c3), fun c3 => ⟨fun c4 => ?_, fun c4 => z3 (Or.inr (by omega))⟩⟩
  have ee := e1 (by omega)
  have bb : 0 ≤ (r - (1 : Int32)).toInt ∧ (r - (1 : Int32)).toInt < 40 := by omega
  exact ⟨bb, fun c5 => ⟨bb, hQ _ _ ⟨(psv_0 h1 h2 (by omega) c5).symm, Or.inl ⟨rfl, by omega, by omega, rfl⟩⟩⟩, fun c5 => hQ _ _ ⟨(psv_4 h1 h2 (by omega) c5).symm, Or.inr ⟨by decide, rfl⟩⟩⟩
