/-! the reference reads a row -/
theorem rwT_j {f : Int → Int} {n : Int} {as c : List Int} {v : Int} {j : Nat} : j ≤ (rwT f n as c v j).2.2 := by
  unfold rwT
  by_cases a : wq f n j (ltr 14 7) = true
  · rw [if_pos a]
    by_cases b : wq f n (j + 1) (ltr 15 1) = true
    · rw [if_pos b]
      show j ≤ j + 2
      omega
    · rw [if_neg b]
      show j ≤ j + 1
      omega
  · rw [if_neg a]
    by_cases b : wq f n j (ltr 15 1) = true
    · rw [if_pos b]
      show j ≤ j + 1
      omega
    · rw [if_neg b]
      exact Nat.le_refl j
theorem tlS_j {f : Int → Int} {n : Int} {as c : List Int} {j : Nat} : j ≤ (tlS f n as c j).2.2 := by
  unfold tlS
  by_cases a : wq f n j (ltr 13 3) = true
  · rw [if_pos a]
    by_cases b : nbv f n (j + 1) 0 3600 < 0
    · rw [if_pos b]
      show j ≤ j + 1
      omega
    · rw [if_neg b]
      have := rwT_j (f := f) (n := n) (as := as) (c := c) (v := nbv f n (j + 1) 0 3600) (j := j + 2)
      omega
  · rw [if_neg a]
    exact rwT_j
def lrz : Pl := [(147, some 5), (147, some 6), (147, some 7), (147, some 11), (147, some 13), (151, none), (152, none), (153, none), (154, none), (155, none), (156, none), (157, none), (158, none), (159, none)]
theorem b_40 : ((40 : Int32)).toInt = 40 := by decide
theorem mrow {w : MW} {f : Int → Int} {n : Int} {W : Nat} {H : Int} {g : Nat} {rs : List Rw} {N i : Nat} {Q : Int32 → MW → Prop} (hT : TXW f n W) (h01 : H = 0 ∨ H = 1) (hg : (g : Int) = 1 - H) (h : GN w f n W H g rs N i) (L4 : rs.length < 40) (hN : N ≤ lwn f n i) (hb : wq f n i (ltr 6 3) = true) (hQ : ∀ b w' q, RowS f n i q → FR lrz w w' → KR (3000 * H) (3000 * H + 3000) (40 * H) (40 * H + 40) w w' → (q.1 = true → b.toInt = 1 ∧ ∃ N', GN w' f n W H g (rs ++ [q.2.1]) N' q.2.2 ∧ N' ≤ lwn f n q.2.2) → (q.1 = false → b.toInt = 0 ∧ (w'.1 147 5).toInt = (q.2.2 : Int) ∧ q.2.2 ≤ W) → Q b w') : p_Mr_readRow w Q := by
  have W4 := h.1.2.1.2.1
  have mx := fun j => lw_max (f := f) hT.1 hT.2.1 j
  have hb2 := hb
  rw [ltw_6] at hb2
  have wd := (wq_3.mp hb2).1
  have iW := lt_W hT (show 0 < wnd f n i - wat f n i by omega)
  have e1 := ti_sub2 i_1 h.2.1 (by omega) (by omega)
  have e2 := ti_mul2 b_40 e1 (by omega) (by omega)
  have e3 := ti_add2 e2 h.2.2.2.1 (by omega) (by omega)
  have hR : (((40 : Int32) * ((1 : Int32) - (w.1 147 12))) + (w.1 147 13)).toInt = ((40 * g + rs.length : Nat) : Int) := by rw [e3]; omega
  refine Eq.mpr (p_Mr_readRow.eq_1 _ _) ?_
  generalize ((40 : Int32) * ((1 : Int32) - (w.1 147 12))) + (w.1 147 13) = RI at *
  have R8 : 40 * g + rs.length < 80 := by omega
  have bR : 0 ≤ RI.toInt ∧ RI.toInt < 80 := by rw [hR]; omega
  have eR : RI.toInt.toNat = 40 * g + rs.length := by rw [hR]; omega
  rw [eR]
  have s5 := ti_add2 h.1.2.2.1 i_1 (by omega) (by omega)
  have F1 : FR [(147, some 5)] w (sI w 147 5 ((w.1 147 5) + (1 : Int32))) := FR.I (FR.refl _ w) rfl
  have r5 : ((sI w 147 5 ((w.1 147 5) + (1 : Int32))).1 147 5).toInt = ((i + 1 : Nat) : Int) := by
    rw [sI_same, s5]
    omega
  generalize (sI w 147 5 ((w.1 147 5) + (1 : Int32))) = w1 at *
  have K1 : ∀ n0 n1 r0 r1 : Int, KR n0 n1 r0 r1 w w1 := fun n0 n1 r0 r1 => KR.fr F1 rfl
  have m1 : MS w1 f n W (i + 1) := ms_fr h.1 F1 rfl r5 (by omega)
  refine rw29 (w0 := w1) hT hR R8 FU w1 [] (i + 1) 10 (acF f n 10 [] (i + 1)) m1 (FR.refl _ w1) (fun _ _ => rfl) (fun k a hk => by cases hk) (by decide) (by decide) rfl (fun as' i' w10 m10 F10 k10 A10 a8 ii ey => ?_) (fu_lt (by decide))
  have G10 : FR lrz w w10 := (FR.tr (FR.refl _ w) F1 rfl).tr F10 rfl
  have K2 : ∀ n0 n1 r0 r1 : Int, (r1 ≤ ((40 * g + rs.length : Nat) : Int) ∨ ((40 * g + rs.length : Nat) : Int) < r0) → KR n0 n1 r0 r1 w w10 := fun n0 n1 r0 r1 hr => by
    refine (K1 n0 n1 r0 r1).tr ⟨fun p j hp _ _ => ?_, fun p j hp _ _ => ?_, fun j a b => k10 j (by omega)⟩
    · rcases hp with rfl | rfl | rfl
      · exact (F10 151 j rfl).1
      · exact (F10 152 j rfl).1
      · exact (F10 153 j rfl).1
    · rcases hp with rfl | rfl | rfl | rfl
      · exact (F10 154 j rfl).1
      · exact (F10 155 j rfl).1
      · exact (F10 157 j rfl).1
      · exact (F10 158 j rfl).1
  have no : ¬ (¬ as' = [] ∧ wq f n i' (ltr 7 4) = true) → Q 0 w10 := fun z => by
    rw [if_neg z] at ey
    refine hQ 0 w10 (rwF i') ?_ G10 (K2 _ _ _ _ (by omega)) (fun y => absurd (show false = true from y) (by decide)) (fun _ => ⟨i_0, m10.2.2.1, m10.2.2.2⟩)
    unfold RowS
    rw [if_pos hb, ey, if_neg (fun y => absurd (show false = true from y) (by decide))]
  have tl : (nI as'.length).toInt = (as'.length : Int) := nI_toInt (by omega)
  refine ⟨fun z => no (fun y => y.1 (List.eq_nil_of_length_eq_zero (by rw [tl] at z; omega))), fun z => mis4 hT m10 (A := 119) (B := 104) (C := 101) (D := 110) (by decide) (by decide) (by decide) (by decide) (fun q => ⟨fun _ => ⟨bR, ?_⟩, fun y => absurd i1n y⟩) (fun q => ⟨fun y => absurd i_0 y, fun _ => no (fun y => absurd y.2 (by rw [ltw_7]; exact nt q))⟩)⟩
  have ne : ¬ as' = [] := fun y => z (by rw [tl, y]; rfl)
  have q' : wq f n i' (ltr 7 4) = true := by rw [ltw_7]; exact q
  rw [if_pos ⟨ne, q'⟩] at ey
  have wd2 := (wq_4.mp q).1
  have iW2 := lt_W hT (show 0 < wnd f n i' - wat f n i' by omega)
  have t5 := ti_add2 m10.2.2.1 i_1 (by omega) (by omega)
  have F3 : FR [(147, some 5), (147, some 6), (147, some 7), (155, none)] w10 (sI (sI (sI (sI w10 155 (40 * g + rs.length) (nI as'.length)) 147 5 ((w10.1 147 5) + (1 : Int32))) 147 6 0) 147 7 0) := FR.I (FR.I (FR.I (FR.I (FR.refl _ w10) rfl) rfl) rfl) rfl
  have u5 : ((sI (sI (sI (sI w10 155 (40 * g + rs.length) (nI as'.length)) 147 5 ((w10.1 147 5) + (1 : Int32))) 147 6 0) 147 7 0).1 147 5).toInt = ((i' + 1 : Nat) : Int) := by
    rw [sI_ne _ _ _ _ _ (by decide), sI_ne _ _ _ _ _ (by decide), sI_same, t5]
    omega
  have u6 : ((sI (sI (sI (sI w10 155 (40 * g + rs.length) (nI as'.length)) 147 5 ((w10.1 147 5) + (1 : Int32))) 147 6 0) 147 7 0).1 147 6).toInt = ((0 : Nat) : Int) := by
    rw [sI_ne _ _ _ _ _ (by decide), sI_same]
    exact i_0
  have u7 : ((sI (sI (sI (sI w10 155 (40 * g + rs.length) (nI as'.length)) 147 5 ((w10.1 147 5) + (1 : Int32))) 147 6 0) 147 7 0).1 147 7).toInt = ((0 : Nat) : Int) := by
    rw [sI_same]
    exact i_0
  have u55 : ((sI (sI (sI (sI w10 155 (40 * g + rs.length) (nI as'.length)) 147 5 ((w10.1 147 5) + (1 : Int32))) 147 6 0) 147 7 0).1 155 (40 * g + rs.length)).toInt = (as'.length : Int) := by
    rw [sI_oth _ _ _ _ _ _ (by decide), sI_oth _ _ _ _ _ _ (by decide), sI_oth _ _ _ _ _ _ (by decide), sI_same]
    exact tl
  have kq3 : KQ (40 * g + rs.length) w10 (sI (sI (sI (sI w10 155 (40 * g + rs.length) (nI as'.length)) 147 5 ((w10.1 147 5) + (1 : Int32))) 147 6 0) 147 7 0) := ((kq_R.tr kq_7).tr kq_7).tr kq_7
  generalize (sI (sI (sI (sI w10 155 (40 * g + rs.length) (nI as'.length)) 147 5 ((w10.1 147 5) + (1 : Int32))) 147 6 0) 147 7 0) = w13 at *
  have G13 : FR lrz w w13 := G10.tr F3 rfl
  have K3 : ∀ n0 n1 r0 r1 : Int, (r1 ≤ ((40 * g + rs.length : Nat) : Int) ∨ ((40 * g + rs.length : Nat) : Int) < r0) → KR n0 n1 r0 r1 w w13 := fun n0 n1 r0 r1 hr => by
    refine (K2 n0 n1 r0 r1 hr).tr ⟨fun p j hp _ _ => ?_, fun p j hp _ _ => kq3 p j hp (by omega), fun j a b => (F3 156 j rfl).1⟩
    rcases hp with rfl | rfl | rfl
    · exact (F3 151 j rfl).1
    · exact (F3 152 j rfl).1
    · exact (F3 153 j rfl).1
  have v12 : (w13.1 147 12).toInt = H := by rw [(G13 147 12 rfl).1]; exact h.2.1
  have F113 : FR [(147, some 5), (147, some 6), (147, some 7), (155, none), (156, none)] w w13 := ((FR.tr (FR.refl _ w) F1 rfl).tr F10 rfl).tr F3 rfl
  have v11 : (w13.1 147 11).toInt = (N : Int) := by rw [(F113 147 11 rfl).1]; exact h.2.2.1
  have lwi := lw_le (f := f) (n := n) (show i ≤ i' + 1 by omega)
  refine mor hT h01 ⟨ms_fr m10 F3 rfl u5 (by omega), v12, v11, u6, u7⟩ (by omega) (fun res r15 w15 hk ou => ⟨bR, bR, ?_⟩)
  obtain ⟨m5, F5, N5, e5, n5, l5, k5, ok, bad⟩ := ou
  have mr := mx res.2.2.2
  have G15 : FR lrz w w15 := G13.tr F5 rfl
  have K5 : ∀ n0 n1 r0 r1 : Int, (r1 ≤ ((40 * g + rs.length : Nat) : Int) ∨ ((40 * g + rs.length : Nat) : Int) < r0) → (n1 ≤ 3000 * (1 - H) + (N : Int) ∨ 3000 * (1 - H) + (N5 : Int) ≤ n0) → KR n0 n1 r0 r1 w w15 := fun n0 n1 r0 r1 hr hn => by
    refine (K3 n0 n1 r0 r1 hr).tr ⟨fun p j hp a b => k5 p j hp (by omega), fun p j hp _ _ => ?_, fun j a b => (F5 156 j rfl).1⟩
    rcases hp with rfl | rfl | rfl | rfl
    · exact (F5 154 j rfl).1
    · exact (F5 155 j rfl).1
    · exact (F5 157 j rfl).1
    · exact (F5 158 j rfl).1
  rw [sI_same]
  have row : ∀ q, q = (if res.1 = true then tlS f n as' res.2.1 res.2.2.2 else rwF res.2.2.2) → RowS f n i q := fun q eq => by
    unfold RowS
    rw [if_pos hb, ey, if_pos (by rfl)]
    exact ⟨res, hk, eq⟩
  cases hr : res.1 with
  | false =>
    have rn := bad hr
    refine ⟨fun y => absurd rn (by omega), fun _ => hQ 0 _ (rwF res.2.2.2) (row _ (by rw [if_neg (nt hr)])) (FR.I G15 rfl) ((K5 _ _ _ _ (by omega) (by omega)).tr (kq_kr (R := 40 * g + rs.length) kq_R (FR.I (FR.refl _ w15) rfl) (by omega))) (fun y => absurd (show false = true from y) (by decide)) (fun _ => ⟨i_0, ?_, m5.2.2.2⟩)⟩
    rw [sI_oth _ _ _ _ _ _ (by decide)]
    exact m5.2.2.1
  | true =>
    obtain ⟨o5, st5, tb, l, kk, el, tr, rl⟩ := ok hr
    have r0 := tr_lo tr
    refine ⟨fun _ => ⟨bR, bR, ?_⟩, fun y => absurd (show 0 ≤ r15.toInt by omega) y⟩
    have iR : res.2.2.2 ≤ W := m5.2.2.2
    have F6 : FR [(154, none), (157, none), (159, none)] w15 (sI (sI (sI w15 154 (40 * g + rs.length) r15) 159 (40 * g + rs.length) (w15.1 147 7)) 157 (40 * g + rs.length) 0) := FR.I (FR.I (FR.I (FR.refl _ w15) rfl) rfl) rfl
    have F6t : FR ltz w15 (sI (sI (sI w15 154 (40 * g + rs.length) r15) 159 (40 * g + rs.length) (w15.1 147 7)) 157 (40 * g + rs.length) 0) := FR.I (FR.I (FR.I (FR.refl _ w15) rfl) rfl) rfl
    have kq6 : KQ (40 * g + rs.length) w15 (sI (sI (sI w15 154 (40 * g + rs.length) r15) 159 (40 * g + rs.length) (w15.1 147 7)) 157 (40 * g + rs.length) 0) := (kq_R.tr kq_R).tr kq_R
    have x4 : (sI (sI (sI w15 154 (40 * g + rs.length) r15) 159 (40 * g + rs.length) (w15.1 147 7)) 157 (40 * g + rs.length) 0).1 154 (40 * g + rs.length) = r15 := by
      rw [sI_oth _ _ _ _ _ _ (by decide), sI_oth _ _ _ _ _ _ (by decide), sI_same]
    have x7 : ((sI (sI (sI w15 154 (40 * g + rs.length) r15) 159 (40 * g + rs.length) (w15.1 147 7)) 157 (40 * g + rs.length) 0).1 157 (40 * g + rs.length)).toInt = 0 := by
      rw [sI_same]
      exact i_0
    generalize (sI (sI (sI w15 154 (40 * g + rs.length) r15) 159 (40 * g + rs.length) (w15.1 147 7)) 157 (40 * g + rs.length) 0) = w16 at *
    have K6 : ∀ n0 n1 r0 r1 : Int, (r1 ≤ ((40 * g + rs.length : Nat) : Int) ∨ ((40 * g + rs.length : Nat) : Int) < r0) → (n1 ≤ 3000 * (1 - H) + (N : Int) ∨ 3000 * (1 - H) + (N5 : Int) ≤ n0) → KR n0 n1 r0 r1 w w16 := fun n0 n1 r0 r1 hr hn => (K5 n0 n1 r0 r1 hr hn).tr (kq_kr kq6 F6t (by omega))
    have G16 : FR lrz w w16 := G15.tr F6 rfl
    have h16 : GN w16 f n W H g rs N5 res.2.2.2 := by
      refine ⟨ms_fr m5 F6 rfl (by rw [(F6 147 5 rfl).1]; exact m5.2.2.1) iR, by rw [(G16 147 12 rfl).1]; exact h.2.1, by rw [(F6 147 11 rfl).1]; exact e5, ?_, fun r x hx => ?_⟩
      · rw [(F6 147 13 rfl).1, (F5 147 13 rfl).1, (F113 147 13 rfl).1]
        exact h.2.2.2.1
      · have := rs_lt hx
        exact rwm_k (h.2.2.2.2 r x hx) (K6 _ _ (40 * (g : Int)) (40 * (g : Int) + (rs.length : Int)) (by omega) (by omega)) (by omega) (by omega) n5
    have trn : TRe w16 (3000 * (g : Int)) kk r15.toInt l := tr_fr _ _ _ (tr_low (show 3000 * (g : Int) ≤ 3000 * (1 - H) + (N : Int) by omega) _ _ _ tr) (fun p j hp _ _ => by
      rcases hp with rfl | rfl | rfl
      · exact (F6 151 j rfl).1
      · exact (F6 152 j rfl).1
      · exact (F6 153 j rfl).1) (by omega)
    have x16 : RwP w16 g rs.length N5 as' res.2.1 0 := by
      refine ⟨by rw [(F6 155 _ rfl).1, (F5 155 _ rfl).1]; exact u55, fun k a hk => ?_, a8, ⟨kk, by rw [x4, el]; exact trn⟩, by rw [x4]; omega, x7⟩
      rw [(F6 156 _ rfl).1, (F5 156 _ rfl).1, (F3 156 _ rfl).1]
      exact A10 k a hk
    have lwj := lw_le (f := f) (n := n) (tlS_j (f := f) (n := n) (as := as') (c := res.2.1) (j := res.2.2.2))
    have T : MFr RI w16 Q := tfor hT (by omega) h16 x16 L4 hR (fun b' w' F' K' R' => hQ b' w' _ (row _ (by rw [if_pos hr])) (G16.tr F' rfl) ((K6 _ _ _ _ (by omega) (by omega)).tr (kq_kr K' F' (by omega))) (fun y => ⟨(R'.1 y).1, N5, (R'.1 y).2, by omega⟩) (fun y => R'.2 y))
    unfold MFr at T
    rw [eR] at T
    exact T
