/-! and, or: the reference -/
theorem sp3_t {f : Int → Int} {n : Int} {k o : Nat} {c : List Int} {t i : Nat} {r1 r : Bool × List Int × Nat × Nat} (q : wq f n i (ltr 11 3) = true) (h : SP f n k 0 o c t (i + 1) r1) (h1 : r1.1 = true) (h2 : SP f n k 3 o (r1.2.1 ++ [17]) r1.2.2.1 r1.2.2.2 r) : SP f n (k + 1) 3 o c t i r := by
  rw [SP3, if_pos q]
  exact ⟨r1, h, by rw [if_pos h1]; exact h2⟩
theorem sp3_f {f : Int → Int} {n : Int} {k o : Nat} {c : List Int} {t i : Nat} {r1 : Bool × List Int × Nat × Nat} (q : wq f n i (ltr 11 3) = true) (h : SP f n k 0 o c t (i + 1) r1) (h1 : r1.1 = false) : SP f n (k + 1) 3 o c t i r1 := by
  rw [SP3, if_pos q]
  exact ⟨r1, h, by rw [if_neg (nt h1)]⟩
theorem sp3_n {f : Int → Int} {n : Int} {o : Nat} {c : List Int} {t i : Nat} (q : wq f n i (ltr 11 3) = false) : SP f n 1 3 o c t i (true, c, t, i) := by
  rw [SP3, if_neg (nt q)]
theorem mv_and0 {ra ro rp : MW → (Int32 → MW → Prop) → Prop} {E Q : Int32 → MW → Prop} {x : Int32} {w : MW} (hx : x.toInt < 0) (hE : E x w) (m : Nat) (hm : 0 < m) : q_Mr_and_5 ra ro rp E Q m x w := by
  cases m with
  | zero => omega
  | succ m =>
    rw [q_Mr_and_5.eq_2]
    exact ⟨fun _ => hE, fun z => absurd hx z⟩
theorem mv_and {ra ro rp : MW → (Int32 → MW → Prop) → Prop} {d : Nat} (hP : PMr 0 rp 1 d) {w0 : MW} {f : Int → Int} {n : Int} {W : Nat} {H : Int} {N0 o i0 : Nat} {c : List Int} {E Q : Int32 → MW → Prop} (hT : TXW f n W) (h01 : H = 0 ∨ H = 1) (o2 : o ≤ 20) (hd : 3 * (20 - o) + 1 ≤ d) (hH : (w0.1 147 12).toInt = H) (m : Nat) : ∀ (x : Int32) (w : MW) (l : List Int) (kk N t i : Nat), ES w f n W H N o t i → FR lmr w0 w → N0 ≤ N → N + lwn f n i0 ≤ N0 + lwn f n i → (∀ (p j : Nat), (p = 151 ∨ p = 152 ∨ p = 153) → ((j : Int) < 3000 * (1 - H) + (N0 : Int) ∨ 3000 * (1 - H) + (N : Int) ≤ (j : Int)) → w.1 p j = w0.1 p j) → TRe w (3000 * (1 - H) + (N0 : Int)) kk x.toInt l → x.toInt < 3000 * (1 - H) + (N : Int) → t ≤ 32 → N ≤ lwn f n i → (∀ res r w', (∃ k, SP f n k 3 o (c ++ l) t i res) → OU w0 f n W H N0 o c i0 res r w' → E r w') → W + 1 - i < m → q_Mr_and_5 ra ro rp E Q m x w := by
  induction m with
  | zero => intros; omega
  | succ m ih =>
    intro x w l kk N t i hS hF hN0 hacc hK tr xl t2 hN hE hm
    have x0 := tr_lo tr
    have W4 := hS.1.2.1.2.1
    have mx := fun j => lw_max (f := f) hT.1 hT.2.1 j
    rw [q_Mr_and_5.eq_2]
    refine ⟨fun z => absurd z (by omega), fun _ => mis3 hT hS.1 (A := 97) (B := 110) (C := 100) (by decide) (by decide) (by decide) (fun q => ⟨fun z => absurd z i1n, fun _ => ?_⟩) (fun q => ⟨fun _ => ?_, fun z => absurd i_0 z⟩)⟩
    · have wd := (wq_3.mp q).1
      have iW := lt_W hT (show 0 < wnd f n i - wat f n i by omega)
      have lwi := lw_l (f := f) (n := n) (i := i) (by omega)
      have q' : wq f n i (ltr 11 3) = true := by rw [ltw_11]; exact q
      have s5 := ti_add2 hS.1.2.2.1 i_1 (by omega) (by omega)
      have F1 : FR lmr w (sI w 147 5 ((w.1 147 5) + (1 : Int32))) := FR.I (FR.refl _ w) rfl
      have r5 : ((sI w 147 5 ((w.1 147 5) + (1 : Int32))).1 147 5).toInt = ((i + 1 : Nat) : Int) := by
        rw [sI_same, s5]
        omega
      have r6 : ((sI w 147 5 ((w.1 147 5) + (1 : Int32))).1 147 6).toInt = (o : Int) := by
        rw [sI_ne _ _ _ _ _ (by decide)]
        exact hS.2.2.2.1
      have r7 : ((sI w 147 5 ((w.1 147 5) + (1 : Int32))).1 147 7).toInt = (t : Int) := by
        rw [sI_ne _ _ _ _ _ (by decide)]
        exact hS.2.2.2.2
      have r11 : ((sI w 147 5 ((w.1 147 5) + (1 : Int32))).1 147 11).toInt = (N : Int) := by
        rw [sI_ne _ _ _ _ _ (by decide)]
        exact hS.2.2.1
      have r12 : ((sI w 147 5 ((w.1 147 5) + (1 : Int32))).1 147 12).toInt = H := by
        rw [sI_ne _ _ _ _ _ (by decide)]
        exact hS.2.1
      have ky : ∀ (p j : Nat), (p = 151 ∨ p = 152 ∨ p = 153) → (sI w 147 5 ((w.1 147 5) + (1 : Int32))).1 p j = w.1 p j := fun p j hp => by
        rw [sI_oth _ _ _ _ _ _ (by omega)]
      generalize (sI w 147 5 ((w.1 147 5) + (1 : Int32))) = w1 at *
      refine hP w1 f n W H N o t (i + 1) (c ++ l) _ hT h01 ⟨ms_fr hS.1 F1 rfl r5 (by omega), r12, r11, r6, r7⟩ o2 t2 (by omega) hd (fun res r w5 hk ou => ?_)
      obtain ⟨k, hk⟩ := hk
      obtain ⟨m5, F5, N5, e5, n5, l5, k5, ok, bad⟩ := ou
      have F05 : FR lmr w0 w5 := FR.tr (FR.tr hF F1 rfl) F5 rfl
      have K15 : ∀ (p j : Nat), (p = 151 ∨ p = 152 ∨ p = 153) → ((j : Int) < 3000 * (1 - H) + (N : Int) ∨ 3000 * (1 - H) + (N5 : Int) ≤ (j : Int)) → w5.1 p j = w.1 p j := fun p j hp hj => (k5 p j hp hj).trans (ky p j hp)
      have K05 : ∀ (p j : Nat), (p = 151 ∨ p = 152 ∨ p = 153) → ((j : Int) < 3000 * (1 - H) + (N0 : Int) ∨ 3000 * (1 - H) + (N5 : Int) ≤ (j : Int)) → w5.1 p j = w0.1 p j := fun p j hp hj => (K15 p j hp (by omega)).trans (hK p j hp (by omega))
      have mr := mx res.2.2.2
      have iR : res.2.2.2 ≤ W := m5.2.2.2
      have up : i < res.2.2.2 := by
        by_cases y : res.2.2.2 ≤ i
        · have := lw_le (f := f) (n := n) y
          omega
        · omega
      cases hb : res.1 with
      | false =>
        have rn := bad hb
        exact ⟨fun z => absurd rn (by omega), fun _ => mv_and0 (by decide) (hE res _ _ ⟨_, sp3_f q' hk hb⟩ (ou_no m5 F05 e5 (by omega) (by omega) K05 (by decide) res hb rfl)) m (by omega)⟩
      | true =>
        obtain ⟨o5, t5, tb, l2, k2, el, tr2, rl⟩ := ok hb
        have r0 := tr_lo tr2
        refine ⟨fun _ => ?_, fun z => absurd (show 0 ≤ r.toInt by omega) z⟩
        have v12 : (w5.1 147 12).toInt = H := by rw [(F05 147 12 rfl).1]; exact hH
        refine mnd v12 h01 e5 (by omega) (fun x7 w7 nd => ?_)
        obtain ⟨ex, e7, F7, K7, y1, y2, y3⟩ := nd
        have eL : res.2.1 ++ [17] = c ++ (l ++ l2 ++ [17]) := by rw [el, List.append_assoc, List.append_assoc, List.append_assoc]
        refine ih x7 w7 (l ++ l2 ++ [17]) (kk + k2 + 1) (N5 + 1) res.2.2.1 res.2.2.2 ⟨ms_fr m5 F7 rfl (by rw [(F7 147 5 rfl).1]; exact m5.2.2.1) iR, by rw [(F7 147 12 rfl).1]; exact v12, e7, by rw [(F7 147 6 rfl).1]; exact o5, by rw [(F7 147 7 rfl).1]; exact t5⟩ (FR.tr F05 F7 rfl) (by omega) (by omega) (fun p j hp hj => (K7 p j hp (by omega)).trans (K05 p j hp (by omega))) ?_ (by omega) tb (by omega) (fun res' r' w' hk' ou' => ?_) (by omega)
        · rw [TRe_u, y1, y2, y3]
          refine ⟨by omega, Or.inr (Or.inr ⟨Or.inl b17, by omega, by omega, l, l2, tr_le (tr_fr _ _ _ tr (fun p j hp j0 j1 => (K7 p j hp (by omega)).trans (K15 p j hp (by omega))) (by omega)) (by omega), tr_le (tr_fr _ _ _ (tr_low (show 3000 * (1 - H) + (N0 : Int) ≤ 3000 * (1 - H) + (N : Int) by omega) _ _ _ tr2) (fun p j hp j0 j1 => K7 p j hp (by omega)) (by omega)) (by omega), by rw [b17]⟩)⟩
        · obtain ⟨k', hk'⟩ := hk'
          rw [← eL] at hk'
          exact hE res' r' w' ⟨k + k' + 1, sp3_t q' (sp_le hk (by omega)) hb (sp_le hk' (by omega))⟩ ou'
    · exact hE (true, c ++ l, t, i) x w ⟨1, sp3_n (by rw [ltw_11]; exact q)⟩ ⟨hS.1, hF, N, hS.2.2.1, hN0, hacc, hK, fun _ => ⟨hS.2.2.2.1, hS.2.2.2.2, t2, l, kk, rfl, tr, xl⟩, fun z => absurd (show true = false from z) (by decide)⟩
theorem sp1_t {f : Int → Int} {n : Int} {k o : Nat} {c : List Int} {t i : Nat} {r1 r : Bool × List Int × Nat × Nat} (h : SP f n k 0 o c t i r1) (h1 : r1.1 = true) (h2 : SP f n k 3 o r1.2.1 r1.2.2.1 r1.2.2.2 r) : SP f n (k + 1) 1 o c t i r := by
  rw [SP1]
  exact ⟨r1, h, by rw [if_pos h1]; exact h2⟩
theorem sp1_f {f : Int → Int} {n : Int} {k o : Nat} {c : List Int} {t i : Nat} {r1 : Bool × List Int × Nat × Nat} (h : SP f n k 0 o c t i r1) (h1 : r1.1 = false) : SP f n (k + 1) 1 o c t i r1 := by
  rw [SP1]
  exact ⟨r1, h, by rw [if_neg (nt h1)]⟩
theorem mp_and {ra ro rp : MW → (Int32 → MW → Prop) → Prop} {d : Nat} (hP : PMr 0 rp 1 d) : PMr 1 (pb_Mr_and ra ro rp) (1 + 1) (d + 1) := by
  intro w f n W H N o t i c Q hT h01 hS o2 t2 hN hd hQ
  refine Eq.mpr (pb_Mr_and.eq_1 _ _ _ _ _) (hP w f n W H N o t i c _ hT h01 hS o2 t2 hN (by omega) (fun res r w5 hk ou => ?_))
  obtain ⟨k, hk⟩ := hk
  have W4 := hS.1.2.1.2.1
  cases hb : res.1 with
  | false => exact mv_and0 (ou.2.2.elim (fun N' z => z.2.2.2.2.2 hb)) (hQ res _ _ ⟨_, sp1_f hk hb⟩ ou) FU (fu_lt (by decide))
  | true =>
    obtain ⟨m5, F5, N5, e5, n5, l5, k5, ok, bad⟩ := ou
    obtain ⟨o5, t5, tb, l2, k2, el, tr2, rl⟩ := ok hb
    have v12 : (w5.1 147 12).toInt = H := by rw [(F5 147 12 rfl).1]; exact hS.2.1
    refine mv_and (c := c) hP hT h01 o2 (by omega) hS.2.1 FU r w5 l2 k2 N5 res.2.2.1 res.2.2.2 ⟨m5, v12, e5, o5, t5⟩ F5 n5 l5 k5 tr2 rl tb (by omega) (fun res' r' w' hk' ou' => ?_) (Nat.lt_of_le_of_lt (show _ ≤ 4001 by omega) (fu_lt (by decide)))
    obtain ⟨k', hk'⟩ := hk'
    rw [← el] at hk'
    exact hQ res' r' w' ⟨k + k' + 1, sp1_t (sp_le hk (by omega)) hb (sp_le hk' (by omega))⟩ ou'

theorem sp4_t {f : Int → Int} {n : Int} {k o : Nat} {c : List Int} {t i : Nat} {r1 r : Bool × List Int × Nat × Nat} (q : wq f n i (ltr 12 2) = true) (h : SP f n k 1 o c t (i + 1) r1) (h1 : r1.1 = true) (h2 : SP f n k 4 o (r1.2.1 ++ [18]) r1.2.2.1 r1.2.2.2 r) : SP f n (k + 1) 4 o c t i r := by
  rw [SP4, if_pos q]
  exact ⟨r1, h, by rw [if_pos h1]; exact h2⟩
theorem sp4_f {f : Int → Int} {n : Int} {k o : Nat} {c : List Int} {t i : Nat} {r1 : Bool × List Int × Nat × Nat} (q : wq f n i (ltr 12 2) = true) (h : SP f n k 1 o c t (i + 1) r1) (h1 : r1.1 = false) : SP f n (k + 1) 4 o c t i r1 := by
  rw [SP4, if_pos q]
  exact ⟨r1, h, by rw [if_neg (nt h1)]⟩
theorem sp4_n {f : Int → Int} {n : Int} {o : Nat} {c : List Int} {t i : Nat} (q : wq f n i (ltr 12 2) = false) : SP f n 1 4 o c t i (true, c, t, i) := by
  rw [SP4, if_neg (nt q)]
theorem mv_or0 {ra ro rp : MW → (Int32 → MW → Prop) → Prop} {E Q : Int32 → MW → Prop} {x : Int32} {w : MW} (hx : x.toInt < 0) (hE : E x w) (m : Nat) (hm : 0 < m) : q_Mr_or_5 ra ro rp E Q m x w := by
  cases m with
  | zero => omega
  | succ m =>
    rw [q_Mr_or_5.eq_2]
    exact ⟨fun _ => hE, fun z => absurd hx z⟩
theorem mv_or {ra ro rp : MW → (Int32 → MW → Prop) → Prop} {d : Nat} (hP : PMr 1 ra 2 d) {w0 : MW} {f : Int → Int} {n : Int} {W : Nat} {H : Int} {N0 o i0 : Nat} {c : List Int} {E Q : Int32 → MW → Prop} (hT : TXW f n W) (h01 : H = 0 ∨ H = 1) (o2 : o ≤ 20) (hd : 3 * (20 - o) + 2 ≤ d) (hH : (w0.1 147 12).toInt = H) (m : Nat) : ∀ (x : Int32) (w : MW) (l : List Int) (kk N t i : Nat), ES w f n W H N o t i → FR lmr w0 w → N0 ≤ N → N + lwn f n i0 ≤ N0 + lwn f n i → (∀ (p j : Nat), (p = 151 ∨ p = 152 ∨ p = 153) → ((j : Int) < 3000 * (1 - H) + (N0 : Int) ∨ 3000 * (1 - H) + (N : Int) ≤ (j : Int)) → w.1 p j = w0.1 p j) → TRe w (3000 * (1 - H) + (N0 : Int)) kk x.toInt l → x.toInt < 3000 * (1 - H) + (N : Int) → t ≤ 32 → N ≤ lwn f n i → (∀ res r w', (∃ k, SP f n k 4 o (c ++ l) t i res) → OU w0 f n W H N0 o c i0 res r w' → E r w') → W + 1 - i < m → q_Mr_or_5 ra ro rp E Q m x w := by
  induction m with
  | zero => intros; omega
  | succ m ih =>
    intro x w l kk N t i hS hF hN0 hacc hK tr xl t2 hN hE hm
    have x0 := tr_lo tr
    have W4 := hS.1.2.1.2.1
    have mx := fun j => lw_max (f := f) hT.1 hT.2.1 j
    rw [q_Mr_or_5.eq_2]
    refine ⟨fun z => absurd z (by omega), fun _ => mis2 hT hS.1 (A := 111) (B := 114) (by decide) (by decide) (fun q => ⟨fun z => absurd z i1n, fun _ => ?_⟩) (fun q => ⟨fun _ => ?_, fun z => absurd i_0 z⟩)⟩
    · have wd := (wq_2.mp q).1
      have iW := lt_W hT (show 0 < wnd f n i - wat f n i by omega)
      have lwi := lw_l (f := f) (n := n) (i := i) (by omega)
      have q' : wq f n i (ltr 12 2) = true := by rw [ltw_12]; exact q
      have s5 := ti_add2 hS.1.2.2.1 i_1 (by omega) (by omega)
      have F1 : FR lmr w (sI w 147 5 ((w.1 147 5) + (1 : Int32))) := FR.I (FR.refl _ w) rfl
      have r5 : ((sI w 147 5 ((w.1 147 5) + (1 : Int32))).1 147 5).toInt = ((i + 1 : Nat) : Int) := by
        rw [sI_same, s5]
        omega
      have r6 : ((sI w 147 5 ((w.1 147 5) + (1 : Int32))).1 147 6).toInt = (o : Int) := by
        rw [sI_ne _ _ _ _ _ (by decide)]
        exact hS.2.2.2.1
      have r7 : ((sI w 147 5 ((w.1 147 5) + (1 : Int32))).1 147 7).toInt = (t : Int) := by
        rw [sI_ne _ _ _ _ _ (by decide)]
        exact hS.2.2.2.2
      have r11 : ((sI w 147 5 ((w.1 147 5) + (1 : Int32))).1 147 11).toInt = (N : Int) := by
        rw [sI_ne _ _ _ _ _ (by decide)]
        exact hS.2.2.1
      have r12 : ((sI w 147 5 ((w.1 147 5) + (1 : Int32))).1 147 12).toInt = H := by
        rw [sI_ne _ _ _ _ _ (by decide)]
        exact hS.2.1
      have ky : ∀ (p j : Nat), (p = 151 ∨ p = 152 ∨ p = 153) → (sI w 147 5 ((w.1 147 5) + (1 : Int32))).1 p j = w.1 p j := fun p j hp => by
        rw [sI_oth _ _ _ _ _ _ (by omega)]
      generalize (sI w 147 5 ((w.1 147 5) + (1 : Int32))) = w1 at *
      refine hP w1 f n W H N o t (i + 1) (c ++ l) _ hT h01 ⟨ms_fr hS.1 F1 rfl r5 (by omega), r12, r11, r6, r7⟩ o2 t2 (by omega) hd (fun res r w5 hk ou => ?_)
      obtain ⟨k, hk⟩ := hk
      obtain ⟨m5, F5, N5, e5, n5, l5, k5, ok, bad⟩ := ou
      have F05 : FR lmr w0 w5 := FR.tr (FR.tr hF F1 rfl) F5 rfl
      have K15 : ∀ (p j : Nat), (p = 151 ∨ p = 152 ∨ p = 153) → ((j : Int) < 3000 * (1 - H) + (N : Int) ∨ 3000 * (1 - H) + (N5 : Int) ≤ (j : Int)) → w5.1 p j = w.1 p j := fun p j hp hj => (k5 p j hp hj).trans (ky p j hp)
      have K05 : ∀ (p j : Nat), (p = 151 ∨ p = 152 ∨ p = 153) → ((j : Int) < 3000 * (1 - H) + (N0 : Int) ∨ 3000 * (1 - H) + (N5 : Int) ≤ (j : Int)) → w5.1 p j = w0.1 p j := fun p j hp hj => (K15 p j hp (by omega)).trans (hK p j hp (by omega))
      have mr := mx res.2.2.2
      have iR : res.2.2.2 ≤ W := m5.2.2.2
      have up : i < res.2.2.2 := by
        by_cases y : res.2.2.2 ≤ i
        · have := lw_le (f := f) (n := n) y
          omega
        · omega
      cases hb : res.1 with
      | false =>
        have rn := bad hb
        exact ⟨fun z => absurd rn (by omega), fun _ => mv_or0 (by decide) (hE res _ _ ⟨_, sp4_f q' hk hb⟩ (ou_no m5 F05 e5 (by omega) (by omega) K05 (by decide) res hb rfl)) m (by omega)⟩
      | true =>
        obtain ⟨o5, t5, tb, l2, k2, el, tr2, rl⟩ := ok hb
        have r0 := tr_lo tr2
        refine ⟨fun _ => ?_, fun z => absurd (show 0 ≤ r.toInt by omega) z⟩
        have v12 : (w5.1 147 12).toInt = H := by rw [(F05 147 12 rfl).1]; exact hH
        refine mnd v12 h01 e5 (by omega) (fun x7 w7 nd => ?_)
        obtain ⟨ex, e7, F7, K7, y1, y2, y3⟩ := nd
        have eL : res.2.1 ++ [18] = c ++ (l ++ l2 ++ [18]) := by rw [el, List.append_assoc, List.append_assoc, List.append_assoc]
        refine ih x7 w7 (l ++ l2 ++ [18]) (kk + k2 + 1) (N5 + 1) res.2.2.1 res.2.2.2 ⟨ms_fr m5 F7 rfl (by rw [(F7 147 5 rfl).1]; exact m5.2.2.1) iR, by rw [(F7 147 12 rfl).1]; exact v12, e7, by rw [(F7 147 6 rfl).1]; exact o5, by rw [(F7 147 7 rfl).1]; exact t5⟩ (FR.tr F05 F7 rfl) (by omega) (by omega) (fun p j hp hj => (K7 p j hp (by omega)).trans (K05 p j hp (by omega))) ?_ (by omega) tb (by omega) (fun res' r' w' hk' ou' => ?_) (by omega)
        · rw [TRe_u, y1, y2, y3]
          refine ⟨by omega, Or.inr (Or.inr ⟨Or.inr b18, by omega, by omega, l, l2, tr_le (tr_fr _ _ _ tr (fun p j hp j0 j1 => (K7 p j hp (by omega)).trans (K15 p j hp (by omega))) (by omega)) (by omega), tr_le (tr_fr _ _ _ (tr_low (show 3000 * (1 - H) + (N0 : Int) ≤ 3000 * (1 - H) + (N : Int) by omega) _ _ _ tr2) (fun p j hp j0 j1 => K7 p j hp (by omega)) (by omega)) (by omega), by rw [b18]⟩)⟩
        · obtain ⟨k', hk'⟩ := hk'
          rw [← eL] at hk'
          exact hE res' r' w' ⟨k + k' + 1, sp4_t q' (sp_le hk (by omega)) hb (sp_le hk' (by omega))⟩ ou'
    · exact hE (true, c ++ l, t, i) x w ⟨1, sp4_n (by rw [ltw_12]; exact q)⟩ ⟨hS.1, hF, N, hS.2.2.1, hN0, hacc, hK, fun _ => ⟨hS.2.2.2.1, hS.2.2.2.2, t2, l, kk, rfl, tr, xl⟩, fun z => absurd (show true = false from z) (by decide)⟩
theorem sp2_t {f : Int → Int} {n : Int} {k o : Nat} {c : List Int} {t i : Nat} {r1 r : Bool × List Int × Nat × Nat} (h : SP f n k 1 o c t i r1) (h1 : r1.1 = true) (h2 : SP f n k 4 o r1.2.1 r1.2.2.1 r1.2.2.2 r) : SP f n (k + 1) 2 o c t i r := by
  rw [SP2]
  exact ⟨r1, h, by rw [if_pos h1]; exact h2⟩
theorem sp2_f {f : Int → Int} {n : Int} {k o : Nat} {c : List Int} {t i : Nat} {r1 : Bool × List Int × Nat × Nat} (h : SP f n k 1 o c t i r1) (h1 : r1.1 = false) : SP f n (k + 1) 2 o c t i r1 := by
  rw [SP2]
  exact ⟨r1, h, by rw [if_neg (nt h1)]⟩
theorem mp_or {ra ro rp : MW → (Int32 → MW → Prop) → Prop} {d : Nat} (hP : PMr 1 ra 2 d) : PMr 2 (pb_Mr_or ra ro rp) (2 + 1) (d + 1) := by
  intro w f n W H N o t i c Q hT h01 hS o2 t2 hN hd hQ
  refine Eq.mpr (pb_Mr_or.eq_1 _ _ _ _ _) (hP w f n W H N o t i c _ hT h01 hS o2 t2 hN (by omega) (fun res r w5 hk ou => ?_))
  obtain ⟨k, hk⟩ := hk
  have W4 := hS.1.2.1.2.1
  cases hb : res.1 with
  | false => exact mv_or0 (ou.2.2.elim (fun N' z => z.2.2.2.2.2 hb)) (hQ res _ _ ⟨_, sp2_f hk hb⟩ ou) FU (fu_lt (by decide))
  | true =>
    obtain ⟨m5, F5, N5, e5, n5, l5, k5, ok, bad⟩ := ou
    obtain ⟨o5, t5, tb, l2, k2, el, tr2, rl⟩ := ok hb
    have v12 : (w5.1 147 12).toInt = H := by rw [(F5 147 12 rfl).1]; exact hS.2.1
    refine mv_or (c := c) hP hT h01 o2 (by omega) hS.2.1 FU r w5 l2 k2 N5 res.2.2.1 res.2.2.2 ⟨m5, v12, e5, o5, t5⟩ F5 n5 l5 k5 tr2 rl tb (by omega) (fun res' r' w' hk' ou' => ?_) (Nat.lt_of_le_of_lt (show _ ≤ 4001 by omega) (fu_lt (by decide)))
    obtain ⟨k', hk'⟩ := hk'
    rw [← el] at hk'
    exact hQ res' r' w' ⟨k + k' + 1, sp2_t (sp_le hk (by omega)) hb (sp_le hk' (by omega))⟩ ou'

theorem mp_all (m : Nat) : PMr 1 (pn_Mr_and m) 2 m ∧ PMr 2 (pn_Mr_or m) 3 m ∧ PMr 0 (pn_Mr_part m) 1 m := by
  induction m with
  | zero => exact ⟨fun w f n W H N o t i c Q _ _ _ _ _ _ hd => absurd hd (by omega), fun w f n W H N o t i c Q _ _ _ _ _ _ hd => absurd hd (by omega), fun w f n W H N o t i c Q _ _ _ _ _ _ hd => absurd hd (by omega)⟩
  | succ m ih =>
    refine ⟨fun w f n W H N o t i c Q a1 a2 a3 a4 a5 a6 a7 a8 => ?_, fun w f n W H N o t i c Q a1 a2 a3 a4 a5 a6 a7 a8 => ?_, fun w f n W H N o t i c Q a1 a2 a3 a4 a5 a6 a7 a8 => ?_⟩
    · exact Eq.mpr (pe_Mr_and m w Q) (mp_and ih.2.2 w f n W H N o t i c Q a1 a2 a3 a4 a5 a6 a7 a8)
    · exact Eq.mpr (pe_Mr_or m w Q) (mp_or ih.1 w f n W H N o t i c Q a1 a2 a3 a4 a5 a6 a7 a8)
    · exact Eq.mpr (pe_Mr_part m w Q) (mp_part ih.2.1 ih.2.2 w f n W H N o t i c Q a1 a2 a3 a4 a5 a6 a7 a8)
/-- the reference reads a condition -/
theorem mor {w : MW} {f : Int → Int} {n : Int} {W : Nat} {H : Int} {N i : Nat} {Q : Int32 → MW → Prop} (hT : TXW f n W) (h01 : H = 0 ∨ H = 1) (hS : ES w f n W H N 0 0 i) (hN : N ≤ lwn f n i) (hQ : ∀ res r w', (∃ k, SP f n k 2 0 [] 0 i res) → OU w f n W H N 0 [] i res r w' → Q r w') : p_Mr_or w Q :=
  (mp_all 400).2.1 w f n W H N 0 0 i [] Q hT h01 hS (by decide) (by decide) hN (by decide) hQ
