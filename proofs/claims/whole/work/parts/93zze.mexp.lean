/-! the reference reads a condition: its tree in postorder is what SP tells -/
def lmr : Pl := [(147, some 5), (147, some 6), (147, some 7), (147, some 11), (151, none), (152, none), (153, none)]
theorem ms_fr {l : Pl} {w w' : MW} {f : Int → Int} {n : Int} {W i i' : Nat} (h : MS w f n W i) (hF : FR l w w') (ho : off l [(147, some 4), (148, none), (149, none), (150, none)] = true) (e : (w'.1 147 5).toInt = (i' : Int)) (hi : i' ≤ W) : MS w' f n W i' :=
  ⟨fun p hp => by rw [(hF 148 p (off_hit ho rfl)).1]; exact h.1 p hp, ⟨by rw [(hF 147 4 (off_hit ho rfl)).1]; exact h.2.1.1, h.2.1.2.1, fun j hj => by rw [(hF 149 j (off_hit ho rfl)).1, (hF 150 j (off_hit ho rfl)).1]; exact h.2.1.2.2 j hj⟩, e, hi⟩
def ES (w : MW) (f : Int → Int) (n : Int) (W : Nat) (H : Int) (N o t i : Nat) : Prop := MS w f n W i ∧ (w.1 147 12).toInt = H ∧ (w.1 147 11).toInt = (N : Int) ∧ (w.1 147 6).toInt = (o : Int) ∧ (w.1 147 7).toInt = (t : Int)
def OU (w : MW) (f : Int → Int) (n : Int) (W : Nat) (H : Int) (N o : Nat) (c : List Int) (i : Nat) (res : Bool × List Int × Nat × Nat) (r : Int32) (w' : MW) : Prop := MS w' f n W res.2.2.2 ∧ FR lmr w w' ∧ ∃ N' : Nat, (w'.1 147 11).toInt = (N' : Int) ∧ N ≤ N' ∧ N' + lwn f n i ≤ N + lwn f n res.2.2.2 ∧ (∀ (p j : Nat), (p = 151 ∨ p = 152 ∨ p = 153) → ((j : Int) < 3000 * (1 - H) + (N : Int) ∨ 3000 * (1 - H) + (N' : Int) ≤ (j : Int)) → w'.1 p j = w.1 p j) ∧ (res.1 = true → (w'.1 147 6).toInt = (o : Int) ∧ (w'.1 147 7).toInt = (res.2.2.1 : Int) ∧ res.2.2.1 ≤ 32 ∧ ∃ l k, res.2.1 = c ++ l ∧ TRe w' (3000 * (1 - H) + (N : Int)) k r.toInt l ∧ r.toInt < 3000 * (1 - H) + (N' : Int)) ∧ (res.1 = false → r.toInt < 0)
def PMr (md : Nat) (X : MW → (Int32 → MW → Prop) → Prop) (dn d : Nat) : Prop := ∀ (w : MW) (f : Int → Int) (n : Int) (W : Nat) (H : Int) (N o t i : Nat) (c : List Int) (Q : Int32 → MW → Prop), TXW f n W → (H = 0 ∨ H = 1) → ES w f n W H N o t i → o ≤ 20 → t ≤ 32 → N ≤ lwn f n i → 3 * (20 - o) + dn ≤ d → (∀ res r w', (∃ k, SP f n k md o c t i res) → OU w f n W H N o c i res r w' → Q r w') → X w Q
theorem nt {b : Bool} (h : b = false) : ¬ (b = true) := fun z => absurd (h.symm.trans z) (by decide)
theorem sp_not {f : Int → Int} {n : Int} {k o : Nat} {c : List Int} {t i : Nat} {r1 : Bool × List Int × Nat × Nat} (q : wq f n i (ltr 8 3) = true) (ho : ¬ o = 20) (h : SP f n k 0 (o + 1) c t (i + 1) r1) : SP f n (k + 1) 0 o c t i (if r1.1 = true then (true, r1.2.1 ++ [16], r1.2.2.1, r1.2.2.2) else r1) := by
  rw [SP0, if_pos q, if_neg ho]
  exact ⟨r1, h, rfl⟩
theorem sp_f1 {f : Int → Int} {n : Int} {o : Nat} {c : List Int} {t i : Nat} (q : wq f n i (ltr 8 3) = true) (ho : o = 20) : SP f n 1 0 o c t i (rsF i) := by
  rw [SP0, if_pos q, if_pos ho]
theorem sp_f2 {f : Int → Int} {n : Int} {o : Nat} {c : List Int} {t i : Nat} (q : wq f n i (ltr 8 3) = false) (q2 : wq f n i (ltr 9 1) = true) (ho : o = 20) : SP f n 1 0 o c t i (rsF i) := by
  rw [SP0, if_neg (nt q), if_pos q2, if_pos ho]
theorem sp_par {f : Int → Int} {n : Int} {k o : Nat} {c : List Int} {t i : Nat} {r1 : Bool × List Int × Nat × Nat} (q : wq f n i (ltr 8 3) = false) (q2 : wq f n i (ltr 9 1) = true) (ho : ¬ o = 20) (h : SP f n k 2 (o + 1) c t (i + 1) r1) : SP f n (k + 1) 0 o c t i (if r1.1 = true then (if wq f n r1.2.2.2 (ltr 10 1) = true then (true, r1.2.1, r1.2.2.1, r1.2.2.2 + 1) else rsF r1.2.2.2) else r1) := by
  rw [SP0, if_neg (nt q), if_pos q2, if_neg ho]
  exact ⟨r1, h, rfl⟩
theorem sp_con {f : Int → Int} {n : Int} {o : Nat} {c : List Int} {t i : Nat} (q : wq f n i (ltr 8 3) = false) (q2 : wq f n i (ltr 9 1) = false) : SP f n 1 0 o c t i (if cnw f n i < 0 ∨ t = 32 then rsF i else (true, c ++ [cnw f n i], t + 1, i + 1)) := by
  rw [SP0, if_neg (nt q), if_neg (nt q2)]
theorem cnw_b {f : Int → Int} {n : Int} {i : Nat} : cnw f n i ≤ 15 ∧ (¬ cnw f n i < 0 → 2 ≤ wnd f n i - wat f n i) := by
  unfold cnw
  by_cases q : f (wat f n i) = 99
  · rw [if_pos q]
    exact ⟨nbv_b (by decide), fun z => by have := nbv_p z; omega⟩
  · rw [if_neg q]
    exact ⟨by decide, fun z => absurd (by decide) z⟩
theorem tin {x y : Int32} {a : Int} (hx : x.toInt = a) (hy : y.toInt = 0) (h1 : -2147483648 ≤ a) (h2 : a ≤ 2147483647) : (x + y).toInt = a := by
  rw [ti_add2 hx hy (by omega) (by omega)]
  omega
/-- what a failed reading leaves -/
theorem ou_no {w w' : MW} {f : Int → Int} {n : Int} {W : Nat} {H : Int} {N o N' : Nat} {c : List Int} {i j : Nat} {r : Int32} (m : MS w' f n W j) (F : FR lmr w w') (e : (w'.1 147 11).toInt = (N' : Int)) (hn : N ≤ N') (hl : N' + lwn f n i ≤ N + lwn f n j) (hk : ∀ (p j : Nat), (p = 151 ∨ p = 152 ∨ p = 153) → ((j : Int) < 3000 * (1 - H) + (N : Int) ∨ 3000 * (1 - H) + (N' : Int) ≤ (j : Int)) → w'.1 p j = w.1 p j) (hr : r.toInt < 0) (res : Bool × List Int × Nat × Nat) (h1 : res.1 = false) (h2 : res.2.2.2 = j) : OU w f n W H N o c i res r w' := by
  subst h2
  exact ⟨m, F, N', e, hn, hl, hk, fun z => absurd (h1.symm.trans z) (by decide), fun _ => hr⟩
theorem mp_not {ra ro rp : MW → (Int32 → MW → Prop) → Prop} {d : Nat} (hP : PMr 0 rp 1 d) {w : MW} {f : Int → Int} {n : Int} {W : Nat} {H : Int} {N o t i : Nat} {c : List Int} {Q : Int32 → MW → Prop} (hT : TXW f n W) (h01 : H = 0 ∨ H = 1) (hS : ES w f n W H N o t i) (o2 : o ≤ 20) (t2 : t ≤ 32) (hN : N ≤ lwn f n i) (hd : 3 * (20 - o) + 1 ≤ d + 1) (q : wq f n i (ltr 8 3) = true) (hQ : ∀ res r w', (∃ k, SP f n k 0 o c t i res) → OU w f n W H N o c i res r w' → Q r w') : q_Mr_part_29 ra ro rp 1 w Q := by
  have q3 := q
  rw [ltw_8] at q3
  have wd := (wq_3.mp q3).1
  have iW := lt_W hT (show 0 < wnd f n i - wat f n i by omega)
  have W4 := hS.1.2.1.2.1
  have lwi := lw_l (f := f) (n := n) (i := i) (by omega)
  have mx := fun j => lw_max (f := f) hT.1 hT.2.1 j
  refine Eq.mpr (q_Mr_part_29.eq_1 _ _ _ _ _ _) ⟨fun c0 => ⟨fun z => absurd z i1n, fun _ => ?_⟩, fun c0 => ?_⟩
  · rw [hS.2.2.2.1] at c0
    have s5 := ti_add2 hS.1.2.2.1 i_1 (by omega) (by omega)
    have s6 := ti_add2 hS.2.2.2.1 i_1 (by omega) (by omega)
    have F1 : FR lmr w (sI (sI w 147 5 ((w.1 147 5) + (1 : Int32))) 147 6 ((w.1 147 6) + (1 : Int32))) := FR.I (FR.I (FR.refl _ w) rfl) rfl
    have r5 : ((sI (sI w 147 5 ((w.1 147 5) + (1 : Int32))) 147 6 ((w.1 147 6) + (1 : Int32))).1 147 5).toInt = ((i + 1 : Nat) : Int) := by
      rw [sI_ne _ _ _ _ _ (by decide), sI_same, s5]
      omega
    have r6 : ((sI (sI w 147 5 ((w.1 147 5) + (1 : Int32))) 147 6 ((w.1 147 6) + (1 : Int32))).1 147 6).toInt = ((o + 1 : Nat) : Int) := by
      rw [sI_same, s6]
      omega
    have ky : ∀ (p j : Nat), (p = 151 ∨ p = 152 ∨ p = 153) → (sI (sI w 147 5 ((w.1 147 5) + (1 : Int32))) 147 6 ((w.1 147 6) + (1 : Int32))).1 p j = w.1 p j := fun p j hp => by
      rw [sI_oth _ _ _ _ _ _ (by omega), sI_oth _ _ _ _ _ _ (by omega)]
    have r7 : ((sI (sI w 147 5 ((w.1 147 5) + (1 : Int32))) 147 6 ((w.1 147 6) + (1 : Int32))).1 147 7).toInt = (t : Int) := by
      rw [sI_ne _ _ _ _ _ (by decide), sI_ne _ _ _ _ _ (by decide)]
      exact hS.2.2.2.2
    have r11 : ((sI (sI w 147 5 ((w.1 147 5) + (1 : Int32))) 147 6 ((w.1 147 6) + (1 : Int32))).1 147 11).toInt = (N : Int) := by
      rw [sI_ne _ _ _ _ _ (by decide), sI_ne _ _ _ _ _ (by decide)]
      exact hS.2.2.1
    have r12 : ((sI (sI w 147 5 ((w.1 147 5) + (1 : Int32))) 147 6 ((w.1 147 6) + (1 : Int32))).1 147 12).toInt = H := by
      rw [sI_ne _ _ _ _ _ (by decide), sI_ne _ _ _ _ _ (by decide)]
      exact hS.2.1
    generalize (sI (sI w 147 5 ((w.1 147 5) + (1 : Int32))) 147 6 ((w.1 147 6) + (1 : Int32))) = w1 at *
    refine hP w1 f n W H N (o + 1) t (i + 1) c _ hT h01 ⟨ms_fr hS.1 F1 rfl r5 (by omega), r12, r11, r6, r7⟩ (by omega) t2 (by omega) (by omega) (fun res r w5 hk ou => ?_)
    obtain ⟨k, hk⟩ := hk
    have sp := sp_not q (by omega) hk
    obtain ⟨m5, F5, N5, e5, n5, l5, k5, ok, bad⟩ := ou
    have F05 : FR lmr w w5 := FR.tr F1 F5 rfl
    have K05 : ∀ (p j : Nat), (p = 151 ∨ p = 152 ∨ p = 153) → ((j : Int) < 3000 * (1 - H) + (N : Int) ∨ 3000 * (1 - H) + (N5 : Int) ≤ (j : Int)) → w5.1 p j = w.1 p j := fun p j hp hj => (k5 p j hp hj).trans (ky p j hp)
    have mr := mx res.2.2.2
    cases hb : res.1 with
    | false =>
      rw [if_neg (nt hb)] at sp
      exact Eq.mpr (q_Mr_part_75.eq_1 _ _ _ _ _ _ _) ⟨fun _ => hQ _ _ _ ⟨_, sp⟩ (ou_no m5 F05 e5 n5 (by omega) K05 (by decide) res hb rfl), fun z => absurd (bad hb) z⟩
    | true =>
      rw [if_pos hb] at sp
      obtain ⟨o5, t5, tb, l, kk, el, tr, rl⟩ := ok hb
      have r0 := tr_lo tr
      refine Eq.mpr (q_Mr_part_75.eq_1 _ _ _ _ _ _ _) ⟨fun z => absurd z (by omega), fun _ => ⟨fun _ => ⟨fun z => absurd z i1n, fun _ => ?_⟩, fun z => absurd i1n z⟩⟩
      refine Eq.mpr (q_Mr_part_109.eq_1 _ _ _ _ _ _ _ _ _) ⟨fun z => absurd z i1n, fun _ => ?_⟩
      have iR : res.2.2.2 ≤ W := m5.2.2.2
      have s7 := tin m5.2.2.1 i_0 (by omega) (by omega)
      have s8 := ti_sub2 o5 i_1 (by omega) (by omega)
      have F6 : FR lmr w (sI (sI w5 147 5 ((w5.1 147 5) + (0 : Int32))) 147 6 ((w5.1 147 6) - (1 : Int32))) := FR.I (FR.I F05 rfl) rfl
      have F56 : FR lmr w5 (sI (sI w5 147 5 ((w5.1 147 5) + (0 : Int32))) 147 6 ((w5.1 147 6) - (1 : Int32))) := FR.I (FR.I (FR.refl _ w5) rfl) rfl
      have v5 : ((sI (sI w5 147 5 ((w5.1 147 5) + (0 : Int32))) 147 6 ((w5.1 147 6) - (1 : Int32))).1 147 5).toInt = (res.2.2.2 : Int) := by
        rw [sI_ne _ _ _ _ _ (by decide), sI_same, s7]
      have v6 : ((sI (sI w5 147 5 ((w5.1 147 5) + (0 : Int32))) 147 6 ((w5.1 147 6) - (1 : Int32))).1 147 6).toInt = (o : Int) := by
        rw [sI_same, s8]
        omega
      have v7 : ((sI (sI w5 147 5 ((w5.1 147 5) + (0 : Int32))) 147 6 ((w5.1 147 6) - (1 : Int32))).1 147 7).toInt = (res.2.2.1 : Int) := by
        rw [sI_ne _ _ _ _ _ (by decide), sI_ne _ _ _ _ _ (by decide)]
        exact t5
      have v11 : ((sI (sI w5 147 5 ((w5.1 147 5) + (0 : Int32))) 147 6 ((w5.1 147 6) - (1 : Int32))).1 147 11).toInt = (N5 : Int) := by
        rw [sI_ne _ _ _ _ _ (by decide), sI_ne _ _ _ _ _ (by decide)]
        exact e5
      have vy : ∀ (p j : Nat), (p = 151 ∨ p = 152 ∨ p = 153) → (sI (sI w5 147 5 ((w5.1 147 5) + (0 : Int32))) 147 6 ((w5.1 147 6) - (1 : Int32))).1 p j = w5.1 p j := fun p j hp => by
        rw [sI_oth _ _ _ _ _ _ (by omega), sI_oth _ _ _ _ _ _ (by omega)]
      generalize (sI (sI w5 147 5 ((w5.1 147 5) + (0 : Int32))) 147 6 ((w5.1 147 6) - (1 : Int32))) = w6 at *
      have v12 : (w6.1 147 12).toInt = H := by rw [(F6 147 12 rfl).1]; exact hS.2.1
      refine mnd v12 h01 v11 (by omega) (fun x w7 nd => hQ _ _ _ ⟨_, sp⟩ ?_)
      obtain ⟨ex, e7, F7, K7, x1, x2, x3⟩ := nd
      have F67 : FR lmr w w7 := FR.tr F6 F7 rfl
      have K57 : ∀ (p j : Nat), (p = 151 ∨ p = 152 ∨ p = 153) → ¬ (j : Int) = 3000 * (1 - H) + (N5 : Int) → w7.1 p j = w5.1 p j := fun p j hp hj => (K7 p j hp hj).trans (vy p j hp)
      refine ⟨ms_fr m5 (FR.tr F56 F7 rfl) rfl (by rw [(F7 147 5 rfl).1]; exact v5) iR, F67, N5 + 1, e7, by omega, by show N5 + 1 + lwn f n i ≤ N + lwn f n res.2.2.2; omega, fun p j hp hj => (K57 p j hp (by omega)).trans (K05 p j hp (by omega)), fun _ => ⟨by rw [(F7 147 6 rfl).1]; exact v6, by rw [(F7 147 7 rfl).1]; exact v7, tb, l ++ [16], kk + 1, by show res.2.1 ++ [16] = c ++ (l ++ [16]); rw [el, List.append_assoc], ?_, by omega⟩, fun z => absurd (show true = false from z) (by decide)⟩
      rw [TRe_u, x1, x2]
      exact ⟨by omega, Or.inr (Or.inl ⟨b16, by omega, l, tr_fr _ _ _ tr (fun p j hp j0 j1 => K57 p j hp (by omega)) (by omega), rfl⟩)⟩
  · have e20 : o = 20 := by
      have := Classical.not_not.mp c0
      rw [hS.2.2.2.1] at this
      omega
    exact hQ _ _ _ ⟨1, sp_f1 q e20⟩ (ou_no hS.1 (FR.refl _ w) hS.2.2.1 (Nat.le_refl _) (Nat.le_refl _) (fun _ _ _ _ => rfl) (by decide) (rsF i) rfl rfl)
