/-! seconds on both sides -/
/-- the clock goes on -/
theorem hr_now {v w : MW} {x : Int32} (h : HRq (mx v w)) : HRq (mx (sI v 7 1 x) (sI w 127 78 x)) := by
  have s : ∀ m : Pl, off [(7, some 1), (127, some 78)] m = true → Ag m (mx v w) (mx (sI v 7 1 x) (sI w 127 78 x)) := fun m hm => mx_ag (fun k j hk => by
    have F : FR [(7, some 1), (127, some 78)] v (sI v 7 1 x) := FR.I (FR.refl _ v) rfl
    have G : FR [(7, some 1), (127, some 78)] w (sI w 127 78 x) := FR.I (FR.refl _ w) rfl
    exact ⟨fun _ => (F k j (off_hit hm hk)).1, fun _ => (G k j (off_hit hm hk)).1⟩)
  have s1 : Ag lPL (mx v w) (mx (sI v 7 1 x) (sI w 127 78 x)) := s lPL rfl
  have s3 : Ag [(10, none), (12, none), (17, none), (18, none), (19, none), (21, none), (23, none), (164, none), (165, none), (166, none), (169, none), (172, none), (173, none), (174, none)] (mx v w) (mx (sI v 7 1 x) (sI w 127 78 x)) := s _ rfl
  obtain ⟨h1, h2, h3, h4⟩ := h
  refine ⟨HPl_ag s1 h1, HTb_ag (s lTq rfl) h2, ?_, HWy_ag s1 (s lWy rfl) (fun p => s3 17 _ rfl) h4⟩
  have e20 : ∀ j, (mx (sI v 7 1 x) (sI w 127 78 x)).2.1 20 j = (mx v w).2.1 20 j := fun j => rfl
  have n7 : (mx (sI v 7 1 x) (sI w 127 78 x)).1 7 1 = (mx (sI v 7 1 x) (sI w 127 78 x)).1 127 78 := by
    rw [mx_c _ _ (by decide), mx_m _ _ (by decide), sI_same, sI_same]
  generalize mx (sI v 7 1 x) (sI w 127 78 x) = z' at *
  generalize mx v w = z at *
  obtain ⟨m1, m2, m3, m4⟩ := tM_ag s1
  obtain ⟨a1, a2, a3, a4, a5⟩ := h3
  refine ⟨?_, ?_, ?_, ?_, ?_⟩
  · unfold SKl
    rw [m1, m2, m4]
    refine ⟨fun t ht => ?_, fun p hp' => ?_⟩
    · rw [s3 17 t rfl, s3 165 t rfl, s3 166 t rfl]
      exact a1.1 t ht
    · rw [s3 17 _ rfl, s3 169 p rfl]
      rcases a1.2 p hp' with ⟨a, b⟩ | ⟨a, b, k, hk, c⟩
      · exact Or.inl ⟨a, fun k hk => by rw [s3 172 _ rfl]; exact b k hk⟩
      · exact Or.inr ⟨a, fun k hk => by rw [s3 172 _ rfl]; exact b k hk, k, hk, by rw [s3 172 _ rfl]; exact c⟩
  · unfold SKv
    rw [m1, m2]
    refine ⟨fun y hy => ?_, fun y l hy h1 h2 => ?_, n7⟩
    · rw [s3 17 y rfl, s3 173 y rfl, s3 19 y rfl]
      exact a2.1 y hy
    · rw [s3 23 _ rfl, s3 174 _ rfl]
      exact a2.2.1 y l hy h1 h2
  · unfold SKt
    rw [m1, m4]
    intro t ht tk
    rw [s3 18 t rfl, s3 165 t rfl, s3 10 t rfl, s3 164 t rfl, s3 166 t rfl]
    exact a3 t ht tk
  · unfold SKp
    rw [m1, m2]
    intro p hp'
    have q := a4 p hp'
    have ec : ∀ c, cel z' p c = cel z p c := fun c => by
      unfold cel
      rw [e20]
    rw [s3 12 p rfl, s3 169 p rfl, s3 21 p rfl, s3 18 _ rfl]
    refine ⟨q.1, q.2.1, q.2.2.1, fun k hk => ?_, ?_⟩
    · rw [ec, s3 172 _ rfl]
      exact q.2.2.2.1 k hk
    · have ef : (fun k => decide (¬ z'.1 172 (200 * p + k) = 0)) = (fun k => decide (¬ z.1 172 (200 * p + k) = 0)) := by
        funext k
        rw [s3 172 _ rfl]
      rw [ef]
      exact q.2.2.2.2
  · rw [m1, m2]
    intro y l hy h1 h2 h0
    rw [s3 17 y rfl] at h0
    rw [s3 23 _ rfl]
    exact a5 y l hy h1 h2 h0
theorem gw_now {ns : List Nod} {nm : List Nm} {ks : List Nat} {v w : MW} {x : Int32} (h : GwR ns nm ks v w) : GwR ns nm ks (sI v 7 1 x) (sI w 127 78 x) := by
  have F : FR [(7, some 1)] v (sI v 7 1 x) := FR.I (FR.refl _ v) rfl
  have G : FR [(127, some 78)] w (sI w 127 78 x) := FR.I (FR.refl _ w) rfl
  obtain ⟨hr, ha, rq, sc, sm, ss, wt, pg⟩ := h
  exact ⟨hr_now hr, hac_f ha F G rfl rfl, rwq_f rq F G rfl rfl, svc_f F sc (WO_fr F rfl sc.2.2.2.2.2.1) rfl, svm_f G sm (FT_fr G rfl sm.2.1) (HW_fr G rfl sm.2.2.1) rfl, ssr_f ss F G rfl rfl, wtr_f wt F G rfl rfl, pgq_f pg F G rfl rfl⟩
/-- a second ends: ways move, the clock goes on -/
theorem sec_e {T : Int} {ns : List Nod} {nm : List Nm} {ks : List Nat} {v w : MW} {y1 y2 : Int32} {Ac Am : MW → Prop} {Qm : Int32 → MW → Prop} (h : ZRr T ns nm ks v w ∨ (GwR ns nm ks v w ∧ (BND v ∧ BND w) ∧ VlR v w ∧ AlR v w ∧ v.1 61 4 = w.1 127 59 ∧ (w.1 127 76).toInt = -1 ∧ (0 ≤ (v.1 7 1).toInt ∧ (v.1 7 1).toInt ≤ T) ∧ (0 ≤ (v.2.1 61 17).toInt ∧ (v.2.1 61 17).toInt ≤ (v.1 7 1).toInt + 1) ∧ (((v.1 61 4).toInt = 0 ∨ (v.1 61 4).toInt = 2) → ¬ ks = [] ∧ LyQ v w ∧ ∃ off : Int, (v.2.1 61 17).toInt = (w.1 127 74).toInt + off ∧ 0 ≤ (w.1 127 74).toInt ∧ 0 ≤ off ∧ RnR ns off ks v w))) (hT : T ≤ 999999) (hc : p_Wa_move v (fun w8 => Ac (sI w8 7 1 ((w8.1 7 1) + (1 : Int32))))) (hm : q_Mo_tick_67 y1 y2 (fun w9 => Am (sI w9 127 78 ((w9.1 127 78) + (1 : Int32)))) Qm FU 0 w) : ∃ v' w', Ac v' ∧ Am w' ∧ ZRr (T + 1) ns nm ks v' w' := by
  have h' : GwR ns nm ks v w ∧ (BND v ∧ BND w) ∧ VlR v w ∧ AlR v w ∧ v.1 61 4 = w.1 127 59 ∧ (w.1 127 76).toInt = -1 ∧ (0 ≤ (v.1 7 1).toInt ∧ (v.1 7 1).toInt ≤ T) ∧ (0 ≤ (v.2.1 61 17).toInt ∧ (v.2.1 61 17).toInt ≤ (v.1 7 1).toInt + 1) ∧ (((v.1 61 4).toInt = 0 ∨ (v.1 61 4).toInt = 2) → ¬ ks = [] ∧ LyQ v w ∧ ∃ off : Int, (v.2.1 61 17).toInt = (w.1 127 74).toInt + off ∧ 0 ≤ (w.1 127 74).toInt ∧ 0 ≤ off ∧ RnR ns off ks v w) := by
    rcases h with ⟨a1, a2, a3, a4, a5, a6, a7, a8, a9⟩ | z
    · exact ⟨a1, a2, a3, a4, a5, a6, a7, ⟨a8.1, by omega⟩, a9⟩
    · exact z
  obtain ⟨gw, ⟨B, B'⟩, vl, al, st, bad, nw, wk, rn⟩ := h'
  obtain ⟨v1, w1, q1, q2, gw1, ⟨B1, B1'⟩, F, G⟩ := mv_d gw B B' hc hm
  have e7 : v1.1 7 1 = w1.1 127 78 := by
    rw [(F 7 1 rfl).1, (G 127 78 rfl).1]
    exact al.1
  rw [← e7] at q2
  have s := ti_add2 (Eq.refl (v1.1 7 1).toInt) i_1 (by rw [(F 7 1 rfl).1]; omega) (by rw [(F 7 1 rfl).1]; omega)
  have F2 : FR [(7, some 1), (17, none), (18, none), (19, none), (20, none), (21, none), (23, none)] v (sI v1 7 1 ((v1.1 7 1) + (1 : Int32))) := FR.I ((FR.refl _ v).tr F rfl) rfl
  have G2 : FR [(127, some 78), (165, none), (166, none), (172, none), (173, none), (174, none), (193, none)] w (sI w1 127 78 ((v1.1 7 1) + (1 : Int32))) := FR.I ((FR.refl _ w).tr G rfl) rfl
  have n7 : ((sI v1 7 1 ((v1.1 7 1) + (1 : Int32))).1 7 1).toInt = (v.1 7 1).toInt + 1 := by
    rw [sI_same, s, (F 7 1 rfl).1]
  have al2 : AlR (sI v1 7 1 ((v1.1 7 1) + (1 : Int32))) (sI w1 127 78 ((v1.1 7 1) + (1 : Int32))) := by
    refine ⟨by rw [sI_same, sI_same], ?_, ?_, ?_, fun j hj => ?_⟩
    · rw [(F2 3 0 rfl).1, (G2 127 79 rfl).1]
      exact al.2.1
    · rw [(F2 3 0 rfl).1]
      exact al.2.2.1
    · rw [(F2 3 0 rfl).1]
      exact al.2.2.2.1
    · rw [(F2 4 j rfl).1, (F2 5 j rfl).1, (F2 6 j rfl).1, (G2 218 j rfl).1, (G2 219 j rfl).1, (G2 220 j rfl).1]
      exact al.2.2.2.2 j hj
  refine ⟨_, _, q1, q2, gw_now gw1, ⟨wbd_7_1 B1, wbd_127_78 B1'⟩, vlr_f vl F2 G2 rfl rfl, al2, by rw [(F2 61 4 rfl).1, (G2 127 59 rfl).1]; exact st, by rw [(G2 127 76 rfl).1]; exact bad, by rw [n7]; omega, by rw [n7, (F2 61 17 rfl).2.1]; omega, fun z => ?_⟩
  rw [(F2 61 4 rfl).1] at z
  exact run_f gw.2.2.2.2.2.2.2 rn F2 G2 rfl rfl z
/-- SECONDS ON BOTH SIDES -/
theorem tk_l {T : Int} {ns : List Nod} {nm : List Nm} {ks : List Nat} {a : Int32} {E E' : MW → Prop} {Q Q' : Int32 → MW → Prop} (a6 : a.toInt ≤ 600) (hT : T + 600 ≤ 999999) : ∀ (M M' : Nat) (i : Int32) (v w : MW), q_Bh_tick_15 a E Q M i v → q_Mo_tick_15 a E' Q' M' i w → ZRr (T + i.toInt) ns nm ks v w → 0 ≤ i.toInt → i.toInt ≤ a.toInt → ∃ v' w', E v' ∧ E' w' ∧ ZRr (T + a.toInt) ns nm ks v' w' := by
  intro M
  induction M with
  | zero => exact fun _ _ _ _ h => False.elim h
  | succ M ih =>
    intro M' i v w hC hM hZ i0 i1
    cases M' with
    | zero => exact False.elim hM
    | succ M' =>
      rw [q_Bh_tick_15.eq_2] at hC
      rw [q_Mo_tick_15.eq_2] at hM
      by_cases z : a.toInt ≤ i.toInt
      · have e : i.toInt = a.toInt := by omega
        rw [e] at hZ
        exact ⟨v, w, hC.1 z, hM.1 z, hZ⟩
      · have c1 := hC.2 z
        have m1 := hM.2 z
        have si := ti_add2 (Eq.refl i.toInt) i_1 (by omega) (by omega)
        obtain ⟨gw, ⟨B, B'⟩, vl, al, st, bad, nw, wk, rn⟩ := hZ
        obtain ⟨v1, w1, q1, q2, gw1, ⟨B1, B1'⟩, vl1, F1, G1⟩ := sa_d gw B B' vl (by rw [← al.1]; exact nw.1) c1 m1
        obtain ⟨v2, w2, q3, q4, gw2, ⟨B2, B2'⟩, F2, G2⟩ := rc_d gw1 B1 B1' q1.2 q2
        have F : FR [(48, some 1), (49, none), (50, none), (51, none), (74, none)] v v2 := ((FR.refl _ v).tr F1 rfl).tr F2 rfl
        have G : FR [(147, some 24), (160, none), (161, none), (162, none), (206, none)] w w2 := ((FR.refl _ w).tr G1 rfl).tr G2 rfl
        have vl2 : VlR v2 w2 := vlr_f vl1 F2 G2 rfl rfl
        have al2 : AlR v2 w2 := alr_f al F G rfl rfl
        have e4 : v2.1 61 4 = v.1 61 4 := (F 61 4 rfl).1
        have e59 : w2.1 127 59 = w.1 127 59 := (G 127 59 rfl).1
        have e7 : v2.1 7 1 = v.1 7 1 := (F 7 1 rfl).1
        have e17 : v2.2.1 61 17 = v.2.1 61 17 := (F 61 17 rfl).2.1
        have st2 : v2.1 61 4 = w2.1 127 59 := by rw [e4, e59]; exact st
        have bad2 : (w2.1 127 76).toInt = -1 := by rw [(G 127 76 rfl).1]; exact bad
        have rn2 : ((v2.1 61 4).toInt = 0 ∨ (v2.1 61 4).toInt = 2) → ¬ ks = [] ∧ LyQ v2 w2 ∧ ∃ off : Int, (v2.2.1 61 17).toInt = (w2.1 127 74).toInt + off ∧ 0 ≤ (w2.1 127 74).toInt ∧ 0 ≤ off ∧ RnR ns off ks v2 w2 := fun z => by
          rw [e4] at z
          exact run_f gw.2.2.2.2.2.2.2 rn F G rfl rfl z
        have nxt : ∀ v5 w5, q_Bh_tick_15 a E Q M (i + (1 : Int32)) v5 → q_Mo_tick_15 a E' Q' M' (i + (1 : Int32)) w5 → ZRr (T + i.toInt + 1) ns nm ks v5 w5 → ∃ v' w', E v' ∧ E' w' ∧ ZRr (T + a.toInt) ns nm ks v' w' := fun v5 w5 h1 h2 h3 => ih M' _ v5 w5 h1 h2 (by rw [si, ← Int.add_assoc]; exact h3) (by omega) (by omega)
        by_cases s0 : (v2.1 61 4).toInt = 0
        · have c2 := q3.2 (fun y => y s0)
          have m2 := q4.2 (fun y => y (by rw [← st2]; exact s0))
          obtain ⟨k0, ly, o, r1, r2, r3, r4⟩ := rn2 (Or.inl s0)
          have pg2 := gw2.2.2.2.2.2.2.2
          have pq := pg2.2.2.2.2.2.2.2.2.2.2.2.2 k0
          obtain ⟨v3, w3, t1, t2, ⟨st3, n3⟩, ⟨gw3, ⟨B3, B3'⟩, sta3, vl3, al3, bad3, wk3, wl3⟩, _, rn3⟩ := wk_x (gw_j ns nm ks) (gw_p ns nm ks) ⟨gw2, ⟨B2, B2'⟩, sta_of pg2 k0 ly, vl2, al2, bad2, r1, r2, r3, by rw [e17] at r1; omega⟩ s0 pq.1 pg2.2.2.2.2.2.2.1 r4 c2 m2
          have n37 : v3.1 7 1 = v.1 7 1 := n3.trans e7
          have rel3 : GwR ns nm ks v3 w3 ∧ (BND v3 ∧ BND w3) ∧ VlR v3 w3 ∧ AlR v3 w3 ∧ v3.1 61 4 = w3.1 127 59 ∧ (w3.1 127 76).toInt = -1 ∧ (0 ≤ (v3.1 7 1).toInt ∧ (v3.1 7 1).toInt ≤ T + i.toInt) ∧ (0 ≤ (v3.2.1 61 17).toInt ∧ (v3.2.1 61 17).toInt ≤ (v3.1 7 1).toInt + 1) ∧ (((v3.1 61 4).toInt = 0 ∨ (v3.1 61 4).toInt = 2) → ¬ ks = [] ∧ LyQ v3 w3 ∧ ∃ off : Int, (v3.2.1 61 17).toInt = (w3.1 127 74).toInt + off ∧ 0 ≤ (w3.1 127 74).toInt ∧ 0 ≤ off ∧ RnR ns off ks v3 w3) := ⟨gw3, ⟨B3, B3'⟩, vl3, al3, st3, bad3, by rw [n37]; exact nw, by rw [n37, wk3, e17]; omega, fun z => ⟨k0, sta3.2.2.2.2.2.1, o, by rw [wk3, wl3, r1]; omega, by rw [wl3]; omega, r3, rn3 z⟩⟩
          -- the ways are closed, then they move
          have cls : q_Bh_tick_73 a i v3 (fun (x15_2 : Int32) (w : MW) => q_Bh_tick_15 a E Q M x15_2 w) E Q → q_Mo_tick_60 a i w3 (fun (x15_2 : Int32) (w : MW) => q_Mo_tick_15 a E' Q' M' x15_2 w) E' Q' → ∃ v' w', E v' ∧ E' w' ∧ ZRr (T + a.toInt) ns nm ks v' w' := fun h1 h2 => by
            rw [q_Bh_tick_73.eq_1] at h1
            rw [q_Mo_tick_60.eq_1] at h2
            obtain ⟨g3, ⟨_, _⟩, x3, x4, x5, x6, x7, x8, x9⟩ := rel3
            obtain ⟨v4, w4, u1, u2, gw4, BB4, F4, G4⟩ := cl_d g3 B3 B3' h1 h2
            have e44 : v4.1 61 4 = v3.1 61 4 := (F4 61 4 rfl).1
            obtain ⟨v5, w5, y1, y2, y3⟩ := sec_e (T := T + i.toInt) (Or.inr ⟨gw4, BB4, vlr_f x3 F4 G4 rfl rfl, alr_f x4 F4 G4 rfl rfl, by rw [e44, (G4 127 59 rfl).1]; exact x5, by rw [(G4 127 76 rfl).1]; exact x6, by rw [(F4 7 1 rfl).1]; exact x7, by rw [(F4 7 1 rfl).1, (F4 61 17 rfl).2.1]; exact x8, fun z => by
              rw [e44] at z
              exact run_f g3.2.2.2.2.2.2.2 x9 F4 G4 rfl rfl z⟩) (by omega) u1 u2
            exact nxt v5 w5 y1 y2 y3
          by_cases s2 : (v3.1 61 4).toInt = 2
          · exact cls (t1.1 s2) (t2.1 (by rw [← st3]; exact s2))
          · have t3 := t1.2 s2
            have t4 := t2.2 (by rw [← st3]; exact s2)
            by_cases s3 : (v3.1 61 4).toInt = 3
            · exact cls (t3.2 (fun y => y s3)) (t4.2 (fun y => y (by rw [← st3]; exact s3)))
            · obtain ⟨v5, w5, y1, y2, y3⟩ := sec_e (T := T + i.toInt) (Or.inr rel3) (by omega) (t3.1 s3) (t4.1 (by rw [← st3]; exact s3))
              exact nxt v5 w5 y1 y2 y3
        · have c2 := q3.1 s0
          have m2 := q4.1 (by rw [← st2]; exact s0)
          obtain ⟨v5, w5, y1, y2, y3⟩ := sec_e (T := T + i.toInt) (Or.inl ⟨gw2, ⟨B2, B2'⟩, vl2, al2, st2, bad2, by rw [e7]; exact nw, by rw [e7, e17]; exact wk, rn2⟩) (by omega) c2 m2
          exact nxt v5 w5 y1 y2 y3
/-- tick -/
theorem tk_d {T : Int} {ns : List Nod} {nm : List Nm} {ks : List Nat} {a : Int32} {v w : MW} {Qc Qm : Int32 → MW → Prop} (hT : T + 600 ≤ 999999) (hZ : ZRr T ns nm ks v w) (hc : p_Bh_tick v a Qc) (hm : p_Mo_tick w a Qm) : ∃ r v' w', Qc r v' ∧ Qm r w' ∧ ZRr (T + 600) ns nm ks v' w' := by
  rw [p_Bh_tick.eq_1] at hc
  rw [p_Mo_tick.eq_1] at hm
  have up : ∀ (T' : Int) (v w : MW), T' ≤ T + 600 → ZRr T' ns nm ks v w → ZRr (T + 600) ns nm ks v w := fun T' v w hl z => ⟨z.1, z.2.1, z.2.2.1, z.2.2.2.1, z.2.2.2.2.1, z.2.2.2.2.2.1, ⟨z.2.2.2.2.2.2.1.1, by have := z.2.2.2.2.2.2.1.2; omega⟩, z.2.2.2.2.2.2.2⟩
  by_cases a0 : a.toInt < 0
  · exact ⟨-1, v, w, hc.1 a0, hm.1 a0, up T v w (by omega) hZ⟩
  · by_cases a6 : a.toInt ≤ 600
    · obtain ⟨v', w', q1, q2, z⟩ := tk_l (T := T) a6 hT FU FU 0 v w ((hc.2 a0).1 a6) ((hm.2 a0).1 a6) (by rw [i_0, Int.add_zero]; exact hZ) (by decide) (by rw [i_0]; omega)
      refine ⟨v'.1 61 4, v', w', q1, ?_, up _ v' w' (by omega) z⟩
      rw [z.2.2.2.2.1]
      exact q2
    · exact ⟨-1, v, w, (hc.2 a0).2 a6, (hm.2 a0).2 a6, up T v w (by omega) hZ⟩
