/-! start on both sides -/
/-- reference: is anything to run -/
theorem x4_st {w : MW} {ts ks : List Nat} {E : Int32 → MW → Prop} {Q : Int32 → MW → Prop} (hI : BND w) (h : TpW w ts ks) (n : Nat) : ∀ (x : Int32) (j : Nat), q_Mo_start_4 E Q n x (nI j) w → j ≤ (ts ++ ks).length → ((x = 0 ∧ j ≤ ts.length) ∨ (x = 1 ∧ ¬ ks = [])) → (¬ ks = [] ∧ E 1 w) ∨ (ks = [] ∧ E 0 w) := by
  induction n with
  | zero => exact fun _ _ q => False.elim q
  | succ n ih =>
    intro x j hq hj hx
    have b31 := bd_129_31 hI
    have b12 := bd_129_12 hI
    have e31 := h.1
    have ll : (ts ++ ks).length = ts.length + ks.length := List.length_append
    have tj : (nI j).toInt = (j : Int) := nI_toInt (by omega)
    rw [q_Mo_start_4.eq_2, tj, nI_1] at hq
    by_cases c : (w.1 129 31).toInt ≤ (j : Int)
    · have e := hq.1 c
      rcases hx with ⟨ex, le⟩ | ⟨ex, k⟩
      · rw [ex] at e
        exact Or.inr ⟨List.eq_nil_of_length_eq_zero (by omega), e⟩
      · rw [ex] at e
        exact Or.inl ⟨k, e⟩
    · have q1 := hq.2 c
      rcases hx with ⟨ex, le⟩ | ⟨ex, k⟩
      · have q2 := (q1.2 (by rw [ex]; decide)).2
        have jl : j < (ts ++ ks).length := by omega
        have e := nd_ix (n := nI j) hI (by omega) (by omega)
        have en : (((300 : Int32) * (w.1 129 12)) + nI j).toInt.toNat = (300 * (w.1 129 12).toInt + (j : Int)).toNat := by rw [e, tj]
        have g := h.2.1 j _ (List.getElem?_eq_getElem jl)
        rw [← en] at g
        generalize hT : (w.1 138 (((300 : Int32) * (w.1 129 12)) + nI j).toInt.toNat) = tp at *
        have bt : ((ts ++ ks)[j]) < 300 ∧ ((j < ts.length ∧ (w.1 131 (300 * (w.1 129 12).toInt + (((ts ++ ks)[j] : Nat) : Int)).toNat).toInt = 24) ∨ (¬ j < ts.length ∧ (w.1 131 (300 * (w.1 129 12).toInt + (((ts ++ ks)[j] : Nat) : Int)).toNat).toInt ≤ 23)) := by
          by_cases q : j < ts.length
          · have m : (ts ++ ks)[j] = ts[j] := List.getElem_append_left q
            have t := h.2.2.1 _ (List.getElem_mem q)
            rw [m]
            exact ⟨t.1, Or.inl ⟨q, t.2⟩⟩
          · have m : (ts ++ ks)[j] = ks[j - ts.length]'(by omega) := List.getElem_append_right (by omega)
            have t := h.2.2.2 _ (List.getElem_mem (l := ks) (n := j - ts.length) (by omega))
            rw [m]
            exact ⟨t.1, Or.inr ⟨q, t.2⟩⟩
        have e2 := nd_ix (n := tp) hI (by omega) (by omega)
        have en2 : (((300 : Int32) * (w.1 129 12)) + tp).toInt.toNat = (300 * (w.1 129 12).toInt + (((ts ++ ks)[j] : Nat) : Int)).toNat := by rw [e2, g]
        rw [p_Tx_node1.eq_1, en2] at q2
        have q3 := q2.2
        by_cases c3 : (w.1 131 (300 * (w.1 129 12).toInt + (((ts ++ ks)[j] : Nat) : Int)).toNat).toInt = 24
        · exact ih 0 (j + 1) (q3.1 c3) (by omega) (Or.inl ⟨rfl, by omega⟩)
        · exact ih 1 (j + 1) (q3.2 c3) (by omega) (Or.inr ⟨rfl, fun z => by
            have lk : ks.length = 0 := by rw [z]; rfl
            omega⟩)
      · exact ih 1 (j + 1) (q1.1 (by rw [ex]; decide)) (by omega) (Or.inr ⟨rfl, k⟩)
/-- class: is a signal sensed -/
theorem isn_x {v : MW} {m : Nat} {Q : Int32 → MW → Prop} (h10 : (m : Int) < (v.1 62 10).toInt) (h40 : (v.1 62 10).toInt ≤ 40) (h : p_Pr_isSensed v (nI m) Q) : (SnsC v m → Q 1 v) ∧ (¬ SnsC v m → Q 0 v) := by
  have tm : (nI m).toInt = (m : Int) := nI_toInt (by omega)
  have tn : (nI m).toInt.toNat = m := by omega
  rw [p_Pr_isSensed.eq_1, p_Pr_isSignal.eq_1, tn, tm] at h
  have h1 := ((h.2 (by omega)).2 (by omega)).2
  refine ⟨fun z => ?_, fun z => ?_⟩
  · have h2 := ((h1.2 (fun q => q z.1)).2 (by decide)).2
    have z2 := z.2
    exact h2.2 (by omega)
  · by_cases k : (v.1 71 m).toInt = 8
    · have h2 := ((h1.2 (fun q => q k)).2 (by decide)).2
      exact h2.1 (by
        by_cases y : (v.1 75 m).toInt < 5
        · exact absurd ⟨k, y⟩ z
        · omega)
    · exact (h1.1 k).1 (by decide)
/-- class: values of signals that nothing senses go to nothing -/
theorem cv_x {E : MW → Prop} {Q : MW → Prop} : ∀ (n : Nat) (i : Nat) (v : MW), q_Pr_clearValues_2 E Q n (nI i) v → (i : Int) ≤ (v.1 62 10).toInt → (v.1 62 10).toInt ≤ 40 → ∃ v', E v' ∧ FR [(74, none)] v v' ∧ (∀ m : Nat, m < i → v'.2.1 74 m = v.2.1 74 m) ∧ (∀ m : Nat, i ≤ m → (m : Int) < (v.1 62 10).toInt → (SnsC v m → v'.2.1 74 m = v.2.1 74 m) ∧ (¬ SnsC v m → v'.2.1 74 m = 0)) := by
  intro n
  induction n with
  | zero => exact fun _ _ q => False.elim q
  | succ n ih =>
    intro i v h hi h40
    have ti : (nI i).toInt = (i : Int) := nI_toInt (by omega)
    have tn : (nI i).toInt.toNat = i := by omega
    rw [q_Pr_clearValues_2.eq_2, tn, ti, nI_1] at h
    by_cases c : (v.1 62 10).toInt ≤ (i : Int)
    · exact ⟨v, h.1 c, FR.refl _ v, fun _ _ => rfl, fun m m1 m2 => by omega⟩
    · have s := isn_x (by omega) h40 (h.2 c)
      by_cases z : SnsC v i
      · obtain ⟨v', e, F, lo, hh⟩ := ih (i + 1) v ((s.1 z).1 (by decide)) (by omega) h40
        refine ⟨v', e, F, fun m hm => lo m (by omega), fun m m1 m2 => ?_⟩
        by_cases y : m = i
        · rw [y]
          exact ⟨fun _ => lo i (by omega), fun q => absurd z q⟩
        · exact hh m (by omega) m2
      · have k := ((s.2 z).2 (fun q => q (by decide))).2
        have F1 : FR [(74, none)] v (sJ v 74 i 0) := FR.J (FR.refl _ v) rfl
        obtain ⟨v', e, F, lo, hh⟩ := ih (i + 1) (sJ v 74 i 0) k (by rw [sJ_I]; omega) (by rw [sJ_I]; exact h40)
        have sn : ∀ m, SnsC (sJ v 74 i 0) m ↔ SnsC v m := fun m => by unfold SnsC; rw [sJ_I]
        refine ⟨v', e, F1.tr F rfl, fun m hm => ?_, fun m m1 m2 => ?_⟩
        · rw [lo m (by omega), sJ_at, if_neg (by omega)]
        · by_cases y : m = i
          · rw [y]
            exact ⟨fun q => absurd q z, fun _ => by rw [lo i (by omega), sJ_same]⟩
          · have t := hh m (by omega) (by rw [sJ_I]; exact m2)
            rw [sn m, sJ_at, if_neg (fun q => y q.2)] at t
            exact t
/-- reference: the same -/
theorem mv_x {nm : List Nm} {E : MW → Prop} {Q : Int32 → MW → Prop} : ∀ (n : Nat) (i : Nat) (w : MW), q_Mo_start_223 E Q n (nI i) w → i ≤ 40 → (0 ≤ (w.1 129 12).toInt ∧ (w.1 129 12).toInt ≤ 1) → RlM w nm → ∃ w', E w' ∧ FR [(206, none)] w w' ∧ (∀ m : Nat, m < i → w'.2.1 206 m = w.2.1 206 m) ∧ (∀ m : Nat, i ≤ m → m < 40 → (((∃ x, nm[m]? = some x ∧ mrl x.2.1 = 30) ∧ SnsM w m) → w'.2.1 206 m = w.2.1 206 m) ∧ (¬ SnsM w m → w'.2.1 206 m = 0)) := by
  intro n
  induction n with
  | zero => exact fun _ _ q => False.elim q
  | succ n ih =>
    intro i w h hi hB hR
    have ti : (nI i).toInt = (i : Int) := nI_toInt (by omega)
    have tn : (nI i).toInt.toNat = i := by omega
    rw [q_Mo_start_223.eq_2, ti] at h
    by_cases c : 40 ≤ (i : Int)
    · exact ⟨w, h.1 c, FR.refl _ w, fun _ _ => rfl, fun m m1 m2 => by omega⟩
    · have rl := rl_y hB hR (h.2 c)
      have nx : nI i + (1 : Int32) = nI (i + 1) := nI_1 i
      have go0 : q_Mo_start_264 (nI i) 0 w (fun x w => q_Mo_start_223 E Q n x w) E Q → ¬ ((∃ x, nm[i]? = some x ∧ mrl x.2.1 = 30) ∧ SnsM w i) → ∃ w', E w' ∧ FR [(206, none)] w w' ∧ (∀ m : Nat, m < i → w'.2.1 206 m = w.2.1 206 m) ∧ (∀ m : Nat, i ≤ m → m < 40 → (((∃ x, nm[m]? = some x ∧ mrl x.2.1 = 30) ∧ SnsM w m) → w'.2.1 206 m = w.2.1 206 m) ∧ (¬ SnsM w m → w'.2.1 206 m = 0)) := fun q no => by
        rw [q_Mo_start_264.eq_1, tn, nx] at q
        have k := (q.1 (by decide)).2
        have G1 : FR [(206, none)] w (sJ w 206 i 0) := FR.J (FR.refl _ w) rfl
        obtain ⟨w', e, G, lo, hh⟩ := ih (i + 1) (sJ w 206 i 0) k (by omega) hB (rlm_fr hR G1 rfl)
        have sn : ∀ m, SnsM (sJ w 206 i 0) m ↔ SnsM w m := fun m => by unfold SnsM; rw [sJ_I]
        refine ⟨w', e, G1.tr G rfl, fun m hm => ?_, fun m m1 m2 => ?_⟩
        · rw [lo m (by omega), sJ_at, if_neg (by omega)]
        · by_cases y : m = i
          · rw [y]
            exact ⟨fun q => absurd q no, fun _ => by rw [lo i (by omega), sJ_same]⟩
          · have t := hh m (by omega) m2
            rw [sn m, sJ_at, if_neg (fun q => y q.2)] at t
            exact t
      by_cases r : ∃ x, nm[i]? = some x ∧ mrl x.2.1 = 30
      · have h1 := ((rl.1 (by
          obtain ⟨x, x1, x2⟩ := r
          exact ⟨x, by rw [tn]; exact x1, by omega, x2⟩)).2 (by decide)).2
        rw [Int.toNat_natCast] at h1
        by_cases z1 : (w.1 201 i).toInt = -1
        · exact go0 (h1.1 z1) (fun q => q.2.1 z1)
        · have h2 := (h1.2 z1).2
          by_cases z2 : 5 ≤ (w.1 201 i).toInt
          · exact go0 (h2.1 z2) (fun q => by have := q.2.2; omega)
          · have q := h2.2 z2
            rw [q_Mo_start_264.eq_1, tn, nx] at q
            have k := (q.2 (by decide)).2.2
            have G1 : FR [(206, none)] w (sJ w 206 i (w.2.1 206 i)) := FR.J (FR.refl _ w) rfl
            have same : ∀ m, (sJ w 206 i (w.2.1 206 i)).2.1 206 m = w.2.1 206 m := fun m => by
              rw [sJ_at]
              by_cases y : m = i
              · rw [if_pos ⟨rfl, y⟩, y]
              · rw [if_neg (fun q => y q.2)]
            obtain ⟨w', e, G, lo, hh⟩ := ih (i + 1) (sJ w 206 i (w.2.1 206 i)) k (by omega) hB (rlm_fr hR G1 rfl)
            have sn : ∀ m, SnsM (sJ w 206 i (w.2.1 206 i)) m ↔ SnsM w m := fun m => by unfold SnsM; rw [sJ_I]
            refine ⟨w', e, G1.tr G rfl, fun m hm => ?_, fun m m1 m2 => ?_⟩
            · rw [lo m (by omega), same m]
            · by_cases y : m = i
              · rw [y]
                exact ⟨fun _ => by rw [lo i (by omega), same i], fun q => absurd ⟨z1, by omega⟩ q⟩
              · have t := hh m (by omega) m2
                rw [sn m, same m] at t
                exact t
      · exact go0 ((rl.2 (fun ⟨x, x1, _, x2⟩ => r ⟨x, by rw [tn] at x1; exact x1, x2⟩)).1 (by decide)) (fun q => r q.1)
theorem ab0_z {ns : List Nod} {v w : MW} {q : Nat} : ∀ (l : List Nat) (s : Nat) (h : Int), Lz ns v l s h q → (∀ j : Nat, s ≤ j → j < q → bgM w j = 0) → AB0 v w l h := by
  intro l
  induction l with
  | nil => exact fun _ _ _ _ => trivial
  | cons c cs ih =>
    intro s h hL hj
    obtain ⟨e1, _, m, sm, mq, _, L2⟩ := lz_c hL
    have hs : h.toNat = s := by omega
    refine ⟨by rw [hs]; exact hj s (Nat.le_refl _) (by omega), ?_⟩
    rw [hs]
    exact ih m _ L2 (fun j ja jb => hj j (by omega) jb)
/-- reference: the layout behind a start -/
theorem lay_st {ns : List Nod} {nm : List Nm} {ts ks : List Nat} {w : MW} {E : MW → Prop} {Q : Int32 → MW → Prop} (hG : PGS ns nm) (hO : ∀ c ∈ ks, OwB ns false c) (k0 : ¬ ks = []) (l3 : (ts ++ ks).length ≤ 300) (sm : StM ns w) (sn : StN nm w) (tp : TpW w ts ks) (h : q_Mo_start_134 E Q FU (-1) 0 (sI (sI (sI (sI (sI w 127 60 1) 207 0 (-1)) 210 0 (vp_nar .boolean (1 : Int32))) 208 0 (-1)) 209 0 (-1))) : ∃ w', E w' ∧ KpL w w' ∧ (w'.1 207 0).toInt = -1 ∧ (w'.1 209 0).toInt = -1 ∧ bgM w' 0 = 1 ∧ 0 < plc w' ∧ (∀ j : Nat, 0 < j → (j : Int) < plc w' → bgM w' j = 0) ∧ LyM ns w' ks 1 (w'.1 208 0).toInt (plc w').toNat := by
  have K0 : KpL w (sI w 127 60 0) := ⟨rfl, rfl, fun c j _ h2 => by rw [sI_at, if_neg h2]⟩
  have K1 : KpL (sI w 127 60 0) (sI (sI (sI (sI (sI w 127 60 1) 207 0 (-1)) 210 0 (vp_nar .boolean (1 : Int32))) 208 0 (-1)) 209 0 (-1)) := ⟨rfl, rfl, fun c j h1 h2 => by
    rw [sI_at, if_neg (fun q => h1 (by omega)), sI_at, if_neg (fun q => h1 (by omega)), sI_at, if_neg (fun q => h1 (by omega)), sI_at, if_neg (fun q => h1 (by omega)), sI_at, if_neg h2, sI_at, if_neg h2]⟩
  have a7 : (sI (sI (sI (sI (sI w 127 60 1) 207 0 (-1)) 210 0 (vp_nar .boolean (1 : Int32))) 208 0 (-1)) 209 0 (-1)).1 207 0 = -1 := rfl
  have a8 : (sI (sI (sI (sI (sI w 127 60 1) 207 0 (-1)) 210 0 (vp_nar .boolean (1 : Int32))) 208 0 (-1)) 209 0 (-1)).1 208 0 = -1 := rfl
  have a9 : (sI (sI (sI (sI (sI w 127 60 1) 207 0 (-1)) 210 0 (vp_nar .boolean (1 : Int32))) 208 0 (-1)) 209 0 (-1)).1 209 0 = -1 := rfl
  have a10 : ((sI (sI (sI (sI (sI w 127 60 1) 207 0 (-1)) 210 0 (vp_nar .boolean (1 : Int32))) 208 0 (-1)) 209 0 (-1)).1 210 0).toInt = 1 := (congrArg Int32.toInt (show (sI (sI (sI (sI (sI w 127 60 1) 207 0 (-1)) 210 0 (vp_nar .boolean (1 : Int32))) 208 0 (-1)) 209 0 (-1)).1 210 0 = vp_nar .boolean (1 : Int32) from rfl)).trans nb_b1
  have p1 : plc (sI (sI (sI (sI (sI w 127 60 1) 207 0 (-1)) 210 0 (vp_nar .boolean (1 : Int32))) 208 0 (-1)) 209 0 (-1)) = 1 := rfl
  have p0 : plc (sI w 127 60 0) = 0 := rfl
  generalize sI (sI (sI (sI (sI w 127 60 1) 207 0 (-1)) 210 0 (vp_nar .boolean (1 : Int32))) 208 0 (-1)) 209 0 (-1) = w1 at *
  have K : KpL w w1 := kpl_t K0 K1
  have tp1 : TpW w1 ts ks := by
    refine tpw_s tp (fun k j hk => K.2.2 k j (fun q => ?_) (fun q => ?_))
    · rcases q with q | q | q | q <;> (rw [q] at hk; exact absurd hk (by simp [lnm2, hit]))
    · rw [q.1] at hk
      exact absurd hk (by simp [lnm2, hit])
  have J : LyJ ns (sI w 127 60 0) (-1) 1 [] (-1) w1 := by
    refine ⟨K1, by omega, fun j hj => by omega, ?_, ?_, ⟨?_, fun j j1 j2 => by omega⟩, Or.inl ⟨rfl, rfl, ?_, by omega⟩⟩
    · rw [p0]; exact congrArg Int32.toInt a7
    · rw [p0]; exact congrArg Int32.toInt a9
    · rw [p0]; exact a10
    · rw [p0]; exact congrArg Int32.toInt a8
  obtain ⟨w', la, e, L⟩ := ls_134 hG p0 (fun c hc => owb_a (hO c hc)) FU (-1) [] (ts ++ ks) w1 h rfl l3 (kpl_s sm K) (kpl_n sn K) tp1 (by rw [List.drop_nil]; exact J)
  rw [LyJ, p0] at L
  obtain ⟨L1, L2, L3, L4, L5, L6, L7⟩ := L
  refine ⟨w', e, kpl_t K0 L1, L4, L5, L6.1, L2, fun j j1 j2 => L6.2 j (by omega) j2, ?_⟩
  rcases L7 with ⟨_, b, _⟩ | ⟨a, b, c, d, f⟩
  · exact absurd b k0
  · exact LayB_e _ _ _ _ _ f d
