/-! a way is opened: the pair, put together -/
theorem RPn_c {w z : MW} (h : z.1 = w.1) (r : RPn w) : RPn z := by
  have e1 : atM z = atM w := by
    funext e
    unfold atM
    rw [h]
  have e2 : tkM z = tkM w := by
    funext t
    unfold tkM
    rw [h]
  have e3 : pM z = pM w := by
    unfold pM
    rw [h]
  unfold RPn at r ⊢
  rw [e1, e2, e3, h]
  exact r
/-- finding leaves the house -/
theorem hr_5 {v w v5 z w5 : MW} (hr : HRq (mx v w)) (o5 : oF v v5) (bz : BsZ w z) (om : oM z w5) : HRq (mx v5 w5) := by
  have ag : ∀ m : Pl, off [(38, none), (39, none), (26, some 15), (188, none), (189, none), (191, none), (192, none), (127, some 39)] m = true → Ag m (mx v w) (mx v5 w5) := fun m hm => mx_ag (fun k j hk => by
    have q := off_hit hm hk
    refine ⟨fun _ => ?_, fun _ => ?_⟩
    · by_cases c : k = 26
      · rw [c]
        refine o5.2.2 j (fun e => ?_)
        rw [c, e] at q
        cases q
      · exact oF_1 o5 (fun e => by rw [e] at q; cases q) (fun e => by rw [e] at q; cases q) c j
    · have q2 : hit lF5 k j = false := by
        cases q6 : hit lF5 k j with
        | false => rfl
        | true =>
          rw [sub_hit (show sub lF5 [(38, none), (39, none), (26, some 15), (188, none), (189, none), (191, none), (192, none), (127, some 39)] = true by decide) q6] at q
          cases q
      rw [om.2 k j (okM_h q2), bz.1.1])
  refine HRq_ag (ag lPL rfl) (ag lTq rfl) (ag lSk rfl) (ag lWy rfl) (fun j => ?_) hr
  rw [mx_j _ _ (by decide), mx_j _ _ (by decide), o5.1]
theorem op_pair {v w : MW} {a b c : Int32} (hv : BND v) (hw : BND w) (hr : HRq (mx v w)) (hH : HW w) (hP : RP w) (hS : SZ w) (ta : 0 ≤ a.toInt ∧ a.toInt < tM w ∧ tkM w a.toInt) (tb : 0 ≤ b.toInt ∧ b.toInt < tM w ∧ tkM w b.toInt) (ab : ¬ a.toInt = b.toInt) (hc : 1 ≤ c.toInt ∧ c.toInt ≤ 100) : OpP v w a b c := by
  intro Q Q' h kQ
  have T := hb_T hw
  have P := hb_P hw
  have n24 := (bd_127_26 hw).2
  have n0 := (bd_127_26 hw).1
  have ta1 := ta.2.1
  have tb1 := tb.2.1
  have mz := mz_b hw hr
  have hs : p_Mo_find w a b (fun _ _ => True) := h_Mo_find hw hH hP hS ta.1 (by omega) tb.1 (by omega) ab ta.2.2 tb.2.2 (fun _ _ _ _ _ _ _ _ _ => trivial)
  have hs2 : p_Mo_find w a b (fun r w5 => ∃ z, BsZ w z ∧ oM z w5 ∧ FnM z (NNd w) a.toInt b.toInt r w5) := mfd_x hs mz tb.2.2 (m_186 hw) (fun k' => (bd_185 hw k').2) (fun r z w5 ob bs om fm _ => ⟨z, ⟨ob, bs⟩, om, fm⟩)
  obtain ⟨r5, w5, z, bz, om, fm⟩ := ex_find hs2
  have v26 : v.1 26 1 = w.1 127 26 := hr.2.2.2.1.1
  have nz := w_n hr.2.2.2.1
  rw [mx_m _ _ (by decide)] at nz
  have same : ∀ k : Nat, (k : Int) < (w.1 127 26).toInt → v.1 27 k = w.1 181 k ∧ v.1 28 k = w.1 182 k := fun k hk => by
    have q := (hr.2.2.2.1.2.2.2 k (by omega)).1
    exact ⟨q.1, q.2.1⟩
  have paf : ∀ z' w5' es, BsZ w z' → PaM z' (NNd w) a.toInt b.toInt es w5' → PaF w z' w5' a.toInt b.toInt es.length (enL es) := fun z' w5' es bz' pm => pa_f bz'.1.1 (MZb_c bz'.1.1 mz) (RPn_c bz'.1.1 (rp_n hP P.2)) (hb_n hw hr bz') (by rw [tkM_c bz'.1.1]; exact tb.2.2) (by rw [tkM_c bz'.1.1]; exact ta.2.2) ab pm
  have lqa := lq_a hr ta
  rw [p_Ac_openWay.eq_1] at h ⊢
  refine ix_x h (by rw [v26]; exact n24) (fun r1 ix g => ?_)
  rw [v26] at ix
  refine ⟨fun c1 => ?_, fun c1 => kQ 3 v (fun R R' hR kR => ?_) (g.2 c1)⟩
  case refine_2 =>
    refine mop_x hR hv hw hr ta tb (fun r' w' mo g' => ?_)
    rcases mo with ⟨e, ew, _⟩ | ⟨ix', _⟩
    · rw [e, ew] at g' ⊢
      exact kR w hr g'
    · have er := ixs_u ix ix' same
      rw [er] at c1
      exact absurd (by decide) c1
  have G := g.1 c1
  have no3 : ∀ r1', IxS (w.1 181) (w.1 182) (w.1 127 26).toInt a b r1' → r1'.toInt = -1 := fun r1' ix' => by
    have er := ixs_u ix ix' same
    rw [← er]
    rcases ix with ⟨q, _⟩ | ⟨k, q1, q2, _⟩
    · rw [q]
      exact m1_i
    · rw [q2, nI_toInt (by omega)] at c1
      omega
  refine ⟨G.1, fun d => ?_, fun d => kQ 4 v (fun R R' hR kR => ?_) (G.2.2 d)⟩
  case refine_2 =>
    refine mop_x hR hv hw hr ta tb (fun r' w' mo g' => ?_)
    rcases mo with ⟨_, _, r1', ix', n1⟩ | ⟨_, ⟨e, ew, _⟩ | ⟨n165, _⟩⟩
    · exact absurd (no3 r1' ix') n1
    · rw [e, ew] at g' ⊢
      exact kR w hr g'
    · exact absurd (lqa.1.mp (Classical.not_not.mp d)) n165
  have d' : ¬ (w.1 165 a.toInt.toNat).toInt = 0 := fun e => d (lqa.1.mpr e)
  have la := lqa.2 d'
  have ref : ∀ (R R' : Int32 → MW → Prop), p_Mo_open w a b c R → (∀ r' w', MO5 v w a b c r' w' → R r' w' → R' r' w') → p_Mo_open w a b c R' := fun R R' hR k => mop_x hR hv hw hr ta tb (fun r' w' mo g' => by
    rcases mo with ⟨_, _, r1', ix', n1⟩ | ⟨_, ⟨_, _, e⟩ | ⟨_, m5⟩⟩
    · exact absurd (no3 r1' ix') n1
    · exact absurd e d'
    · exact k r' w' m5 g')
  refine cfd_x (G.2.1 d) (fz_v hv hw hr) (fun r5c v5 o5 fc alt g5 => ⟨fun e => ?_, fun e => kQ 5 v5 (fun R R' hR kR => ?_) (g5.2 e)⟩)
  case refine_2 =>
    have l0 : (v5.1 26 15).toInt ≤ 0 := by
      rcases alt with q | q
      · exact q.2
      · rw [q.1] at e
        exact absurd (by decide) e
    refine ref R R' hR (fun r' w' m5 g' => ?_)
    obtain ⟨z', w5', r5', bz', om', fm', q⟩ := m5
    rcases q with ⟨_, q2, q3⟩ | ⟨_, es, pm, _⟩
    · rw [q2, q3] at g' ⊢
      exact kR w5' (hr_5 hr o5 bz' om') g'
    · have f := fn_pa hr bz' P.1 fc pm
      have l1 := (paf z' w5' es bz' pm).1.1
      omega
  have l0 : 0 < (v5.1 26 15).toInt := by
    rcases alt with q | q
    · rw [q.1] at e
      exact absurd i_0 e
    · exact q.2
  have fnd : ∃ es, PaM z (NNd w) a.toInt b.toInt es w5 := by
    rcases fn_two hr bz P.1 fc fm with ⟨_, q⟩ | ⟨_, es, pm, _⟩
    · omega
    · exact ⟨es, pm⟩
  obtain ⟨es, pm⟩ := fnd
  have fp := fn_pa hr bz P.1 fc pm
  have pf := paf z w5 es bz pm
  have b48 : ∀ z' w5' es', BsZ w z' → PaM z' (NNd w) a.toInt b.toInt es' w5' → ∀ i, i < es'.length → enL es' i < 48 := fun z' w5' es' bz' pm' i hi => by
    have := ((paf z' w5' es' bz' pm').2.2.1 i hi).2.1
    omega
  have uni : ∀ z' w5' es', BsZ w z' → PaM z' (NNd w) a.toInt b.toInt es' w5' → es' = es := fun z' w5' es' bz' pm' => by
    have f := fn_pa hr bz' P.1 fc pm'
    exact es_u (by have := f.1; have := fp.1; omega) (b48 z w5 es bz pm) (b48 z' w5' es' bz' pm') fp.2 f.2
  obtain ⟨l, hL⟩ : ∃ l, w.1 166 a.toInt.toNat = l := ⟨_, rfl⟩
  rw [hL] at la
  have e5 : ∀ k j, ¬ k = 38 → ¬ k = 39 → ¬ k = 26 → v5.1 k j = v.1 k j := fun k j h1 h2 h3 => oF_1 o5 h1 h2 h3 j
  have l17 : v5.1 17 a.toInt.toNat = l := by
    rw [e5 17 _ (by decide) (by decide) (by decide)]
    exact la.1
  have t5 : tC v5 = tM w := by
    have q : tC v5 = tC v := by
      unfold tC
      rw [e5 8 0 (by decide) (by decide) (by decide)]
    rw [q]
    exact hr.1.1.1
  have mco : ∀ x, McO v5 x l ↔ McO v x l := fun x => McO_c (fun k j hk => e5 k j (fun e => by rw [e] at hk; cases hk) (fun e => by rw [e] at hk; cases hk) (fun e => by rw [e] at hk; cases hk)) x l
  have leaf6 : ¬ MyA v (tM w).toNat b l es → ∀ (R R' : Int32 → MW → Prop), p_Mo_open w a b c R → (∀ w', HRq (mx v5 w') → R 6 w' → R' 6 w') → p_Mo_open w a b c R' := fun nm R R' hR kR => ref R R' hR (fun r' w' m5 g' => by
    obtain ⟨z', w5', r5', bz', om', fm', q⟩ := m5
    rcases q with ⟨q1, _, _⟩ | ⟨_, es', pm', q⟩
    · rcases fn_two hr bz' P.1 fc fm' with ⟨_, y⟩ | ⟨y, _⟩
      · omega
      · rw [q1] at y
        exact absurd (congrArg Int32.toInt y) (by decide)
    · have ee := uni z' w5' es' bz' pm'
      rw [ee] at q
      rw [hL] at q
      rcases q with ⟨q1, q2, _⟩ | ⟨q1, _⟩
      · rw [q1, q2] at g' ⊢
        exact kR w5' (hr_5 hr o5 bz' om') g'
      · exact absurd q1 nm)
  have h39 : ∀ i, i < es.length → v5.1 39 i = nI (xo (enL es i)) ∧ enL es i < 48 := fun i hi => ⟨fp.2 i _ (enL_s hi), b48 z w5 es bz pm i hi⟩
  have b1 : 1 ≤ (v5.1 17 a.toInt.toNat).toInt := by rw [l17]; exact la.2.1
  have b2 : (v5.1 17 a.toInt.toNat).toInt ≤ 14 := by rw [l17]; exact la.2.2
  have b19 : ∀ x : Nat, 0 ≤ (v5.1 19 x).toInt ∧ (v5.1 19 x).toInt ≤ 14 := fun x => by
    rw [e5 19 x (by decide) (by decide) (by decide)]
    exact bd_19 hv x
  refine co_45 (n := es.length) (en := enL es) fp.1.symm pf.1.2 h39 (by rw [t5]; exact T) b1 b2 b19 (fun all g13 => ?_) (fun ex g13 => kQ 6 v5 (leaf6 (fun my => ?_)) g13) _ _ (g5.1 e) (by decide) (fun j hj => by rw [i_0] at hj; omega)
  case refine_2 =>
    obtain ⟨i, hi, ni⟩ := ex
    rw [t5, l17, mco] at ni
    exact ni (my.2 i hi)
  have allM : ∀ i, i < es.length → McO v ((tM w).toNat + enL es i / 2) l := fun i hi => by
    have q := all i hi
    rw [t5, l17, mco] at q
    exact q
  refine ⟨g13.1, mc_x g13.2 b1 b2 (b19 _) (fun r15 h15 g15 => ⟨fun e15 => ?_, fun e15 => kQ 6 v5 (leaf6 (fun my => ?_)) (g15.2 e15)⟩)⟩
  case refine_2 =>
    rw [l17, mco] at h15
    rcases h15 with q | q
    · rw [q.1] at e15
      exact absurd (by decide) e15
    · exact q.2 my.1
  have my : MyA v (tM w).toNat b l es := by
    rw [l17, mco] at h15
    refine ⟨?_, allM⟩
    rcases h15 with q | q
    · exact q.2
    · rw [q.1] at e15
      exact absurd i_0 e15
  have G15 := g15.1 e15
  have pa := pa_u hr bz pf
  have xb : ∀ i, i < es.length → ((xo (enL es i) : Nat) : Int) < 2 * pM w := fun i hi => by
    have q := (pf.2.2.1 i hi).2.1
    have := xo_lt (e := enL es i) (N := (pM w).toNat) (by omega)
    omega
  have h13 : ∀ i, i + 1 < es.length → (v.1 13 (xo (enL es i))).toInt = ((atM w (enL es (i + 1))).toNat : Int) := fun i hi => by
    obtain ⟨m, al⟩ := pa.2.2.2.1 i hi
    have a0 : 0 ≤ atM w (xo (enL es i)) := al.1
    have a1 : atM w (enL es (i + 1)) = atM w (xo (enL es i)) := al.2.1
    have q : (v.1 13 (xo (enL es i))).toInt = atM w (xo (enL es i)) := (hr.1.1.2.2.2 (xo (enL es i)) (xb i (by omega))).1
    omega
  have it : ∀ i j, i + 1 < es.length → j + 1 < es.length → (atM w (enL es (i + 1))).toNat = (atM w (enL es (j + 1))).toNat → i = j := fun i j hi hj q => by
    obtain ⟨m, al⟩ := pa.2.2.2.1 i hi
    obtain ⟨m', al'⟩ := pa.2.2.2.1 j hj
    have a0 : 0 ≤ atM w (xo (enL es i)) := al.1
    have a1 : atM w (enL es (i + 1)) = atM w (xo (enL es i)) := al.2.1
    have a0' : 0 ≤ atM w (xo (enL es j)) := al'.1
    have a1' : atM w (enL es (j + 1)) = atM w (xo (enL es j)) := al'.2.1
    exact pf.2.2.2.2.2.2.2.1 i j hi hj (by omega)
  have H : OfH v5 es.length (enL es) (fun i => (atM w (enL es (i + 1))).toNat) := ⟨fp.1.symm, pf.1, h39, fun i hi => by
    rw [e5 13 _ (by decide) (by decide) (by decide)]
    exact h13 i hi, pf.2.2.2.2.2.2.1, it, fun t => by rw [e5 9 t (by decide) (by decide) (by decide)]; exact bd_9 hv t, fun y => by rw [e5 14 y (by decide) (by decide) (by decide)]; exact bd_14 hv y⟩
  rw [p_Wa_openFound.eq_1] at G15 ⊢
  refine ⟨G15.1, of_12 H (fun v28 of g28 => ?_) _ _ 0 _ G15.2 i_0 (by omega) ⟨rfl, fun _ _ _ => rfl, fun j hj => absurd hj (Nat.not_lt_zero j), fun q _ => ⟨rfl, rfl, rfl⟩, fun j hj => absurd hj (Nat.not_lt_zero j), fun t _ => ⟨rfl, rfl, rfl⟩⟩⟩
  have e26 : v28.1 26 1 = w.1 127 26 := by
    rw [of.2.1 26 1 rfl, o5.2.2 1 (by decide), v26]
  have W24 : (w.1 127 26).toInt < 24 := by
    rw [← e26]
    exact g28.1.2
  have eW : (v28.1 26 1).toInt.toNat = (w.1 127 26).toInt.toNat := by rw [e26]
  have key : ∀ v17, OcF v v17 (w.1 127 26).toInt.toNat es.length (enL es) (fun i => (atM w (enL es (i + 1))).toNat) a b c l → p_Sf_isSafe v17 (fun r18 w18 => ((r18.toInt = 0 → (p_Wa_undoOpening w18 (fun w20 => (Q 7 w20)))) ∧ (¬ (r18.toInt = 0) → (Q 0 w18)))) → p_Sf_isSafe v17 (fun r18 w18 => ((r18.toInt = 0 → (p_Wa_undoOpening w18 (fun w20 => (Q' 7 w20)))) ∧ (¬ (r18.toInt = 0) → (Q' 0 w18)))) := fun v17 oc g17 => by
    obtain ⟨_, hq, b16⟩ := op_row (y := poW w5) hv hw hr ta tb ab hc la.2 bz om pf my W24 oc (fun k j _ _ h3 => if_neg h3) (fun t _ => rfl) (rw_w (poW w5) (w.1 127 26).toInt.toNat es.length a b c l)
    have pc : Ag lPc v v17 := fun k j hk => oc.1 k j (lo_lt (l := lPc) rfl hk) (off_hit (l := lOw) (d := lPc) rfl hk)
    have tq : tM (mx v17 (rwW (poW w5) (w.1 127 26).toInt.toNat es.length a b c l)) = tM w := by
      have q : tC v17 = tC v := by
        unfold tC
        rw [pc 8 0 rfl]
      have q1 : tC v17 = tM (mx v17 (rwW (poW w5) (w.1 127 26).toInt.toNat es.length a b c l)) := hq.1.1.1
      have q2 : tC v = tM w := hr.1.1.1
      rw [← q1, q, q2]
    have pq : pM (mx v17 (rwW (poW w5) (w.1 127 26).toInt.toNat es.length a b c l)) = pM w := by
      have q : pC v17 = pC v := by
        unfold pC
        rw [pc 8 1 rfl]
      have q1 : pC v17 = pM (mx v17 (rwW (poW w5) (w.1 127 26).toInt.toNat es.length a b c l)) := hq.1.1.2.1
      have q2 : pC v = pM w := hr.1.1.2.1
      rw [← q1, q, q2]
    have ms : MSy v17 := MSy_g (fun j => oc.1 22 j (by decide) rfl) (MSy_g (fun j => (mx_c v w (by decide) j).symm) hr.2.1.2.1)
    have h28 : ∀ k : Nat, k < 24 → 0 ≤ (v17.1 28 k).toInt ∧ (v17.1 28 k).toInt < 20 := fun k _ => by
      by_cases q : k = (w.1 127 26).toInt.toNat
      · rw [q, oc.2.2.2.2.1.2.1]
        omega
      · rw [oc.2.2.2.1 28 k rfl q]
        have := bd_28 hv k
        omega
    refine sc_y g17 ms (PX_d pc (PX_d (mx_ac v w rfl) hr.1.2.1)) (PY_c pc (PY_c (mx_ac v w rfl) hr.1.2.2.1)) (PB_p pc b16 (PB_b hv)) h28 (fun l' y _ s => sC_t (by rw [tq]; exact T) (by rw [pq]; exact P) hq.1 hq.2.2.2 (l := l') ((srC_s (fun c' j hc' => ?_) l' y).mpr s)) (fun r18 v18 sc os g18 => ?_)
    case refine_1 =>
      unfold sS at hc'
      simp only [Bool.or_eq_true, beq_iff_eq] at hc'
      exact mx_c _ _ (by omega) j
    have fin : ∀ r' w', MO5 v w a b c r' w' → (r18 = 1 ∧ r' = 0 ∧ HRq (mx v18 w')) ∨ (r18 = 0 ∧ r' = 7 ∧ (∀ k j, hit lUn k j = false → w'.1 k j = w.1 k j) ∧ ∀ t : Nat, (t : Int) < tM w → w'.1 167 t = w.1 167 t) := fun r' w' m5 => by
      obtain ⟨z', w5', r5', bz', om', fm', q⟩ := m5
      rcases q with ⟨q1, _, _⟩ | ⟨_, es', pm', q⟩
      · rcases fn_two hr bz' P.1 fc fm' with ⟨_, y⟩ | ⟨y, _⟩
        · omega
        · rw [q1] at y
          exact absurd (congrArg Int32.toInt y) (by decide)
      · have ee := uni z' w5' es' bz' pm'
        rw [ee] at q pm'
        rw [hL] at q
        rcases q with ⟨_, _, q3⟩ | ⟨_, q2⟩
        · exact absurd my q3
        · exact op_core hv hw hr ta tb ab hc la.2 bz' om' (paf z' w5' es bz' pm') my W24 oc sc os q2
    refine ⟨fun e18 => ?_, fun e18 => kQ 0 v18 (fun R R' hR kR => ref R R' hR (fun r' w' m5 g' => ?_)) (g18.2 e18)⟩
    case refine_2 =>
      rcases fin r' w' m5 with ⟨_, f2, f3⟩ | ⟨f1, _⟩
      · rw [f2] at g' ⊢
        exact kR w' f3 g'
      · rw [f1] at e18
        exact absurd i_0 e18
    have G18 := g18.1 e18
    have rm := oc_rm pf.1 (b48 z w5 es bz pm) h13 pf.2.2.2.2.2.2.1 it oc os
    have x26 : v18.1 26 1 = w.1 127 26 + (1 : Int32) := by
      rw [os.1 26 1 (by decide) (by decide), oc.2.2.1, v26]
    have y26 : (v18.1 26 1).toInt = (w.1 127 26).toInt + 1 := by
      rw [x26]
      exact ti_add2 rfl i_1 (by omega) (by omega)
    have k26 : ((v18.1 26 1) - (1 : Int32)).toInt = (w.1 127 26).toInt := by
      have q := ti_sub2 y26 i_1 (by omega) (by omega)
      omega
    have kn : ((v18.1 26 1) - (1 : Int32)).toInt.toNat = (w.1 127 26).toInt.toNat := by rw [k26]
    rw [p_Wa_undoOpening.eq_1] at G18 ⊢
    refine rm_x (n := es.length) (pp := fun i => enL es i / 2) (tt := fun i => (atM w (enL es (i + 1))).toNat) G18 (by rw [kn]; exact rm) pf.1.1 (by omega) (by omega) (by omega) (fun v20 rc g20 => kQ 7 v20 (fun R R' hR kR => ref R R' hR (fun r' w' m5 g' => ?_)) g20)
    rw [kn] at rc
    rcases fin r' w' m5 with ⟨f1, _⟩ | ⟨_, f2, f3, f4⟩
    · rw [f1] at e18
      exact absurd e18 (by decide)
    · rw [f2] at g' ⊢
      exact kR w' (op_undo hv hw hr (by omega) pa oc os rc f3 f4) g'
  exact ⟨g28.1, g28.2.1, g28.2.2.1, g28.2.2.2.1, g28.2.2.2.2.1, g28.2.2.2.2.2.1, g28.2.2.2.2.2.2.1, g28.2.2.2.2.2.2.2.1, g28.2.2.2.2.2.2.2.2.1, key _ (oc_f o5 H of eW la.1) g28.2.2.2.2.2.2.2.2.2⟩
