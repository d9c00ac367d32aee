/-! way and space: the pairs -/
theorem gt_79 {v : MW} {b : Int32} {n : Nat} {f : Nat → Nat} {E E' Q Q' : Int32 → MW → Prop} (f24 : ∀ i, i < n → f i < 24) (nx : ∀ i, i + 1 < n → v.1 35 (f i) = nI (f (i + 1))) (b0 : 3 ≤ b.toInt) (b1 : b.toInt < 3 + n) (n24 : n ≤ 24) (kE : E (nI (f (b.toInt - 3).toNat)) v → E' (nI (f (b.toInt - 3).toNat)) v) : ∀ (m : Nat) (p x : Int32), q_Wa_get_79 b E Q m p x v → 3 ≤ x.toInt → x.toInt ≤ b.toInt → p = nI (f (x.toInt - 3).toNat) → q_Wa_get_79 b E' Q' m p x v := by
  intro m
  induction m with
  | zero => exact fun _ _ h _ _ _ => False.elim h
  | succ m ih =>
    intro p x h x0 x1 ep
    rw [q_Wa_get_79.eq_2] at h ⊢
    have fx := f24 (x.toInt - 3).toNat (by omega)
    have pt : p.toInt = f (x.toInt - 3).toNat := by
      rw [ep]
      exact nI_toInt (by omega)
    refine ⟨fun c => ?_, fun c => ⟨fun d => by omega, fun d => ?_⟩⟩
    · have e : x.toInt = b.toInt := by omega
      have H := h.1 c
      rw [ep, e] at H ⊢
      exact kE H
    · have H := (h.2 c).2 d
      have ex := ti_add2 (Eq.refl x.toInt) i_1 (by omega) (by omega)
      refine ⟨H.1, ih _ _ H.2 (by omega) (by omega) ?_⟩
      rw [show p.toInt.toNat = f (x.toInt - 3).toNat by omega, nx _ (by omega)]
      congr 2
      omega
theorem i32_e {x y : Int32} (h : x.toInt = y.toInt) : x = y := Int32.toInt_inj.mp h
/-- the reference tells nothing of a way -/
theorem wa_neg {w : MW} {a b : Int32} {R R' : Int32 → MW → Prop} (l24 : ∀ k : Nat, (k : Int) < (w.1 127 26).toInt → 1 ≤ (w.1 185 k).toInt ∧ (w.1 185 k).toInt ≤ 24) (q : a.toInt < 0 ∨ (w.1 127 26).toInt ≤ a.toInt ∨ b.toInt < 0 ∨ (0 ≤ a.toInt ∧ a.toInt < (w.1 127 26).toInt ∧ 3 + (w.1 185 a.toInt.toNat).toInt ≤ b.toInt)) (hR : p_Mo_way w a b R) (kR : R (-1) w → R' (-1) w) : p_Mo_way w a b R' := by
  rw [p_Mo_way.eq_1] at hR ⊢
  refine ⟨fun c => kR (hR.1 c), fun c => ⟨fun d => kR ((hR.2 c).1 d), fun d => ⟨fun e => kR (((hR.2 c).2 d).1 e), fun e => ?_⟩⟩⟩
  have H := ((hR.2 c).2 d).2 e
  clear hR
  have l := l24 a.toInt.toNat (by omega)
  have e2 := ti_add2 (by decide : ((2 : Int32)).toInt = 2) (Eq.refl (w.1 185 a.toInt.toNat).toInt) (by omega) (by omega)
  refine ⟨H.1, fun f => ?_, fun f => kR (H.2.2 f)⟩
  exfalso
  clear H
  rcases q with q | q | q | q
  · omega
  · omega
  · omega
  · have := q.2.2
    omega
/-- the reference tells of a way -/
theorem wa_pos {w : MW} {a b r : Int32} {R R' : Int32 → MW → Prop} (a0 : 0 ≤ a.toInt) (a1 : a.toInt < (w.1 127 26).toInt) (a2 : a.toInt < 24) (b0 : 0 ≤ b.toInt) (l24 : (w.1 185 a.toInt.toNat).toInt ≤ 24) (l0 : 1 ≤ (w.1 185 a.toInt.toNat).toInt) (q : b.toInt < 3 + (w.1 185 a.toInt.toNat).toInt) (b186 : ∀ j, 0 ≤ (w.1 186 j).toInt) (r0 : b.toInt = 0 → r = w.1 181 a.toInt.toNat) (r1 : b.toInt = 1 → r = w.1 182 a.toInt.toNat) (r2 : b.toInt = 2 → r = w.1 185 a.toInt.toNat) (r3 : 3 ≤ b.toInt → r.toInt = (w.1 186 (24 * a.toInt.toNat + (b.toInt - 3).toNat)).toInt / 2) (hR : p_Mo_way w a b R) (kR : R r w → R' r w) : p_Mo_way w a b R' := by
  rw [p_Mo_way.eq_1] at hR ⊢
  have e2 := ti_add2 (by decide : ((2 : Int32)).toInt = 2) (Eq.refl (w.1 185 a.toInt.toNat).toInt) (by omega) (by omega)
  have m1 := ti_mul2 (by decide : ((24 : Int32)).toInt = 24) (Eq.refl a.toInt) (by omega) (by omega)
  have m2 := ti_add2 m1 (Eq.refl b.toInt) (by omega) (by omega)
  have m3 := ti_sub2 m2 (by decide : ((3 : Int32)).toInt = 3) (by omega) (by omega)
  have n1 : ¬ a.toInt < 0 := by omega
  have n2 : ¬ (w.1 127 26).toInt ≤ a.toInt := by omega
  have n3 : ¬ b.toInt < 0 := by omega
  have n4 : b.toInt ≤ ((2 : Int32) + (w.1 185 a.toInt.toNat)).toInt := by omega
  have G := ((hR.2 n1).2 n2).2 n3
  clear hR
  refine ⟨fun c' => absurd c' n1, fun _ => ⟨fun d' => absurd d' n2, fun _ => ⟨fun e' => absurd e' n3, fun _ => ⟨G.1, fun f => ⟨fun g0 => ⟨fun g1 => ⟨fun g2 => ?_, fun g2 => ?_⟩, fun g1 => ?_⟩, fun g0 => ?_⟩, fun f => absurd n4 f⟩⟩⟩⟩
  · have K := ((((G.2.1 f).1 g0).1 g1).1 g2)
    clear G
    have m4 : ((((24 : Int32) * a) + b) - (3 : Int32)).toInt.toNat = 24 * a.toInt.toNat + (b.toInt - 3).toNat := by omega
    rw [m4] at K ⊢
    have d2 : ((w.1 186 (24 * a.toInt.toNat + (b.toInt - 3).toNat)) / (2 : Int32)).toInt = (w.1 186 (24 * a.toInt.toNat + (b.toInt - 3).toNat)).toInt / 2 := nb_div (b186 _) (by decide) (by decide)
    have er : r = (w.1 186 (24 * a.toInt.toNat + (b.toInt - 3).toNat)) / (2 : Int32) := i32_e (by rw [d2]; exact r3 (by omega))
    rw [er] at kR
    exact ⟨K.1, kR K.2⟩
  · have K := ((((G.2.1 f).1 g0).1 g1).2 g2)
    rw [r2 (Classical.not_not.mp g2)] at kR
    exact ⟨K.1, kR K.2⟩
  · have K := (((G.2.1 f).1 g0).2 g1)
    rw [r1 (Classical.not_not.mp g1)] at kR
    exact ⟨K.1, kR K.2⟩
  · have K := ((G.2.1 f).2 g0)
    rw [r0 (Classical.not_not.mp g0)] at kR
    exact ⟨K.1, kR K.2⟩
/-- the class tells of a way -/
theorem wc_x {v : MW} {a b : Int32} {n : Nat} {f : Nat → Nat} {Q Q' : Int32 → MW → Prop} (h : p_Bh_way v a b Q) (hn : 0 ≤ a.toInt → a.toInt < (v.1 26 1).toInt → (v.1 31 a.toInt.toNat).toInt = n ∧ n ≤ 24 ∧ 1 ≤ n ∧ (∀ i, i < n → f i < 24) ∧ (∀ i, i + 1 < n → v.1 35 (f i) = nI (f (i + 1))) ∧ v.1 32 a.toInt.toNat = nI (f 0)) (k0 : (a.toInt < 0 ∨ (v.1 26 1).toInt ≤ a.toInt ∨ b.toInt < 0 ∨ (0 ≤ a.toInt ∧ a.toInt < (v.1 26 1).toInt ∧ 3 + (v.1 31 a.toInt.toNat).toInt ≤ b.toInt)) → Q (-1) v → Q' (-1) v) (k1 : 0 ≤ a.toInt → a.toInt < (v.1 26 1).toInt → a.toInt < 24 → 0 ≤ b.toInt → b.toInt < 3 + (v.1 31 a.toInt.toNat).toInt → ∀ r, (b.toInt = 0 → r = v.1 27 a.toInt.toNat) → (b.toInt = 1 → r = v.1 28 a.toInt.toNat) → (b.toInt = 2 → r = v.1 31 a.toInt.toNat) → (3 ≤ b.toInt → r = nI (f (b.toInt - 3).toNat)) → Q r v → Q' r v) : p_Bh_way v a b Q' := by
  rw [p_Bh_way.eq_1, p_Wa_get.eq_1] at h ⊢
  refine ⟨fun c => k0 (Or.inl c) (h.1 c), fun c => ⟨fun d => k0 (Or.inr (Or.inl d)) ((h.2 c).1 d), fun d => ⟨fun e => k0 (Or.inr (Or.inr (Or.inl e))) (((h.2 c).2 d).1 e), fun e => ?_⟩⟩⟩
  have H := ((h.2 c).2 d).2 e
  clear h
  have a0 : 0 ≤ a.toInt := by omega
  have a1 : a.toInt < (v.1 26 1).toInt := by omega
  have b0 : 0 ≤ b.toInt := by omega
  obtain ⟨e31, n24, n1, f24, nx, e32⟩ := hn a0 a1
  have a2 := H.1.2
  have e3 := ti_add2 (by decide : ((3 : Int32)).toInt = 3) e31 (by omega) (by omega)
  have K := k1 a0 a1 a2 b0
  refine ⟨H.1, fun g => ?_, fun g => k0 (Or.inr (Or.inr (Or.inr ⟨a0, a1, by omega⟩))) (H.2.2 g)⟩
  have K2 := K (by omega)
  refine ⟨fun g3 => ⟨((H.2.1 g).1 g3).1, ?_⟩, fun g3 => ⟨fun g0 => ⟨fun g1 => ?_, fun g1 => ?_⟩, fun g0 => ?_⟩⟩
  · have G := ((H.2.1 g).1 g3).2
    clear H
    refine gt_79 (n := n) (f := f) f24 nx g3 (by omega) n24 (fun g2 => K2 _ (fun z => by omega) (fun z => by omega) (fun z => by omega) (fun _ => rfl) g2) _ _ _ G (by decide) (by rw [show ((3 : Int32)).toInt = 3 by decide]; exact g3) ?_
    rw [show ((3 : Int32)).toInt = 3 by decide]
    exact e32
  · have G := ((H.2.1 g).2 g3).1 g0
    clear H
    exact ⟨(G.1 g1).1, K2 _ (fun z => absurd z g0) (fun z => absurd z g1) (fun _ => rfl) (fun z => absurd z g3) (G.1 g1).2⟩
  · have G := ((H.2.1 g).2 g3).1 g0
    clear H
    have z1 := Classical.not_not.mp g1
    exact ⟨(G.2 g1).1, K2 _ (fun z => absurd z g0) (fun _ => rfl) (fun z => by omega) (fun z => absurd z g3) (G.2 g1).2⟩
  · have G := ((H.2.1 g).2 g3).2 g0
    clear H
    have z1 := Classical.not_not.mp g0
    exact ⟨G.1, K2 _ (fun _ => rfl) (fun z => by omega) (fun z => by omega) (fun z => absurd z g3) G.2⟩
theorem wa_pair {v w : MW} {a b : Int32} {Q Q' : Int32 → MW → Prop} (hw : BND w) (hr : HRq (mx v w)) (h : p_Bh_way v a b Q) (kQ : ∀ r, (∀ R R' : Int32 → MW → Prop, p_Mo_way w a b R → (R r w → R' r w) → p_Mo_way w a b R') → Q r v → Q' r v) : p_Bh_way v a b Q' := by
  have P := hb_P hw
  have hy := hr.2.2.2
  have nz := w_n hy.1
  rw [mx_m _ _ (by decide)] at nz
  have v26 : v.1 26 1 = w.1 127 26 := hy.1.1
  have al : ∀ k : Nat, (k : Int) < (w.1 127 26).toInt → 1 ≤ (w.1 185 k).toInt ∧ (w.1 185 k).toInt ≤ 24 := fun k hk => by
    have l := (hy.1.2.2.2 k (by omega)).2.1
    rw [mx_m _ _ (by decide)] at l
    exact l
  have e31 : ∀ k : Nat, (k : Int) < (w.1 127 26).toInt → v.1 31 k = w.1 185 k := fun k hk => (hy.1.2.2.2 k (by omega)).1.2.2.2.2
  have lt : ∀ k i, k < nwy (mx v w) → i < wln (mx v w) k → ent (mx v w) k i / 2 < 24 := fun k i hk hi => by
    have q := (w_e hy.2.1 hk hi).2
    have pe : pM (mx v w) = pM w := rfl
    omega
  refine wc_x (n := wln (mx v w) a.toInt.toNat) (f := fun i => ent (mx v w) a.toInt.toNat i / 2) h (fun a0 a1 => ?_) (fun q g => kQ _ (fun R R' hR kR => wa_neg al ?_ hR kR) g) (fun a0 a1 a2 b0 q r r0 r1 r2 r3 g => kQ r (fun R R' hR kR => ?_) g)
  · rw [v26] at a1
    have kn : a.toInt.toNat < nwy (mx v w) := by omega
    have B := hy.2.1 a.toInt.toNat kn
    have wl := w_l hy.1 kn
    rw [mx_m _ _ (by decide)] at wl
    refine ⟨by rw [e31 _ (by omega)]; exact wl.1.symm, wl.2.2, wl.2.1, fun i hi => lt _ i kn hi, fun i hi => ?_, B.2.1⟩
    have q := (B.1 i (by omega)).2.2
    rw [if_pos hi] at q
    exact q
  · rw [v26] at q
    rcases q with q | q | q | q
    · exact Or.inl q
    · exact Or.inr (Or.inl q)
    · exact Or.inr (Or.inr (Or.inl q))
    · rw [e31 _ (by omega)] at q
      exact Or.inr (Or.inr (Or.inr q))
  · rw [v26] at a1
    have ek : ((a.toInt.toNat : Nat) : Int) < (w.1 127 26).toInt := by omega
    have kn : a.toInt.toNat < nwy (mx v w) := by omega
    rw [e31 _ ek] at q r2
    have A := (hy.1.2.2.2 a.toInt.toNat kn).1
    have e27 : v.1 27 a.toInt.toNat = w.1 181 a.toInt.toNat := A.1
    have e28 : v.1 28 a.toInt.toNat = w.1 182 a.toInt.toNat := A.2.1
    rw [e27] at r0
    rw [e28] at r1
    have l := al _ ek
    refine wa_pos a0 a1 a2 b0 l.2 l.1 q (fun j => (m_186 hw j).1) r0 r1 r2 (fun b3 => ?_) hR kR
    have wl := (w_l hy.1 kn).1
    rw [mx_m _ _ (by decide)] at wl
    have hi : (b.toInt - 3).toNat < wln (mx v w) a.toInt.toNat := by omega
    have en := (w_e hy.2.1 kn hi).1
    rw [mx_m _ _ (by decide)] at en
    have q2 := lt _ _ kn hi
    rw [r3 b3, nI_toInt (by omega)]
    omega
/-- litres in a space -/
theorem lt_19 {w : MW} {x : Int32} {p : Nat} {E E' Q Q' : Int32 → MW → Prop} (T : 0 ≤ tM w ∧ tM w ≤ 20) (xp : x.toInt = tM w + p) (p24 : p < 24) (s200 : (w.1 169 p).toInt ≤ 200) (kE : ∀ r : Int32, r.toInt = ctb (fun k => decide (¬ w.1 172 (200 * p + k) = 0)) (w.1 169 p).toInt.toNat → E r w → E' r w) : ∀ (m : Nat) (s i : Int32), q_Mo_litresIn_19 x E Q m s i w → 0 ≤ i.toInt → (i.toInt ≤ (w.1 169 p).toInt ∨ i.toInt = 0) → s.toInt = ctb (fun k => decide (¬ w.1 172 (200 * p + k) = 0)) i.toInt.toNat → q_Mo_litresIn_19 x E' Q' m s i w := by
  intro m
  induction m with
  | zero => exact fun _ _ h _ _ _ => False.elim h
  | succ m ih =>
    intro s i h i0 i1 es
    have ex : (x - (w.1 127 4)).toInt = p := by
      rw [ti_sub2 rfl rfl (by unfold tM at *; omega) (by unfold tM at *; omega)]
      unfold tM at xp
      omega
    have en : (x - (w.1 127 4)).toInt.toNat = p := by omega
    rw [q_Mo_litresIn_19.eq_2, en] at h ⊢
    refine ⟨h.1, fun c => ?_, fun c => ?_⟩
    · refine kE s ?_ (h.2.1 c)
      rcases i1 with i1 | i1
      · rw [es, show i.toInt.toNat = (w.1 169 p).toInt.toNat by omega]
      · rw [es, show i.toInt.toNat = (w.1 169 p).toInt.toNat by omega]
    · have H := h.2.2 c
      have ei := ti_add2 (Eq.refl i.toInt) i_1 (by omega) (by omega)
      have m1 := ti_mul2 (by decide : ((200 : Int32)).toInt = 200) ex (by omega) (by omega)
      have m2 := ti_add2 m1 (Eq.refl i.toInt) (by omega) (by omega)
      have m3 : (((200 : Int32) * (x - (w.1 127 4))) + i).toInt.toNat = 200 * p + i.toInt.toNat := by omega
      have ln := ctb_n (fun k => decide (¬ w.1 172 (200 * p + k) = 0)) i.toInt.toNat
      have st := ctb_s (fun k => decide (¬ w.1 172 (200 * p + k) = 0)) i.toInt.toNat
      rw [m3] at H ⊢
      refine ⟨H.1, fun d => ih _ _ (H.2.1 d) (by omega) (Or.inl (by omega)) ?_, fun d => ih _ _ (H.2.2 d) (by omega) (Or.inl (by omega)) ?_⟩
      · have nd : decide (¬ w.1 172 (200 * p + i.toInt.toNat) = 0) = true := decide_eq_true (show ¬ w.1 172 (200 * p + i.toInt.toNat) = 0 from fun z => d (by rw [z]; exact i_0))
        rw [show (i + (1 : Int32)).toInt.toNat = i.toInt.toNat + 1 by omega, st, if_pos nd, ti_add2 es i_1 (by omega) (by omega)]
        omega
      · have nd : ¬ (decide (¬ w.1 172 (200 * p + i.toInt.toNat) = 0) = true) := fun z => (of_decide_eq_true z) (i32_z (Classical.not_not.mp d))
        rw [show (i + (1 : Int32)).toInt.toNat = i.toInt.toNat + 1 by omega, st, if_neg nd, ti_add2 es i_0 (by omega) (by omega)]
        omega
