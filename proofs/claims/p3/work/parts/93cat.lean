/-! way and space: the pairs -/
theorem gt_79 {v : MW} {b : Int32} {n : Nat} {f : Nat → Nat} {E E' Q Q' : Int32 → MW → Prop} (f24 : ∀ i, i < n → f i < 24) (nx : ∀ i, i + 1 < n → v.1 35 (f i) = nI (f (i + 1))) (b0 : 3 ≤ b.toInt) (b1 : b.toInt < 3 + n) (n24 : n ≤ 24) (kE : E (nI (f (b.toInt - 3).toNat)) v → E' (nI (f (b.toInt - 3).toNat)) v) : ∀ (m : Nat) (p x : Int32), q_Wa_get_79 b E Q m p x v → 3 ≤ x.toInt → x.toInt ≤ b.toInt → p = nI (f (x.toInt - 3).toNat) → q_Wa_get_79 b E' Q' m p x v := by
  intro m
  induction m with
  | zero => exact fun _ _ h _ _ _ => False.elim h
  | succ m ih =>
    intro p x h x0 x1 ep
    rw [q_Wa_get_79.eq_2] at h ⊢
    have fx := f24 (x.toInt - 3).toNat (by omega)
    have pt : p.toInt = f (x.toInt - 3).toNat := by
      rw [ep]
      exact nI_toInt (by omega)
    refine ⟨fun c => ?_, fun c => ⟨fun d => by omega, fun d => ?_⟩⟩
    · have e : x.toInt = b.toInt := by omega
      have H := h.1 c
      rw [ep, e] at H ⊢
      exact kE H
    · have H := (h.2 c).2 d
      have ex := ti_add2 (Eq.refl x.toInt) i_1 (by omega) (by omega)
      refine ⟨H.1, ih _ _ H.2 (by omega) (by omega) ?_⟩
      rw [show p.toInt.toNat = f (x.toInt - 3).toNat by omega, nx _ (by omega)]
      congr 2
      omega
theorem i32_e {x y : Int32} (h : x.toInt = y.toInt) : x = y := Int32.toInt_inj.mp h
/-- the reference tells nothing of a way -/
theorem wa_neg {w : MW} {a b : Int32} {R R' : Int32 → MW → Prop} (l24 : ∀ k : Nat, (k : Int) < (w.1 127 26).toInt → 1 ≤ (w.1 185 k).toInt ∧ (w.1 185 k).toInt ≤ 24) (q : a.toInt < 0 ∨ (w.1 127 26).toInt ≤ a.toInt ∨ b.toInt < 0 ∨ (0 ≤ a.toInt ∧ a.toInt < (w.1 127 26).toInt ∧ 3 + (w.1 185 a.toInt.toNat).toInt ≤ b.toInt)) (hR : p_Mo_way w a b R) (kR : R (-1) w → R' (-1) w) : p_Mo_way w a b R' := by
  rw [p_Mo_way.eq_1] at hR ⊢
  refine ⟨fun c => kR (hR.1 c), fun c => ⟨fun d => kR ((hR.2 c).1 d), fun d => ⟨fun e => kR (((hR.2 c).2 d).1 e), fun e => ?_⟩⟩⟩
  have H := ((hR.2 c).2 d).2 e
  clear hR
  have l := l24 a.toInt.toNat (by omega)
  have e2 := ti_add2 (by decide : ((2 : Int32)).toInt = 2) (Eq.refl (w.1 185 a.toInt.toNat).toInt) (by omega) (by omega)
  refine ⟨H.1, fun f => ?_, fun f => kR (H.2.2 f)⟩
  exfalso
  clear H
  rcases q with q | q | q | q
  · omega
  · omega
  · omega
  · have := q.2.2
    omega
/-- the reference tells of a way -/
theorem wa_pos {w : MW} {a b r : Int32} {R R' : Int32 → MW → Prop} (a0 : 0 ≤ a.toInt) (a1 : a.toInt < (w.1 127 26).toInt) (a2 : a.toInt < 24) (b0 : 0 ≤ b.toInt) (l24 : (w.1 185 a.toInt.toNat).toInt ≤ 24) (l0 : 1 ≤ (w.1 185 a.toInt.toNat).toInt) (q : b.toInt < 3 + (w.1 185 a.toInt.toNat).toInt) (b186 : ∀ j, 0 ≤ (w.1 186 j).toInt) (r0 : b.toInt = 0 → r = w.1 181 a.toInt.toNat) (r1 : b.toInt = 1 → r = w.1 182 a.toInt.toNat) (r2 : b.toInt = 2 → r = w.1 185 a.toInt.toNat) (r3 : 3 ≤ b.toInt → r.toInt = (w.1 186 (24 * a.toInt.toNat + (b.toInt - 3).toNat)).toInt / 2) (hR : p_Mo_way w a b R) (kR : R r w → R' r w) : p_Mo_way w a b R' := by
  rw [p_Mo_way.eq_1] at hR ⊢
  have e2 := ti_add2 (by decide : ((2 : Int32)).toInt = 2) (Eq.refl (w.1 185 a.toInt.toNat).toInt) (by omega) (by omega)
  have m1 := ti_mul2 (by decide : ((24 : Int32)).toInt = 24) (Eq.refl a.toInt) (by omega) (by omega)
  have m2 := ti_add2 m1 (Eq.refl b.toInt) (by omega) (by omega)
  have m3 := ti_sub2 m2 (by decide : ((3 : Int32)).toInt = 3) (by omega) (by omega)
  have n1 : ¬ a.toInt < 0 := by omega
  have n2 : ¬ (w.1 127 26).toInt ≤ a.toInt := by omega
  have n3 : ¬ b.toInt < 0 := by omega
  have n4 : b.toInt ≤ ((2 : Int32) + (w.1 185 a.toInt.toNat)).toInt := by omega
  have G := ((hR.2 n1).2 n2).2 n3
  clear hR
  refine ⟨fun c' => absurd c' n1, fun _ => ⟨fun d' => absurd d' n2, fun _ => ⟨fun e' => absurd e' n3, fun _ => ⟨G.1, fun f => ⟨fun g0 => ⟨fun g1 => ⟨fun g2 => ?_, fun g2 => ?_⟩, fun g1 => ?_⟩, fun g0 => ?_⟩, fun f => absurd n4 f⟩⟩⟩⟩
  · have K := ((((G.2.1 f).1 g0).1 g1).1 g2)
    clear G
    have m4 : ((((24 : Int32) * a) + b) - (3 : Int32)).toInt.toNat = 24 * a.toInt.toNat + (b.toInt - 3).toNat := by omega
    rw [m4] at K ⊢
    have d2 : ((w.1 186 (24 * a.toInt.toNat + (b.toInt - 3).toNat)) / (2 : Int32)).toInt = (w.1 186 (24 * a.toInt.toNat + (b.toInt - 3).toNat)).toInt / 2 := nb_div (b186 _) (by decide) (by decide)
    have er : r = (w.1 186 (24 * a.toInt.toNat + (b.toInt - 3).toNat)) / (2 : Int32) := i32_e (by rw [d2]; exact r3 (by omega))
    rw [er] at kR
    exact ⟨K.1, kR K.2⟩
  · have K := ((((G.2.1 f).1 g0).1 g1).2 g2)
    rw [r2 (Classical.not_not.mp g2)] at kR
    exact ⟨K.1, kR K.2⟩
  · have K := (((G.2.1 f).1 g0).2 g1)
    rw [r1 (Classical.not_not.mp g1)] at kR
    exact ⟨K.1, kR K.2⟩
  · have K := ((G.2.1 f).2 g0)
    rw [r0 (Classical.not_not.mp g0)] at kR
    exact ⟨K.1, kR K.2⟩
/-- the class tells of a way -/
theorem wc_x {v : MW} {a b : Int32} {n : Nat} {f : Nat → Nat} {Q Q' : Int32 → MW → Prop} (h : p_Bh_way v a b Q) (hn : 0 ≤ a.toInt → a.toInt < (v.1 26 1).toInt → (v.1 31 a.toInt.toNat).toInt = n ∧ n ≤ 24 ∧ 1 ≤ n ∧ (∀ i, i < n → f i < 24) ∧ (∀ i, i + 1 < n → v.1 35 (f i) = nI (f (i + 1))) ∧ v.1 32 a.toInt.toNat = nI (f 0)) (k0 : (a.toInt < 0 ∨ (v.1 26 1).toInt ≤ a.toInt ∨ b.toInt < 0 ∨ (0 ≤ a.toInt ∧ a.toInt < (v.1 26 1).toInt ∧ 3 + (v.1 31 a.toInt.toNat).toInt ≤ b.toInt)) → Q (-1) v → Q' (-1) v) (k1 : 0 ≤ a.toInt → a.toInt < (v.1 26 1).toInt → a.toInt < 24 → 0 ≤ b.toInt → b.toInt < 3 + (v.1 31 a.toInt.toNat).toInt → ∀ r, (b.toInt = 0 → r = v.1 27 a.toInt.toNat) → (b.toInt = 1 → r = v.1 28 a.toInt.toNat) → (b.toInt = 2 → r = v.1 31 a.toInt.toNat) → (3 ≤ b.toInt → r = nI (f (b.toInt - 3).toNat)) → Q r v → Q' r v) : p_Bh_way v a b Q' := by
  rw [p_Bh_way.eq_1, p_Wa_get.eq_1] at h ⊢
  refine ⟨fun c => k0 (Or.inl c) (h.1 c), fun c => ⟨fun d => k0 (Or.inr (Or.inl d)) ((h.2 c).1 d), fun d => ⟨fun e => k0 (Or.inr (Or.inr (Or.inl e))) (((h.2 c).2 d).1 e), fun e => ?_⟩⟩⟩
  have H := ((h.2 c).2 d).2 e
  clear h
  have a0 : 0 ≤ a.toInt := by omega
  have a1 : a.toInt < (v.1 26 1).toInt := by omega
  have b0 : 0 ≤ b.toInt := by omega
  obtain ⟨e31, n24, n1, f24, nx, e32⟩ := hn a0 a1
  have a2 := H.1.2
  have e3 := ti_add2 (by decide : ((3 : Int32)).toInt = 3) e31 (by omega) (by omega)
  have K := k1 a0 a1 a2 b0
  refine ⟨H.1, fun g => ?_, fun g => k0 (Or.inr (Or.inr (Or.inr ⟨a0, a1, by omega⟩))) (H.2.2 g)⟩
  have K2 := K (by omega)
  refine ⟨fun g3 => ⟨((H.2.1 g).1 g3).1, ?_⟩, fun g3 => ⟨fun g0 => ⟨fun g1 => ?_, fun g1 => ?_⟩, fun g0 => ?_⟩⟩
  · have G := ((H.2.1 g).1 g3).2
    clear H
    refine gt_79 (n := n) (f := f) f24 nx g3 (by omega) n24 (fun g2 => K2 _ (fun z => by omega) (fun z => by omega) (fun z => by omega) (fun _ => rfl) g2) _ _ _ G (by decide) (by rw [show ((3 : Int32)).toInt = 3 by decide]; exact g3) ?_
    rw [show ((3 : Int32)).toInt = 3 by decide]
    exact e32
  · have G := ((H.2.1 g).2 g3).1 g0
    clear H
    exact ⟨(G.1 g1).1, K2 _ (fun z => absurd z g0) (fun z => absurd z g1) (fun _ => rfl) (fun z => absurd z g3) (G.1 g1).2⟩
  · have G := ((H.2.1 g).2 g3).1 g0
    clear H
    have z1 := Classical.not_not.mp g1
    exact ⟨(G.2 g1).1, K2 _ (fun z => absurd z g0) (fun _ => rfl) (fun z => by omega) (fun z => absurd z g3) (G.2 g1).2⟩
  · have G := ((H.2.1 g).2 g3).2 g0
    clear H
    have z1 := Classical.not_not.mp g0
    exact ⟨G.1, K2 _ (fun _ => rfl) (fun z => by omega) (fun z => by omega) (fun z => absurd z g3) G.2⟩
theorem wa_pair {v w : MW} {a b : Int32} {Q Q' : Int32 → MW → Prop} (hw : BND w) (hr : HRq (mx v w)) (h : p_Bh_way v a b Q) (kQ : ∀ r, (∀ R R' : Int32 → MW → Prop, p_Mo_way w a b R → (R r w → R' r w) → p_Mo_way w a b R') → Q r v → Q' r v) : p_Bh_way v a b Q' := by
  have P := hb_P hw
  have hy := hr.2.2.2
  have nz := w_n hy.1
  rw [mx_m _ _ (by decide)] at nz
  have v26 : v.1 26 1 = w.1 127 26 := hy.1.1
  have al : ∀ k : Nat, (k : Int) < (w.1 127 26).toInt → 1 ≤ (w.1 185 k).toInt ∧ (w.1 185 k).toInt ≤ 24 := fun k hk => by
    have l := (hy.1.2.2.2 k (by omega)).2.1
    rw [mx_m _ _ (by decide)] at l
    exact l
  have e31 : ∀ k : Nat, (k : Int) < (w.1 127 26).toInt → v.1 31 k = w.1 185 k := fun k hk => (hy.1.2.2.2 k (by omega)).1.2.2.2.2
  have lt : ∀ k i, k < nwy (mx v w) → i < wln (mx v w) k → ent (mx v w) k i / 2 < 24 := fun k i hk hi => by
    have q := (w_e hy.2.1 hk hi).2
    have pe : pM (mx v w) = pM w := rfl
    omega
  refine wc_x (n := wln (mx v w) a.toInt.toNat) (f := fun i => ent (mx v w) a.toInt.toNat i / 2) h (fun a0 a1 => ?_) (fun q g => kQ _ (fun R R' hR kR => wa_neg al ?_ hR kR) g) (fun a0 a1 a2 b0 q r r0 r1 r2 r3 g => kQ r (fun R R' hR kR => ?_) g)
  · rw [v26] at a1
    have kn : a.toInt.toNat < nwy (mx v w) := by omega
    have B := hy.2.1 a.toInt.toNat kn
    have wl := w_l hy.1 kn
    rw [mx_m _ _ (by decide)] at wl
    refine ⟨by rw [e31 _ (by omega)]; exact wl.1.symm, wl.2.2, wl.2.1, fun i hi => lt _ i kn hi, fun i hi => ?_, B.2.1⟩
    have q := (B.1 i (by omega)).2.2
    rw [if_pos hi] at q
    exact q
  · rw [v26] at q
    rcases q with q | q | q | q
    · exact Or.inl q
    · exact Or.inr (Or.inl q)
    · exact Or.inr (Or.inr (Or.inl q))
    · rw [e31 _ (by omega)] at q
      exact Or.inr (Or.inr (Or.inr q))
  · rw [v26] at a1
    have ek : ((a.toInt.toNat : Nat) : Int) < (w.1 127 26).toInt := by omega
    have kn : a.toInt.toNat < nwy (mx v w) := by omega
    rw [e31 _ ek] at q r2
    have A := (hy.1.2.2.2 a.toInt.toNat kn).1
    have e27 : v.1 27 a.toInt.toNat = w.1 181 a.toInt.toNat := A.1
    have e28 : v.1 28 a.toInt.toNat = w.1 182 a.toInt.toNat := A.2.1
    rw [e27] at r0
    rw [e28] at r1
    have l := al _ ek
    refine wa_pos a0 a1 a2 b0 l.2 l.1 q (fun j => (m_186 hw j).1) r0 r1 r2 (fun b3 => ?_) hR kR
    have wl := (w_l hy.1 kn).1
    rw [mx_m _ _ (by decide)] at wl
    have hi : (b.toInt - 3).toNat < wln (mx v w) a.toInt.toNat := by omega
    have en := (w_e hy.2.1 kn hi).1
    rw [mx_m _ _ (by decide)] at en
    have q2 := lt _ _ kn hi
    rw [r3 b3, nI_toInt (by omega)]
    omega
/-- litres in a space -/
theorem lt_19 {w : MW} {x : Int32} {p : Nat} {E E' Q Q' : Int32 → MW → Prop} (T : 0 ≤ tM w ∧ tM w ≤ 20) (xp : x.toInt = tM w + p) (p24 : p < 24) (s200 : (w.1 169 p).toInt ≤ 200) (kE : ∀ r : Int32, r.toInt = ctb (fun k => decide (¬ w.1 172 (200 * p + k) = 0)) (w.1 169 p).toInt.toNat → E r w → E' r w) : ∀ (m : Nat) (s i : Int32), q_Mo_litresIn_19 x E Q m s i w → 0 ≤ i.toInt → (i.toInt ≤ (w.1 169 p).toInt ∨ i.toInt = 0) → s.toInt = ctb (fun k => decide (¬ w.1 172 (200 * p + k) = 0)) i.toInt.toNat → q_Mo_litresIn_19 x E' Q' m s i w := by
  intro m
  induction m with
  | zero => exact fun _ _ h _ _ _ => False.elim h
  | succ m ih =>
    intro s i h i0 i1 es
    have ex : (x - (w.1 127 4)).toInt = p := by
      rw [ti_sub2 rfl rfl (by unfold tM at *; omega) (by unfold tM at *; omega)]
      unfold tM at xp
      omega
    have en : (x - (w.1 127 4)).toInt.toNat = p := by omega
    rw [q_Mo_litresIn_19.eq_2, en] at h ⊢
    refine ⟨h.1, fun c => ?_, fun c => ?_⟩
    · refine kE s ?_ (h.2.1 c)
      rcases i1 with i1 | i1
      · rw [es, show i.toInt.toNat = (w.1 169 p).toInt.toNat by omega]
      · rw [es, show i.toInt.toNat = (w.1 169 p).toInt.toNat by omega]
    · have H := h.2.2 c
      have ei := ti_add2 (Eq.refl i.toInt) i_1 (by omega) (by omega)
      have m1 := ti_mul2 (by decide : ((200 : Int32)).toInt = 200) ex (by omega) (by omega)
      have m2 := ti_add2 m1 (Eq.refl i.toInt) (by omega) (by omega)
      have m3 : (((200 : Int32) * (x - (w.1 127 4))) + i).toInt.toNat = 200 * p + i.toInt.toNat := by omega
      have ln := ctb_n (fun k => decide (¬ w.1 172 (200 * p + k) = 0)) i.toInt.toNat
      have st := ctb_s (fun k => decide (¬ w.1 172 (200 * p + k) = 0)) i.toInt.toNat
      rw [m3] at H ⊢
      refine ⟨H.1, fun d => ih _ _ (H.2.1 d) (by omega) (Or.inl (by omega)) ?_, fun d => ih _ _ (H.2.2 d) (by omega) (Or.inl (by omega)) ?_⟩
      · have nd : decide (¬ w.1 172 (200 * p + i.toInt.toNat) = 0) = true := decide_eq_true (show ¬ w.1 172 (200 * p + i.toInt.toNat) = 0 from fun z => d (by rw [z]; exact i_0))
        rw [show (i + (1 : Int32)).toInt.toNat = i.toInt.toNat + 1 by omega, st, if_pos nd, ti_add2 es i_1 (by omega) (by omega)]
        omega
      · have nd : ¬ (decide (¬ w.1 172 (200 * p + i.toInt.toNat) = 0) = true) := fun z => (of_decide_eq_true z) (i32_z (Classical.not_not.mp d))
        rw [show (i + (1 : Int32)).toInt.toNat = i.toInt.toNat + 1 by omega, st, if_neg nd, ti_add2 es i_0 (by omega) (by omega)]
        omega
/-! what holds liquid, what is a valve; space: the pair -/
def HoC (v : MW) (x : Int) : Prop := (0 ≤ x ∧ x < tC v ∧ tkC v x) ∨ (tC v ≤ x ∧ x < tC v + pC v)
def HoM (w : MW) (x : Int) : Prop := (0 ≤ x ∧ x < tM w ∧ tkM w x) ∨ (tM w ≤ x ∧ x < tM w + pM w)
def VaC (v : MW) (x : Int) : Prop := 0 ≤ x ∧ x < tC v ∧ kC v x.toNat < 8
def VaM (w : MW) (x : Int) : Prop := 0 ≤ x ∧ x < tM w ∧ 2 ≤ (w.1 163 x.toNat).toInt
theorem ho_x {v : MW} {a : Int32} {Q Q' : Int32 → MW → Prop} (h : p_St_isHolder v a Q) (T : 0 ≤ tC v ∧ tC v ≤ 20) (P : 0 ≤ pC v ∧ pC v ≤ 24) (k : ∀ r : Int32, (r = 1 ∧ HoC v a.toInt) ∨ (r = 0 ∧ ¬ HoC v a.toInt) → Q r v → Q' r v) : p_St_isHolder v a Q' := by
  rw [p_St_isHolder.eq_1] at h ⊢
  refine ctk_x h (fun r1 t1 g => ⟨fun c => ?_, fun c => ?_⟩)
  · rcases t1 with ⟨_, t⟩ | ⟨e, _⟩
    · exact k 1 (Or.inl ⟨rfl, Or.inl t⟩) (g.1 c)
    · rw [e] at c
      exact absurd i_0 c
  · rcases t1 with ⟨e, _⟩ | ⟨_, n1⟩
    · rw [e] at c
      exact absurd (by decide) c
    · refine cip_x (g.2 c) T P (fun r3 t3 g3 => ⟨fun d => ?_, fun d => ?_⟩)
      · rcases t3 with ⟨e, _⟩ | ⟨_, n3⟩
        · rw [e] at d
          exact absurd d (by decide)
        · refine k 0 (Or.inr ⟨rfl, fun z => ?_⟩) (g3.1 d)
          rcases z with z | z
          · exact n1 z
          · exact n3 z
      · rcases t3 with ⟨_, y⟩ | ⟨e, _⟩
        · exact k 1 (Or.inl ⟨rfl, Or.inr y⟩) (g3.2 d)
        · rw [e] at d
          exact absurd i_0 d
theorem mip_x {w : MW} {a : Int32} {Q Q' : Int32 → MW → Prop} (h : p_Mo_isPipe w a Q) (T : 0 ≤ tM w ∧ tM w ≤ 20) (P : 0 ≤ pM w ∧ pM w ≤ 24) (k : ∀ r : Int32, (r = 1 ∧ tM w ≤ a.toInt ∧ a.toInt < tM w + pM w) ∨ (r = 0 ∧ ¬ (tM w ≤ a.toInt ∧ a.toInt < tM w + pM w)) → Q r w → Q' r w) : p_Mo_isPipe w a Q' := by
  rw [p_Mo_isPipe.eq_1] at h ⊢
  have e : ((w.1 127 4) + (w.1 127 11)).toInt = tM w + pM w := ti_add2 rfl rfl (by unfold tM pM at *; omega) (by unfold tM pM at *; omega)
  have e0 : (w.1 127 4).toInt = tM w := rfl
  refine ⟨fun c => k 0 (Or.inr ⟨rfl, fun z => by have := z.1; omega⟩) (h.1 c), fun c => ⟨fun d => k 0 (Or.inr ⟨rfl, fun z => by have := z.2; omega⟩) ((h.2 c).1 d), fun d => k 1 (Or.inl ⟨rfl, by omega, by omega⟩) ((h.2 c).2 d)⟩⟩
theorem hm_x {w : MW} {a : Int32} {Q Q' : Int32 → MW → Prop} (h : p_Mo_holdsLiquid w a Q) (T : 0 ≤ tM w ∧ tM w ≤ 20) (P : 0 ≤ pM w ∧ pM w ≤ 24) (k : ∀ r : Int32, (r = 1 ∧ HoM w a.toInt) ∨ (r = 0 ∧ ¬ HoM w a.toInt) → Q r w → Q' r w) : p_Mo_holdsLiquid w a Q' := by
  rw [p_Mo_holdsLiquid.eq_1] at h ⊢
  refine mtk_x h (fun r1 t1 g => ⟨fun c => ?_, fun c => ?_⟩)
  · rcases t1 with ⟨_, t⟩ | ⟨e, _⟩
    · exact k 1 (Or.inl ⟨rfl, Or.inl t⟩) (g.1 c)
    · rw [e] at c
      exact absurd i_0 c
  · rcases t1 with ⟨e, _⟩ | ⟨_, n1⟩
    · rw [e] at c
      exact absurd (by decide) c
    · refine mip_x (g.2 c) T P (fun r3 t3 g3 => ⟨fun d => ?_, fun d => ?_⟩)
      · rcases t3 with ⟨e, _⟩ | ⟨_, n3⟩
        · rw [e] at d
          exact absurd d (by decide)
        · refine k 0 (Or.inr ⟨rfl, fun z => ?_⟩) (g3.1 d)
          rcases z with z | z
          · exact n1 z
          · exact n3 z
      · rcases t3 with ⟨_, y⟩ | ⟨e, _⟩
        · exact k 1 (Or.inl ⟨rfl, Or.inr y⟩) (g3.2 d)
        · rw [e] at d
          exact absurd i_0 d
theorem vc_x {v : MW} {a : Int32} {Q Q' : Int32 → MW → Prop} (h : p_St_isValve v a Q) (k : ∀ r : Int32, (r = 1 ∧ VaC v a.toInt) ∨ (r = 0 ∧ ¬ VaC v a.toInt) → Q r v → Q' r v) : p_St_isValve v a Q' := by
  rw [p_St_isValve.eq_1] at h ⊢
  have e0 : (v.1 8 0).toInt = tC v := rfl
  have ek : (v.1 9 a.toInt.toNat).toInt = kC v a.toInt.toNat := rfl
  refine ⟨fun c => k 0 (Or.inr ⟨rfl, fun z => by have := z.1; omega⟩) (h.1 c), fun c => ⟨(h.2 c).1, fun d => k 0 (Or.inr ⟨rfl, fun z => by have := z.2.1; omega⟩) ((h.2 c).2.1 d), fun d => ⟨((h.2 c).2.2 d).1, ((h.2 c).2.2 d).2.1, fun e => k 0 (Or.inr ⟨rfl, fun z => by have := z.2.2; omega⟩) (((h.2 c).2.2 d).2.2.1 e), fun e => k 1 (Or.inl ⟨rfl, by omega, by omega, by omega⟩) (((h.2 c).2.2 d).2.2.2 e)⟩⟩⟩
theorem vm_x {w : MW} {a : Int32} {Q Q' : Int32 → MW → Prop} (h : p_Mo_isValve w a Q) (k : ∀ r : Int32, (r = 1 ∧ VaM w a.toInt) ∨ (r = 0 ∧ ¬ VaM w a.toInt) → Q r w → Q' r w) : p_Mo_isValve w a Q' := by
  rw [p_Mo_isValve.eq_1, p_Mo_isThing.eq_1] at h ⊢
  have e0 : (w.1 127 4).toInt = tM w := rfl
  refine ⟨fun c => ⟨fun _ => k 0 (Or.inr ⟨rfl, fun z => by have := z.1; omega⟩) ((h.1 c).1 i_0), fun z => absurd i_0 z⟩, fun c => ⟨fun d => ⟨fun _ => k 0 (Or.inr ⟨rfl, fun z => by have := z.2.1; omega⟩) (((h.2 c).1 d).1 i_0), fun z => absurd i_0 z⟩, fun d => ⟨fun z => absurd z (by decide), fun z => ?_⟩⟩⟩
  have H := ((h.2 c).2 d).2 z
  exact ⟨H.1, fun e => k 0 (Or.inr ⟨rfl, fun z2 => by have := z2.2.2; omega⟩) (H.2.1 e), fun e => k 1 (Or.inl ⟨rfl, by omega, by omega, by omega⟩) (H.2.2 e)⟩
theorem ho_e {v w : MW} (hr : HRq (mx v w)) (x : Int) : HoC v x ↔ HoM w x := by
  have e1 : tC v = tM w := hr.1.1.1
  have e2 : pC v = pM w := hr.1.1.2.1
  have tk : ∀ (h0 : 0 ≤ x) (h1 : x < tM w), tkC v x ↔ tkM w x := fun h0 h1 => tk_e (w := mx v w) hr.1.1 h0 h1
  unfold HoC HoM
  rw [e1, e2]
  constructor
  · intro q
    rcases q with q | q
    · exact Or.inl ⟨q.1, q.2.1, (tk q.1 q.2.1).mp q.2.2⟩
    · exact Or.inr q
  · intro q
    rcases q with q | q
    · exact Or.inl ⟨q.1, q.2.1, (tk q.1 q.2.1).mpr q.2.2⟩
    · exact Or.inr q
theorem va_e {v w : MW} (hr : HRq (mx v w)) (x : Int) : VaC v x ↔ VaM w x := by
  have e1 : tC v = tM w := hr.1.1.1
  have kd : ∀ (h0 : 0 ≤ x) (h1 : x < tM w), kC v x.toNat < 8 ↔ 2 ≤ (w.1 163 x.toNat).toInt := fun h0 h1 => by
    have q := hr.1.1.2.2.1 x.toNat (by have : tM (mx v w) = tM w := rfl; omega)
    have b : 0 ≤ (w.1 163 x.toNat).toInt ∧ (w.1 163 x.toNat).toInt ≤ 9 := q.1
    have e : kC v x.toNat = kmp (w.1 163 x.toNat).toInt := q.2.1
    rw [e]
    unfold kmp
    by_cases c0 : (w.1 163 x.toNat).toInt = 0
    · rw [if_pos c0]
      omega
    · rw [if_neg c0]
      by_cases c1 : (w.1 163 x.toNat).toInt = 1
      · rw [if_pos c1]
        omega
      · rw [if_neg c1]
        omega
  unfold VaC VaM
  rw [e1]
  constructor
  · intro q
    exact ⟨q.1, q.2.1, (kd q.1 q.2.1).mp q.2.2⟩
  · intro q
    exact ⟨q.1, q.2.1, (kd q.1 q.2.1).mpr q.2.2⟩
/-- what space tells -/
def SpS (v w : MW) (x : Int) (b r : Int32) : Prop := (b.toInt = 4 ∧ VaM w x ∧ r = w.1 167 x.toNat) ∨ (b.toInt = 4 ∧ ¬ VaM w x ∧ r = -1) ∨ (¬ b.toInt = 4 ∧ ¬ HoM w x ∧ r = -1) ∨ (HoM w x ∧ ((b.toInt = 0 ∧ r = v.1 17 x.toNat) ∨ (b.toInt = 1 ∧ r = v.1 18 x.toNat) ∨ (b.toInt = 2 ∧ r = w.1 173 x.toNat) ∨ (b.toInt = 3 ∧ r = (if ¬ (v.1 17 x.toNat).toInt = 0 ∨ (w.1 173 x.toNat).toInt = 0 then 0 else hlM w x.toNat)) ∨ (¬ (0 ≤ b.toInt ∧ b.toInt ≤ 4) ∧ r = -1)))
theorem sps_u {v w : MW} {x : Int} {b r r' : Int32} (h : SpS v w x b r) (h' : SpS v w x b r') : r = r' := by
  rcases h with ⟨h1, h2, h3⟩ | ⟨h1, h2, h3⟩ | ⟨h1, h2, h3⟩ | ⟨h2, h1⟩
  · rcases h' with ⟨g1, g2, g3⟩ | ⟨g1, g2, g3⟩ | ⟨g1, g2, g3⟩ | ⟨g2, g1⟩
    · rw [h3, g3]
    · exact absurd h2 g2
    · exact absurd h1 g1
    · omega
  · rcases h' with ⟨g1, g2, g3⟩ | ⟨g1, g2, g3⟩ | ⟨g1, g2, g3⟩ | ⟨g2, g1⟩
    · exact absurd g2 h2
    · rw [h3, g3]
    · exact absurd h1 g1
    · omega
  · rcases h' with ⟨g1, g2, g3⟩ | ⟨g1, g2, g3⟩ | ⟨g1, g2, g3⟩ | ⟨g2, g1⟩
    · exact absurd g1 h1
    · exact absurd g1 h1
    · rw [h3, g3]
    · exact absurd g2 h2
  · rcases h' with ⟨g1, g2, g3⟩ | ⟨g1, g2, g3⟩ | ⟨g1, g2, g3⟩ | ⟨g2, g1⟩
    · omega
    · omega
    · exact absurd h2 g2
    · rcases h1 with ⟨p, q⟩ | ⟨p, q⟩ | ⟨p, q⟩ | ⟨p, q⟩ | ⟨p, q⟩ <;> rcases g1 with ⟨p', q'⟩ | ⟨p', q'⟩ | ⟨p', q'⟩ | ⟨p', q'⟩ | ⟨p', q'⟩ <;> first | (rw [q, q']) | omega
theorem cs_x {v w : MW} {a b : Int32} {Q Q' : Int32 → MW → Prop} (hv : BND v) (hw : BND w) (hr : HRq (mx v w)) (h : p_Bh_space v a b Q) (k : ∀ r, SpS v w a.toInt b r → Q r v → Q' r v) : p_Bh_space v a b Q' := by
  obtain ⟨T, P, eT, eP, _⟩ := hr_T hw hr
  rw [p_Bh_space.eq_1] at h ⊢
  refine ⟨fun c => ho_x (h.1 c) T P (fun r2 t2 g => ⟨fun d => ?_, fun d => ?_⟩), fun c => vc_x (h.2 c) (fun r2 t2 g => ⟨fun d => ?_, fun d => ⟨(g.2 d).1, ?_⟩⟩)⟩
  · rcases t2 with ⟨_, y⟩ | ⟨e, _⟩
    case inr =>
      rw [e] at d
      exact absurd i_0 d
    case inl =>
      have ym := (ho_e hr a.toInt).mp y
      have G := g.1 d
      have a0 : 0 ≤ a.toInt ∧ a.toInt < tM w + pM w := by
        rcases y with y | y
        · have := y.1
          have := y.2.1
          omega
        · have := y.1
          have := y.2
          omega
      have b17 := bd_17 hv a.toInt.toNat
      have sv := hr.2.2.1.2.1.1 a.toInt.toNat (by have : tM (mx v w) = tM w := rfl; have : pM (mx v w) = pM w := rfl; omega)
      rw [mx_c v w (c := 17) (by decide), mx_c v w (c := 19) (by decide), mx_m v w (c := 173) (by decide)] at sv
      refine ⟨fun e => ⟨(G.1 e).1, k _ (Or.inr (Or.inr (Or.inr ⟨ym, Or.inl ⟨e, rfl⟩⟩))) (G.1 e).2⟩, fun e => ⟨fun e1 => ⟨((G.2 e).1 e1).1, k _ (Or.inr (Or.inr (Or.inr ⟨ym, Or.inr (Or.inl ⟨e1, rfl⟩)⟩))) ((G.2 e).1 e1).2⟩, fun e1 => ⟨fun e2 => ?_, fun e2 => ⟨fun e3 => ?_, fun e3 => ?_⟩⟩⟩⟩
      · have H := ((G.2 e).2 e1).1 e2
        refine ⟨H.1, fun f => ⟨(H.2.1 f).1, k _ (Or.inr (Or.inr (Or.inr ⟨ym, Or.inr (Or.inr (Or.inl ⟨e2, (sv.1 (by omega)).symm⟩))⟩))) (H.2.1 f).2⟩, fun f => ⟨(H.2.2 f).1, k _ (Or.inr (Or.inr (Or.inr ⟨ym, Or.inr (Or.inr (Or.inl ⟨e2, (sv.2 (by omega)).symm⟩))⟩))) (H.2.2 f).2⟩⟩
      · have H := (((G.2 e).2 e1).2 e2).1 e3
        have fin : ∀ r, r = (if ¬ (v.1 17 a.toInt.toNat).toInt = 0 ∨ (w.1 173 a.toInt.toNat).toInt = 0 then 0 else hlM w a.toInt.toNat) → Q r v → Q' r v := fun r er => k r (Or.inr (Or.inr (Or.inr ⟨ym, Or.inr (Or.inr (Or.inr (Or.inl ⟨e3, er⟩)))⟩)))
        rw [p_St_levelOf.eq_1] at H ⊢
        refine ⟨H.1, fun f => fin _ (by rw [if_pos (Or.inl f)]) (H.2.1 f), fun f => ⟨(H.2.2 f).1, fun f2 => hc_x ((H.2.2 f).2.1 f2) a0.1 (by omega) (fun g4 => fin _ ?_ g4), fun f2 => fin _ ?_ ((H.2.2 f).2.2 f2)⟩⟩
        · have z0 := Classical.not_not.mp f
          rw [if_neg (fun q => ?_)]
          · exact hl_e (v := v) (w := w) hr.2.2.1.2.1 hr.2.1.2.2.2 (by omega)
          · rcases q with q | q
            · exact f q
            · rw [sv.1 z0] at q
              exact f2 q
        · rw [if_pos (Or.inr (by rw [sv.1 (Classical.not_not.mp f)]; exact Classical.not_not.mp f2))]
      · exact k _ (Or.inr (Or.inr (Or.inr ⟨ym, Or.inr (Or.inr (Or.inr (Or.inr ⟨by omega, rfl⟩)))⟩))) ((((G.2 e).2 e1).2 e2).2 e3)
  · rcases t2 with ⟨e, _⟩ | ⟨_, n⟩
    · rw [e] at d
      exact absurd (by decide) d
    · exact k _ (Or.inr (Or.inr (Or.inl ⟨c, fun z => n ((ho_e hr a.toInt).mpr z), rfl⟩))) (g.2 d)
  · rcases t2 with ⟨e, _⟩ | ⟨_, n⟩
    · rw [e] at d
      exact absurd d (by decide)
    · exact k _ (Or.inr (Or.inl ⟨Classical.not_not.mp c, fun z => n ((va_e hr a.toInt).mpr z), rfl⟩)) (g.1 d)
  · rcases t2 with ⟨_, y⟩ | ⟨e, _⟩
    · have ym := (va_e hr a.toInt).mp y
      have q : v.1 16 a.toInt.toNat = w.1 167 a.toInt.toNat := (hr.1.1.2.2.1 a.toInt.toNat (by have : tM (mx v w) = tM w := rfl; have := ym.1; have := ym.2.1; omega)).2.2
      exact k _ (Or.inl ⟨Classical.not_not.mp c, ym, q⟩) (g.2 d).2
    · rw [e] at d
      exact absurd i_0 d
theorem ms_x {v w : MW} {a b : Int32} {Q Q' : Int32 → MW → Prop} (hv : BND v) (hw : BND w) (hr : HRq (mx v w)) (h : p_Mo_space w a b Q) (k : ∀ r, SpS v w a.toInt b r → Q r w → Q' r w) : p_Mo_space w a b Q' := by
  have T := hb_T hw
  have P := hb_P hw
  rw [p_Mo_space.eq_1] at h ⊢
  refine ⟨fun c => hm_x (h.1 c) T P (fun r2 t2 g => ⟨fun d => ?_, fun d => ?_⟩), fun c => vm_x (h.2 c) (fun r2 t2 g => ⟨fun d => ?_, fun d => ⟨(g.2 d).1, ?_⟩⟩)⟩
  · rcases t2 with ⟨e, _⟩ | ⟨_, n⟩
    · rw [e] at d
      exact absurd d (by decide)
    · exact k _ (Or.inr (Or.inr (Or.inl ⟨c, n, rfl⟩))) (g.1 d)
  · rcases t2 with ⟨_, y⟩ | ⟨e, _⟩
    case inr =>
      rw [e] at d
      exact absurd i_0 d
    case inl =>
      have G := g.2 d
      have a0 : 0 ≤ a.toInt ∧ a.toInt < tM w + pM w := by
        rcases y with y | y
        · have := y.1
          have := y.2.1
          omega
        · have := y.1
          have := y.2
          omega
      refine ⟨fun e => k _ (Or.inr (Or.inr (Or.inr ⟨y, Or.inr (Or.inr (Or.inr (Or.inr ⟨by omega, rfl⟩)))⟩))) (G.1 e), fun e => ⟨fun e1 => ⟨fun e2 => ⟨fun e3 => ⟨fun e4 => ?_, fun e4 => ?_⟩, fun e3 => ?_⟩, fun e2 => ?_⟩, fun e1 => k _ (Or.inr (Or.inr (Or.inr ⟨y, Or.inr (Or.inr (Or.inr (Or.inr ⟨by omega, rfl⟩)))⟩))) ((G.2 e).2 e1)⟩⟩
      · have H := ((((G.2 e).1 e1).1 e2).1 e3).1 e4
        exact lev_x H (hr_skl hr) a0.1 a0.2 T P (fun p hp => hr_s200 hr p hp) (fun x => (bd_17 hv x).1) (fun r er g4 => k r (Or.inr (Or.inr (Or.inr ⟨y, Or.inr (Or.inr (Or.inr (Or.inl ⟨by omega, er⟩)))⟩))) g4)
      · have H := ((((G.2 e).1 e1).1 e2).1 e3).2 e4
        exact ⟨H.1, k _ (Or.inr (Or.inr (Or.inr ⟨y, Or.inr (Or.inr (Or.inl ⟨Classical.not_not.mp e4, rfl⟩))⟩))) H.2⟩
      · have H := (((G.2 e).1 e1).1 e2).2 e3
        have fin : ∀ r : Int32, r.toInt = (v.1 18 a.toInt.toNat).toInt → Q r w → Q' r w := fun r er => k r (Or.inr (Or.inr (Or.inr ⟨y, Or.inr (Or.inl ⟨Classical.not_not.mp e3, i32_e er⟩)⟩)))
        rw [p_Mo_litresIn.eq_1] at H ⊢
        have e0 : (w.1 127 4).toInt = tM w := rfl
        refine ⟨fun f => ?_, fun f => ⟨(H.2 f).1, fin _ ?_ (H.2 f).2⟩⟩
        · have pp : (((a.toInt - tM w).toNat : Nat) : Int) < pM w := by omega
          have sp := (hr.2.2.1.2.2.2.1 (a.toInt - tM w).toNat pp).2.2.2.2
          refine lt_19 (p := (a.toInt - tM w).toNat) T (by omega) (by omega) (hr_s200 hr _ pp) (fun r er g4 => fin r ?_ g4) _ _ _ (H.1 f) (by decide) (Or.inr (by decide)) (by rw [i_0]; rfl)
          have tw : (tM (mx v w)).toNat + (a.toInt - tM w).toNat = a.toInt.toNat := by
            have : tM (mx v w) = tM w := rfl
            omega
          rw [tw] at sp
          have sp' : (v.1 18 a.toInt.toNat).toInt = ctb (fun k => decide (¬ w.1 172 (200 * (a.toInt - tM w).toNat + k) = 0)) (w.1 169 (a.toInt - tM w).toNat).toInt.toNat := sp
          rw [er, sp']
        · have tk : tkM w ((a.toInt.toNat : Nat) : Int) := by
            rw [show ((a.toInt.toNat : Nat) : Int) = a.toInt by omega]
            rcases y with y | y
            · exact y.2.2
            · have := y.1
              omega
          have q : v.1 18 a.toInt.toNat = w.1 165 a.toInt.toNat := (hr.2.2.1.2.2.1 a.toInt.toNat (by have : tM (mx v w) = tM w := rfl; omega) tk).1
          rw [q]
      · have H := ((G.2 e).1 e1).2 e2
        exact li_x H (hr_skl hr) a0.1 a0.2 T P (fun p hp => hr_s200 hr p hp) (fun g4 => k _ (Or.inr (Or.inr (Or.inr ⟨y, Or.inl ⟨Classical.not_not.mp e2, rfl⟩⟩))) g4)
  · rcases t2 with ⟨e, _⟩ | ⟨_, n⟩
    · rw [e] at d
      exact absurd d (by decide)
    · exact k _ (Or.inr (Or.inl ⟨Classical.not_not.mp c, n, rfl⟩)) (g.1 d)
  · rcases t2 with ⟨_, y⟩ | ⟨e, _⟩
    · exact k _ (Or.inl ⟨Classical.not_not.mp c, y, rfl⟩) (g.2 d).2
    · rw [e] at d
      exact absurd i_0 d
/-! two contracts hold together -/
theorem an_q_Ro_isOn_10 {x10_1 : Int32} {E1 E2 E3 : Int64 → MW → Prop} {Q1 Q2 Q3 : Int32 → MW → Prop}  (kE : ∀ x0 x1, E1 x0 x1 → E2 x0 x1 → E3 x0 x1) (kQ : ∀ x0 x1, Q1 x0 x1 → Q2 x0 x1 → Q3 x0 x1) : ∀ (m : Nat) (x10_2 : Int64) (x10_4 : Int32) (w : MW), q_Ro_isOn_10 x10_1 E1 Q1 m x10_2 x10_4 w → q_Ro_isOn_10 x10_1 E2 Q2 m x10_2 x10_4 w → q_Ro_isOn_10 x10_1 E3 Q3 m x10_2 x10_4 w := by
  intro m
  induction m with
  | zero => exact fun _ _ _ h _ => False.elim h
  | succ m ih =>
    intro x10_2 x10_4 w h g
    rw [q_Ro_isOn_10.eq_2] at h g ⊢
    exact ⟨h.1, ⟨(fun h1 => (kE _ _ (h.2.1 h1) (g.2.1 h1))), (fun h2 => ⟨(h.2.2 h2).1, ⟨(fun h3 => ⟨((h.2.2 h2).2.1 h3).1, ⟨(fun h4 => ⟨(((h.2.2 h2).2.1 h3).2.1 h4).1, ⟨(fun h5 => (ih _ _ _ ((((h.2.2 h2).2.1 h3).2.1 h4).2.1 h5) ((((g.2.2 h2).2.1 h3).2.1 h4).2.1 h5))), (fun h6 => (ih _ _ _ ((((h.2.2 h2).2.1 h3).2.1 h4).2.2 h6) ((((g.2.2 h2).2.1 h3).2.1 h4).2.2 h6)))⟩⟩), (fun h7 => (ih _ _ _ (((h.2.2 h2).2.1 h3).2.2 h7) (((g.2.2 h2).2.1 h3).2.2 h7)))⟩⟩), (fun h8 => ⟨((h.2.2 h2).2.2 h8).1, (ih _ _ _ ((h.2.2 h2).2.2 h8).2 ((g.2.2 h2).2.2 h8).2)⟩)⟩⟩)⟩⟩
theorem an_p_Ro_isOn {w : MW} {a0 : Int32} {Q1 Q2 Q3 : Int32 → MW → Prop}  (h : p_Ro_isOn w a0 Q1) (g : p_Ro_isOn w a0 Q2) (kQ : ∀ x0 x1, Q1 x0 x1 → Q2 x0 x1 → Q3 x0 x1) : p_Ro_isOn w a0 Q3 := by
  rw [p_Ro_isOn.eq_1] at h g ⊢
  exact ⟨h.1, (an_q_Ro_isOn_10  (fun _ _ h1 h2 => ⟨(fun h3 => (kQ _ _ (h1.1 h3) (h2.1 h3))), (fun h4 => (kQ _ _ (h1.2 h4) (h2.2 h4)))⟩) kQ _ _ _ _ h.2 g.2)⟩
theorem an_q_Ro_barring_37 {x2_1 : Int32} {y37_2 : Int32} {ys37_0 : Int32} {w : MW} {A1 A2 A3 : Int32 → MW → Prop} {E1 E2 E3 : MW → Prop} {Q1 Q2 Q3 : Int32 → MW → Prop}  (kA : ∀ x0 x1, A1 x0 x1 → A2 x0 x1 → A3 x0 x1) (kE : ∀ x0, E1 x0 → E2 x0 → E3 x0) (kQ : ∀ x0 x1, Q1 x0 x1 → Q2 x0 x1 → Q3 x0 x1) (h : q_Ro_barring_37 x2_1 y37_2 ys37_0 w A1 E1 Q1) (g : q_Ro_barring_37 x2_1 y37_2 ys37_0 w A2 E2 Q2) : q_Ro_barring_37 x2_1 y37_2 ys37_0 w A3 E3 Q3 := by
  rw [q_Ro_barring_37.eq_1] at h g ⊢
  exact ⟨(fun h1 => (kA _ _ (h.1 h1) (g.1 h1))), (fun h2 => ⟨(h.2 h2).1, ⟨(fun h3 => (kQ _ _ ((h.2 h2).2.1 h3) ((g.2 h2).2.1 h3))), (fun h4 => ⟨((h.2 h2).2.2 h4).1, ⟨((h.2 h2).2.2 h4).2.1, ⟨(fun h5 => (kA _ _ (((h.2 h2).2.2 h4).2.2.1 h5) (((g.2 h2).2.2 h4).2.2.1 h5))), (fun h6 => (an_p_Ro_isOn (((h.2 h2).2.2 h4).2.2.2 h6) (((g.2 h2).2.2 h4).2.2.2 h6) (fun _ _ h7 h8 => ⟨(fun h9 => (kA _ _ (h7.1 h9) (h8.1 h9))), (fun h10 => (kQ _ _ (h7.2 h10) (h8.2 h10)))⟩)))⟩⟩⟩)⟩⟩)⟩
theorem an_q_Ro_barring_2 {x2_1 : Int32} {E1 E2 E3 : MW → Prop} {Q1 Q2 Q3 : Int32 → MW → Prop}  (kE : ∀ x0, E1 x0 → E2 x0 → E3 x0) (kQ : ∀ x0 x1, Q1 x0 x1 → Q2 x0 x1 → Q3 x0 x1) : ∀ (m : Nat) (x2_2 : Int32) (w : MW), q_Ro_barring_2 x2_1 E1 Q1 m x2_2 w → q_Ro_barring_2 x2_1 E2 Q2 m x2_2 w → q_Ro_barring_2 x2_1 E3 Q3 m x2_2 w := by
  intro m
  induction m with
  | zero => exact fun _ _ h _ => False.elim h
  | succ m ih =>
    intro x2_2 w h g
    rw [q_Ro_barring_2.eq_2] at h g ⊢
    exact ⟨(fun h1 => (kE _ (h.1 h1) (g.1 h1))), (fun h2 => ⟨(h.2 h2).1, ⟨(fun h3 => (an_q_Ro_barring_37  (fun _ _ h4 h5 => (ih _ _ h4 h5)) kE kQ ((h.2 h2).2.1 h3) ((g.2 h2).2.1 h3))), (fun h6 => ⟨((h.2 h2).2.2 h6).1, ⟨(fun h7 => (an_q_Ro_barring_37  (fun _ _ h8 h9 => (ih _ _ h8 h9)) kE kQ (((h.2 h2).2.2 h6).2.1 h7) (((g.2 h2).2.2 h6).2.1 h7))), (fun h10 => (an_q_Ro_barring_37  (fun _ _ h11 h12 => (ih _ _ h11 h12)) kE kQ (((h.2 h2).2.2 h6).2.2 h10) (((g.2 h2).2.2 h6).2.2 h10)))⟩⟩)⟩⟩)⟩
theorem an_p_Ro_barring {w : MW} {a0 : Int32} {Q1 Q2 Q3 : Int32 → MW → Prop}  (h : p_Ro_barring w a0 Q1) (g : p_Ro_barring w a0 Q2) (kQ : ∀ x0 x1, Q1 x0 x1 → Q2 x0 x1 → Q3 x0 x1) : p_Ro_barring w a0 Q3 := by
  rw [p_Ro_barring.eq_1] at h g ⊢
  exact (an_q_Ro_barring_2  (fun _ h1 h2 => (kQ _ _ h1 h2)) kQ _ _ _ h g)
theorem an_pb_Mr_value {r_Mr_value : MW → Int32 → (Int32 → MW → Prop) → Prop} {w : MW} {a0 : Int32} {Q1 Q2 Q3 : Int32 → MW → Prop} (ir_Mr_value : ∀ {z0 : MW} {z1 : Int32} {R1 R2 R3 : Int32 → MW → Prop}, r_Mr_value z0 z1 R1 → r_Mr_value z0 z1 R2 → (∀ y0 y1, R1 y0 y1 → R2 y0 y1 → R3 y0 y1) → r_Mr_value z0 z1 R3) (h : pb_Mr_value r_Mr_value w a0 Q1) (g : pb_Mr_value r_Mr_value w a0 Q2) (kQ : ∀ x0 x1, Q1 x0 x1 → Q2 x0 x1 → Q3 x0 x1) : pb_Mr_value r_Mr_value w a0 Q3 := by
  rw [pb_Mr_value.eq_1] at h g ⊢
  exact ⟨h.1, ⟨(fun h1 => ⟨(h.2.1 h1).1, (ir_Mr_value (h.2.1 h1).2 (g.2.1 h1).2 (fun _ _ h2 h3 => ⟨(fun h4 => (kQ _ _ (h2.1 h4) (h3.1 h4))), (fun h5 => (kQ _ _ (h2.2 h5) (h3.2 h5)))⟩))⟩), (fun h6 => ⟨(fun h7 => ⟨((h.2.2 h6).1 h7).1, (ir_Mr_value ((h.2.2 h6).1 h7).2 ((g.2.2 h6).1 h7).2 (fun _ _ h8 h9 => ⟨(fun h10 => (kQ _ _ (h8.1 h10) (h9.1 h10))), (fun h11 => ⟨(h8.2 h11).1, (ir_Mr_value (h8.2 h11).2 (h9.2 h11).2 (fun _ _ h12 h13 => ⟨(fun h14 => (kQ _ _ (h12.1 h14) (h13.1 h14))), (fun h15 => (kQ _ _ (h12.2 h15) (h13.2 h15)))⟩))⟩)⟩))⟩), (fun h16 => ⟨(fun h17 => ⟨(((h.2.2 h6).2 h16).1 h17).1, (ir_Mr_value (((h.2.2 h6).2 h16).1 h17).2 (((g.2.2 h6).2 h16).1 h17).2 (fun _ _ h18 h19 => ⟨(fun h20 => (kQ _ _ (h18.1 h20) (h19.1 h20))), (fun h21 => ⟨(h18.2 h21).1, (ir_Mr_value (h18.2 h21).2 (h19.2 h21).2 (fun _ _ h22 h23 => ⟨(fun h24 => (kQ _ _ (h22.1 h24) (h23.1 h24))), (fun h25 => (kQ _ _ (h22.2 h25) (h23.2 h25)))⟩))⟩)⟩))⟩), (fun h26 => ⟨(((h.2.2 h6).2 h16).2 h26).1, ⟨(fun h27 => (kQ _ _ ((((h.2.2 h6).2 h16).2 h26).2.1 h27) ((((g.2.2 h6).2 h16).2 h26).2.1 h27))), (fun h28 => (kQ _ _ ((((h.2.2 h6).2 h16).2 h26).2.2 h28) ((((g.2.2 h6).2 h16).2 h26).2.2 h28)))⟩⟩)⟩)⟩)⟩⟩
theorem ag_Mr_value : ∀ n : Nat, (∀ (w : MW) (a0 : Int32) (R1 R2 R3 : Int32 → MW → Prop), pn_Mr_value n w a0 R1 → pn_Mr_value n w a0 R2 → (∀ y0 y1, R1 y0 y1 → R2 y0 y1 → R3 y0 y1) → pn_Mr_value n w a0 R3) := by
  intro n
  induction n with
  | zero =>
    exact fun _ _ _ _ _ h _ _ => False.elim h
  | succ n ih =>
    have i_Mr_value := ih
    exact fun v0 v1 _ _ _ h g k => by
      rw [pe_Mr_value] at h g ⊢
      exact an_pb_Mr_value (fun h g k => i_Mr_value _ _ _ _ _ h g k) h g k
theorem an_pn_Mr_value (n : Nat) {w : MW} {a0 : Int32} {Q1 Q2 Q3 : Int32 → MW → Prop} (h : pn_Mr_value n w a0 Q1) (g : pn_Mr_value n w a0 Q2) (kQ : ∀ x0 x1, Q1 x0 x1 → Q2 x0 x1 → Q3 x0 x1) : pn_Mr_value n w a0 Q3 := (ag_Mr_value n) _ _ _ _ _ h g kQ
theorem an_p_Mr_value {w : MW} {a0 : Int32} {Q1 Q2 Q3 : Int32 → MW → Prop} (h : p_Mr_value w a0 Q1) (g : p_Mr_value w a0 Q2) (kQ : ∀ x0 x1, Q1 x0 x1 → Q2 x0 x1 → Q3 x0 x1) : p_Mr_value w a0 Q3 := an_pn_Mr_value _ h g kQ
theorem an_p_Mr_isOn {w : MW} {a0 : Int32} {Q1 Q2 Q3 : Int32 → MW → Prop}  (h : p_Mr_isOn w a0 Q1) (g : p_Mr_isOn w a0 Q2) (kQ : ∀ x0 x1, Q1 x0 x1 → Q2 x0 x1 → Q3 x0 x1) : p_Mr_isOn w a0 Q3 := by
  rw [p_Mr_isOn.eq_1] at h g ⊢
  exact ⟨h.1, (an_p_Mr_value h.2 g.2 (fun _ _ h1 h2 => (kQ _ _ h1 h2)))⟩
theorem an_q_Mr_hasAct_16 {x16_2 : Int32} {x16_3 : Int32} {E1 E2 E3 : Int32 → MW → Prop} {Q1 Q2 Q3 : Int32 → MW → Prop}  (kE : ∀ x0 x1, E1 x0 x1 → E2 x0 x1 → E3 x0 x1) (kQ : ∀ x0 x1, Q1 x0 x1 → Q2 x0 x1 → Q3 x0 x1) : ∀ (m : Nat) (x16_4 : Int32) (x16_5 : Int32) (w : MW), q_Mr_hasAct_16 x16_2 x16_3 E1 Q1 m x16_4 x16_5 w → q_Mr_hasAct_16 x16_2 x16_3 E2 Q2 m x16_4 x16_5 w → q_Mr_hasAct_16 x16_2 x16_3 E3 Q3 m x16_4 x16_5 w := by
  intro m
  induction m with
  | zero => exact fun _ _ _ h _ => False.elim h
  | succ m ih =>
    intro x16_4 x16_5 w h g
    rw [q_Mr_hasAct_16.eq_2] at h g ⊢
    exact ⟨h.1, ⟨(fun h1 => (kE _ _ (h.2.1 h1) (g.2.1 h1))), (fun h2 => ⟨(fun h3 => (ih _ _ _ ((h.2.2 h2).1 h3) ((g.2.2 h2).1 h3))), (fun h4 => ⟨((h.2.2 h2).2 h4).1, ⟨(fun h5 => (ih _ _ _ (((h.2.2 h2).2 h4).2.1 h5) (((g.2.2 h2).2 h4).2.1 h5))), (fun h6 => (ih _ _ _ (((h.2.2 h2).2 h4).2.2 h6) (((g.2.2 h2).2 h4).2.2 h6)))⟩⟩)⟩)⟩⟩
theorem an_p_Mr_hasAct {w : MW} {a0 : Int32} {b0 : Int32} {Q1 Q2 Q3 : Int32 → MW → Prop}  (h : p_Mr_hasAct w a0 b0 Q1) (g : p_Mr_hasAct w a0 b0 Q2) (kQ : ∀ x0 x1, Q1 x0 x1 → Q2 x0 x1 → Q3 x0 x1) : p_Mr_hasAct w a0 b0 Q3 := by
  rw [p_Mr_hasAct.eq_1] at h g ⊢
  exact (an_q_Mr_hasAct_16  (fun _ _ h1 h2 => ⟨h1.1, (kQ _ _ h1.2 h2.2)⟩) kQ _ _ _ _ h g)
theorem an_q_Mr_act1_76 {x14_1 : Int32} {y76_2 : Int32} {ys76_0 : Int32} {w : MW} {A1 A2 A3 : Int32 → MW → Prop} {E1 E2 E3 : MW → Prop} {Q1 Q2 Q3 : Int32 → MW → Prop}  (kA : ∀ x0 x1, A1 x0 x1 → A2 x0 x1 → A3 x0 x1) (kE : ∀ x0, E1 x0 → E2 x0 → E3 x0) (kQ : ∀ x0 x1, Q1 x0 x1 → Q2 x0 x1 → Q3 x0 x1) (h : q_Mr_act1_76 x14_1 y76_2 ys76_0 w A1 E1 Q1) (g : q_Mr_act1_76 x14_1 y76_2 ys76_0 w A2 E2 Q2) : q_Mr_act1_76 x14_1 y76_2 ys76_0 w A3 E3 Q3 := by
  rw [q_Mr_act1_76.eq_1] at h g ⊢
  exact ⟨(fun h1 => (kA _ _ (h.1 h1) (g.1 h1))), (fun h2 => (an_p_Mr_hasAct (h.2 h2) (g.2 h2) (fun _ _ h3 h4 => ⟨(fun h5 => (kA _ _ (h3.1 h5) (h4.1 h5))), (fun h6 => (kQ _ _ (h3.2 h6) (h4.2 h6)))⟩)))⟩
theorem an_q_Mr_act1_14 {x14_1 : Int32} {E1 E2 E3 : MW → Prop} {Q1 Q2 Q3 : Int32 → MW → Prop}  (kE : ∀ x0, E1 x0 → E2 x0 → E3 x0) (kQ : ∀ x0 x1, Q1 x0 x1 → Q2 x0 x1 → Q3 x0 x1) : ∀ (m : Nat) (x14_2 : Int32) (w : MW), q_Mr_act1_14 x14_1 E1 Q1 m x14_2 w → q_Mr_act1_14 x14_1 E2 Q2 m x14_2 w → q_Mr_act1_14 x14_1 E3 Q3 m x14_2 w := by
  intro m
  induction m with
  | zero => exact fun _ _ h _ => False.elim h
  | succ m ih =>
    intro x14_2 w h g
    rw [q_Mr_act1_14.eq_2] at h g ⊢
    exact ⟨(fun h1 => (kE _ (h.1 h1) (g.1 h1))), (fun h2 => ⟨(h.2 h2).1, ⟨(fun h3 => (an_q_Mr_act1_76  (fun _ _ h4 h5 => (ih _ _ h4 h5)) kE kQ ((h.2 h2).2.1 h3) ((g.2 h2).2.1 h3))), (fun h6 => ⟨((h.2 h2).2.2 h6).1, ⟨(fun h7 => (an_q_Mr_act1_76  (fun _ _ h8 h9 => (ih _ _ h8 h9)) kE kQ (((h.2 h2).2.2 h6).2.1 h7) (((g.2 h2).2.2 h6).2.1 h7))), (fun h10 => (an_p_Mr_isOn (((h.2 h2).2.2 h6).2.2 h10) (((g.2 h2).2.2 h6).2.2 h10) (fun _ _ h11 h12 => ⟨(fun h13 => (an_q_Mr_act1_76  (fun _ _ h14 h15 => (ih _ _ h14 h15)) kE kQ (h11.1 h13) (h12.1 h13))), (fun h16 => ⟨(h11.2 h16).1, ⟨(h11.2 h16).2.1, ⟨(fun h17 => (an_q_Mr_act1_76  (fun _ _ h18 h19 => (ih _ _ h18 h19)) kE kQ ((h11.2 h16).2.2.1 h17) ((h12.2 h16).2.2.1 h17))), (fun h20 => (an_q_Mr_act1_76  (fun _ _ h21 h22 => (ih _ _ h21 h22)) kE kQ ((h11.2 h16).2.2.2 h20) ((h12.2 h16).2.2.2 h20)))⟩⟩⟩)⟩)))⟩⟩)⟩⟩)⟩
theorem an_p_Mr_act1 {w : MW} {a0 : Int32} {Q1 Q2 Q3 : Int32 → MW → Prop}  (h : p_Mr_act1 w a0 Q1) (g : p_Mr_act1 w a0 Q2) (kQ : ∀ x0 x1, Q1 x0 x1 → Q2 x0 x1 → Q3 x0 x1) : p_Mr_act1 w a0 Q3 := by
  rw [p_Mr_act1.eq_1] at h g ⊢
  exact ⟨(fun h1 => (kQ _ _ (h.1 h1) (g.1 h1))), (fun h2 => ⟨(fun h3 => (an_q_Mr_act1_14  (fun _ h4 h5 => (kQ _ _ h4 h5)) kQ _ _ _ ((h.2 h2).1 h3) ((g.2 h2).1 h3))), (fun h6 => (kQ _ _ ((h.2 h2).2 h6) ((g.2 h2).2 h6)))⟩)⟩
/-! an act is done: the pair, open aside -/
/-- act k is bound to what is there -/
def BnC (v : MW) (k : Nat) : Prop := (((v.1 60 k).toInt = 0 ∨ (v.1 60 k).toInt = 1) ∧ (0 ≤ (v.1 57 k).toInt ∧ (v.1 57 k).toInt < tC v ∧ tkC v (v.1 57 k).toInt) ∧ (0 ≤ (v.1 58 k).toInt ∧ (v.1 58 k).toInt < tC v ∧ tkC v (v.1 58 k).toInt) ∧ ¬ (v.1 57 k).toInt = (v.1 58 k).toInt) ∨ ((v.1 60 k).toInt = 2 ∧ VaC v (v.1 57 k).toInt) ∨ (((v.1 60 k).toInt = 3 ∨ (v.1 60 k).toInt = 4) ∧ HoC v (v.1 57 k).toInt)
def BnM (w : MW) (k : Nat) : Prop := (((w.1 197 k).toInt = 0 ∨ (w.1 197 k).toInt = 1) ∧ (0 ≤ (w.1 198 k).toInt ∧ (w.1 198 k).toInt < tM w ∧ tkM w (w.1 198 k).toInt) ∧ (0 ≤ (w.1 199 k).toInt ∧ (w.1 199 k).toInt < tM w ∧ tkM w (w.1 199 k).toInt) ∧ ¬ (w.1 198 k).toInt = (w.1 199 k).toInt) ∨ ((w.1 197 k).toInt = 2 ∧ VaM w (w.1 198 k).toInt) ∨ (((w.1 197 k).toInt = 3 ∨ (w.1 197 k).toInt = 4) ∧ HoM w (w.1 198 k).toInt)
def HAc (z : MW) : Prop := ∀ k : Nat, k < 32 → z.1 60 k = z.1 197 k ∧ z.1 57 k = z.1 198 k ∧ z.1 58 k = z.1 199 k ∧ z.1 59 k = z.1 200 k
theorem bn_e {v w : MW} (hr : HRq (mx v w)) (ha : HAc (mx v w)) {k : Nat} (hk : k < 32) : BnC v k ↔ BnM w k := by
  have a := ha k hk
  have a1 : v.1 60 k = w.1 197 k := a.1
  have a2 : v.1 57 k = w.1 198 k := a.2.1
  have a3 : v.1 58 k = w.1 199 k := a.2.2.1
  have e1 : tC v = tM w := hr.1.1.1
  have tk : ∀ x : Int, 0 ≤ x → x < tM w → (tkC v x ↔ tkM w x) := fun x h0 h1 => tk_e (w := mx v w) hr.1.1 h0 h1
  unfold BnC BnM
  rw [a1, a2, a3, e1, va_e hr, ho_e hr]
  constructor
  · intro q
    rcases q with q | q | q
    · exact Or.inl ⟨q.1, ⟨q.2.1.1, q.2.1.2.1, (tk _ q.2.1.1 q.2.1.2.1).mp q.2.1.2.2⟩, ⟨q.2.2.1.1, q.2.2.1.2.1, (tk _ q.2.2.1.1 q.2.2.1.2.1).mp q.2.2.1.2.2⟩, q.2.2.2⟩
    · exact Or.inr (Or.inl q)
    · exact Or.inr (Or.inr q)
  · intro q
    rcases q with q | q | q
    · exact Or.inl ⟨q.1, ⟨q.2.1.1, q.2.1.2.1, (tk _ q.2.1.1 q.2.1.2.1).mpr q.2.1.2.2⟩, ⟨q.2.2.1.1, q.2.2.1.2.1, (tk _ q.2.2.1.1 q.2.2.1.2.1).mpr q.2.2.1.2.2⟩, q.2.2.2⟩
    · exact Or.inr (Or.inl q)
    · exact Or.inr (Or.inr q)
/-- tank and tank and not the same: the class's words -/
theorem cbd_2 {v : MW} {k : Int32} {Q Q' : Int32 → MW → Prop} (h : p_St_isTank v (v.1 57 k.toInt.toNat) (fun r4 w4 => ((r4.toInt = 0 → (Q 0 w4)) ∧ (¬ (r4.toInt = 0) → ((0 ≤ k.toInt ∧ k.toInt < 32) ∧ (p_St_isTank w4 (w4.1 58 k.toInt.toNat) (fun r7 w7 => ((r7.toInt = 0 → (Q 0 w7)) ∧ (¬ (r7.toInt = 0) → ((0 ≤ k.toInt ∧ k.toInt < 32) ∧ ((0 ≤ k.toInt ∧ k.toInt < 32) ∧ (((w7.1 57 k.toInt.toNat).toInt = (w7.1 58 k.toInt.toNat).toInt → (Q 0 w7)) ∧ (¬ ((w7.1 57 k.toInt.toNat).toInt = (w7.1 58 k.toInt.toNat).toInt) → (Q 1 w7)))))))))))))) (no : ¬ ((0 ≤ (v.1 57 k.toInt.toNat).toInt ∧ (v.1 57 k.toInt.toNat).toInt < tC v ∧ tkC v (v.1 57 k.toInt.toNat).toInt) ∧ (0 ≤ (v.1 58 k.toInt.toNat).toInt ∧ (v.1 58 k.toInt.toNat).toInt < tC v ∧ tkC v (v.1 58 k.toInt.toNat).toInt) ∧ ¬ (v.1 57 k.toInt.toNat).toInt = (v.1 58 k.toInt.toNat).toInt) → Q 0 v → Q' 0 v) (ye : ((0 ≤ (v.1 57 k.toInt.toNat).toInt ∧ (v.1 57 k.toInt.toNat).toInt < tC v ∧ tkC v (v.1 57 k.toInt.toNat).toInt) ∧ (0 ≤ (v.1 58 k.toInt.toNat).toInt ∧ (v.1 58 k.toInt.toNat).toInt < tC v ∧ tkC v (v.1 58 k.toInt.toNat).toInt) ∧ ¬ (v.1 57 k.toInt.toNat).toInt = (v.1 58 k.toInt.toNat).toInt) → Q 1 v → Q' 1 v) : p_St_isTank v (v.1 57 k.toInt.toNat) (fun r4 w4 => ((r4.toInt = 0 → (Q' 0 w4)) ∧ (¬ (r4.toInt = 0) → ((0 ≤ k.toInt ∧ k.toInt < 32) ∧ (p_St_isTank w4 (w4.1 58 k.toInt.toNat) (fun r7 w7 => ((r7.toInt = 0 → (Q' 0 w7)) ∧ (¬ (r7.toInt = 0) → ((0 ≤ k.toInt ∧ k.toInt < 32) ∧ ((0 ≤ k.toInt ∧ k.toInt < 32) ∧ (((w7.1 57 k.toInt.toNat).toInt = (w7.1 58 k.toInt.toNat).toInt → (Q' 0 w7)) ∧ (¬ ((w7.1 57 k.toInt.toNat).toInt = (w7.1 58 k.toInt.toNat).toInt) → (Q' 1 w7)))))))))))))) := by
  refine ctk_x h (fun r1 t1 g => ⟨fun c => ?_, fun c => ?_⟩)
  · rcases t1 with ⟨e, _⟩ | ⟨_, n⟩
    · rw [e] at c
      exact absurd c (by decide)
    · exact no (fun z => n z.1) (g.1 c)
  · rcases t1 with ⟨_, y1⟩ | ⟨e, _⟩
    · refine ⟨(g.2 c).1, ctk_x (g.2 c).2 (fun r2 t2 g2 => ⟨fun d => ?_, fun d => ?_⟩)⟩
      · rcases t2 with ⟨e, _⟩ | ⟨_, n⟩
        · rw [e] at d
          exact absurd d (by decide)
        · exact no (fun z => n z.2.1) (g2.1 d)
      · rcases t2 with ⟨_, y2⟩ | ⟨e, _⟩
        · have G := g2.2 d
          exact ⟨G.1, G.2.1, fun e => no (fun z => z.2.2 e) (G.2.2.1 e), fun e => ye ⟨y1, y2, e⟩ (G.2.2.2 e)⟩
        · rw [e] at d
          exact absurd i_0 d
    · rw [e] at c
      exact absurd i_0 c
theorem cbd_x {v : MW} {k : Int32} {Q Q' : Int32 → MW → Prop} (h : p_Ac_isBound v k Q) (T : 0 ≤ tC v ∧ tC v ≤ 20) (P : 0 ≤ pC v ∧ pC v ≤ 24) (kk : ∀ r : Int32, (r = 1 ∧ BnC v k.toInt.toNat) ∨ (r = 0 ∧ ¬ BnC v k.toInt.toNat) → Q r v → Q' r v) : p_Ac_isBound v k Q' := by
  rw [p_Ac_isBound.eq_1] at h ⊢
  refine ⟨h.1, fun c => ⟨(h.2.1 c).1, cbd_2 (h.2.1 c).2 (fun n g => kk 0 (Or.inr ⟨rfl, fun z => ?_⟩) g) (fun y g => kk 1 (Or.inl ⟨rfl, Or.inl ⟨Or.inl c, y⟩⟩) g)⟩, fun c => ⟨fun d => ⟨((h.2.2 c).1 d).1, cbd_2 ((h.2.2 c).1 d).2 (fun n g => kk 0 (Or.inr ⟨rfl, fun z => ?_⟩) g) (fun y g => kk 1 (Or.inl ⟨rfl, Or.inl ⟨Or.inr d, y⟩⟩) g)⟩, fun d => ⟨fun e => ?_, fun e => ⟨fun f => ?_, fun f => ⟨fun f2 => ?_, fun f2 => kk 0 (Or.inr ⟨rfl, fun z => ?_⟩) ((((h.2.2 c).2 d).2 e).2 f |>.2 f2)⟩⟩⟩⟩⟩
  · rcases z with z | z | z
    · exact n z.2
    · have := z.1
      omega
    · have := z.1
      omega
  · rcases z with z | z | z
    · exact n z.2
    · have := z.1
      omega
    · have := z.1
      omega
  · have H := ((h.2.2 c).2 d).1 e
    refine ⟨H.1, vc_x H.2 (fun r t g => kk r ?_ g)⟩
    rcases t with ⟨e1, y⟩ | ⟨e1, n⟩
    · exact Or.inl ⟨e1, Or.inr (Or.inl ⟨e, y⟩)⟩
    · refine Or.inr ⟨e1, fun z => ?_⟩
      rcases z with z | z | z
      · have := z.1
        omega
      · exact n z.2
      · have := z.1
        omega
  · have H := (((h.2.2 c).2 d).2 e).1 f
    refine ⟨H.1, ho_x H.2 T P (fun r t g => kk r ?_ g)⟩
    rcases t with ⟨e1, y⟩ | ⟨e1, n⟩
    · exact Or.inl ⟨e1, Or.inr (Or.inr ⟨Or.inl f, y⟩)⟩
    · refine Or.inr ⟨e1, fun z => ?_⟩
      rcases z with z | z | z
      · have := z.1
        omega
      · have := z.1
        omega
      · exact n z.2
  · have H := ((((h.2.2 c).2 d).2 e).2 f).1 f2
    refine ⟨H.1, ho_x H.2 T P (fun r t g => kk r ?_ g)⟩
    rcases t with ⟨e1, y⟩ | ⟨e1, n⟩
    · exact Or.inl ⟨e1, Or.inr (Or.inr ⟨Or.inr f2, y⟩)⟩
    · refine Or.inr ⟨e1, fun z => ?_⟩
      rcases z with z | z | z
      · have := z.1
        omega
      · have := z.1
        omega
      · exact n z.2
  · rcases z with z | z | z
    · have := z.1
      omega
    · have := z.1
      omega
    · have := z.1
      omega
theorem mpf_33 {w : MW} {k x y a : Int32} {R R' : Int32 → MW → Prop} (h : q_Mo_perform_33 k x y a w R) (kk : ∀ ys : Int32, (ys.toInt = 1 ∧ ((0 ≤ x.toInt ∧ x.toInt < tM w ∧ tkM w x.toInt) ∧ (0 ≤ y.toInt ∧ y.toInt < tM w ∧ tkM w y.toInt) ∧ ¬ x.toInt = y.toInt)) ∨ (ys.toInt = 0 ∧ ¬ ((0 ≤ x.toInt ∧ x.toInt < tM w ∧ tkM w x.toInt) ∧ (0 ≤ y.toInt ∧ y.toInt < tM w ∧ tkM w y.toInt) ∧ ¬ x.toInt = y.toInt)) → q_Mo_perform_95 k x y a ys w R → q_Mo_perform_95 k x y a ys w R') : q_Mo_perform_33 k x y a w R' := by
  rw [q_Mo_perform_33.eq_1] at h ⊢
  refine mtk_x h (fun r1 t1 g => ⟨fun c => ?_, fun c => ?_⟩)
  · rcases t1 with ⟨e, _⟩ | ⟨_, n⟩
    · rw [e] at c
      exact absurd c (by decide)
    · exact kk 0 (Or.inr ⟨i_0, fun z => n z.1⟩) (g.1 c)
  · rcases t1 with ⟨_, y1⟩ | ⟨e, _⟩
    · refine mtk_x (g.2 c) (fun r2 t2 g2 => ⟨fun d => ?_, fun d => ⟨fun e => kk 0 (Or.inr ⟨i_0, fun z => z.2.2 e⟩) ((g2.2 d).1 e), fun e => ?_⟩⟩)
      · rcases t2 with ⟨e, _⟩ | ⟨_, n⟩
        · rw [e] at d
          exact absurd d (by decide)
        · exact kk 0 (Or.inr ⟨i_0, fun z => n z.2.1⟩) (g2.1 d)
      · rcases t2 with ⟨_, y2⟩ | ⟨e2, _⟩
        · exact kk 1 (Or.inl ⟨i_1, y1, y2, e⟩) ((g2.2 d).2 e)
        · rw [e2] at d
          exact absurd i_0 d
    · rw [e] at c
      exact absurd i_0 c
theorem mpf_x {w : MW} {k : Int32} {R R' : Int32 → MW → Prop} (h : p_Mo_perform w k R) (hw : BND w) (kk : ∀ ys : Int32, (ys.toInt = 1 ∧ BnM w k.toInt.toNat) ∨ (ys.toInt = 0 ∧ ¬ BnM w k.toInt.toNat) → q_Mo_perform_95 k (w.1 198 k.toInt.toNat) (w.1 199 k.toInt.toNat) (w.1 197 k.toInt.toNat) ys w R → q_Mo_perform_95 k (w.1 198 k.toInt.toNat) (w.1 199 k.toInt.toNat) (w.1 197 k.toInt.toNat) ys w R') : p_Mo_perform w k R' := by
  have T := hb_T hw
  have P := hb_P hw
  have b := bd_197 hw k.toInt.toNat
  rw [p_Mo_perform.eq_1] at h ⊢
  have two : ∀ (c : (w.1 197 k.toInt.toNat).toInt = 0 ∨ (w.1 197 k.toInt.toNat).toInt = 1), q_Mo_perform_33 k (w.1 198 k.toInt.toNat) (w.1 199 k.toInt.toNat) (w.1 197 k.toInt.toNat) w R → q_Mo_perform_33 k (w.1 198 k.toInt.toNat) (w.1 199 k.toInt.toNat) (w.1 197 k.toInt.toNat) w R' := fun c g => mpf_33 g (fun ys q g2 => kk ys (by
    rcases q with ⟨q1, q2⟩ | ⟨q1, q2⟩
    · exact Or.inl ⟨q1, Or.inl ⟨c, q2⟩⟩
    · refine Or.inr ⟨q1, fun z => ?_⟩
      rcases z with z | z | z
      · exact q2 z.2
      · have := z.1
        omega
      · have := z.1
        omega) g2)
  refine ⟨h.1, h.2.1, h.2.2.1, fun c => two (Or.inl c) (h.2.2.2.1 c), fun c => ⟨fun d => ⟨fun e => ⟨fun f => kk 0 (Or.inr ⟨i_0, fun z => ?_⟩) ((((h.2.2.2.2 c).1 d).1 e).1 f), fun f => hm_x ((((h.2.2.2.2 c).1 d).1 e).2 f) T P (fun r t g => ⟨fun z => ?_, fun z => ?_⟩)⟩, fun e => vm_x (((h.2.2.2.2 c).1 d).2 e) (fun r t g => kk r ?_ g)⟩, fun d => two (Or.inr (Classical.not_not.mp d)) ((h.2.2.2.2 c).2 d)⟩⟩
  · rcases z with z | z | z
    · have := z.1
      omega
    · have := z.1
      omega
    · have := z.1
      omega
  · rcases t with ⟨e1, _⟩ | ⟨_, n⟩
    · rw [e1] at z
      exact absurd z (by decide)
    · refine kk 0 (Or.inr ⟨i_0, fun z2 => ?_⟩) (g.1 z)
      rcases z2 with z2 | z2 | z2
      · have := z2.1
        omega
      · have := z2.1
        omega
      · exact n z2.2
  · rcases t with ⟨_, y⟩ | ⟨e1, _⟩
    · exact kk 1 (Or.inl ⟨i_1, Or.inr (Or.inr ⟨by omega, y⟩)⟩) (g.2 z)
    · rw [e1] at z
      exact absurd i_0 z
  · rcases t with ⟨e1, y⟩ | ⟨e1, n⟩
    · exact Or.inl ⟨by rw [e1]; exact i_1, Or.inr (Or.inl ⟨Classical.not_not.mp e, y⟩)⟩
    · refine Or.inr ⟨by rw [e1]; exact i_0, fun z => ?_⟩
      rcases z with z | z | z
      · have := z.1
        omega
      · exact n z.2
      · have := z.1
        omega
/-- the pair of open, as it is wanted here -/
def OpP (v w : MW) (a b c : Int32) : Prop := ∀ Q Q' : Int32 → MW → Prop, p_Ac_openWay v a b c Q → (∀ r v', (∀ R R' : Int32 → MW → Prop, p_Mo_open w a b c R → (∀ w', HRq (mx v' w') → R r w' → R' r w') → p_Mo_open w a b c R') → Q r v' → Q' r v') → p_Ac_openWay v a b c Q'
theorem pf_pair {v w : MW} {k : Int32} {Q Q' : Int32 → MW → Prop} {Bc Bm : Int → Prop} (k0 : 0 ≤ k.toInt) (k1 : k.toInt < 32) (hv : BND v) (hw : BND w) (hc : AC v) (hr : HRq (mx v w)) (ha : HAc (mx v w)) (bc : p_Ro_barring v k (fun y v' => v' = v ∧ Bc y.toInt)) (bm : p_Mr_act1 w k (fun y w' => w' = w ∧ Bm y.toInt)) (be : ∀ y y', Bc y → Bm y' → y = y') (op : ∀ a b c, OpP v w a b c) (h : p_Ac_perform v k Q) (kQ : ∀ r v', (∀ R R' : Int32 → MW → Prop, p_Mo_perform w k R → (∀ w', HRq (mx v' w') → R r w' → R' r w') → p_Mo_perform w k R') → Q r v' → Q' r v') : p_Ac_perform v k Q' := by
  obtain ⟨T, P, eT, eP, _⟩ := hr_T hw hr
  have be' := bn_e hr ha (k := k.toInt.toNat) (by omega)
  have a := ha k.toInt.toNat (by omega)
  have a1 : v.1 60 k.toInt.toNat = w.1 197 k.toInt.toNat := a.1
  have a2 : v.1 57 k.toInt.toNat = w.1 198 k.toInt.toNat := a.2.1
  have a3 : v.1 58 k.toInt.toNat = w.1 199 k.toInt.toNat := a.2.2.1
  have a4 : v.1 59 k.toInt.toNat = w.1 200 k.toInt.toNat := a.2.2.2
  have ac := hc k
  rw [p_Ac_perform.eq_1, p_Ac_isAct.eq_1] at h ⊢
  refine ⟨fun c => by omega, fun c => ⟨fun d => by omega, fun d => ⟨fun z => absurd z (by decide), fun z => ?_⟩⟩⟩
  refine cbd_x (((h.2 c).2 d).2 z) T P (fun r3 b3 g3 => ⟨fun e => ?_, fun e => ?_⟩)
  case refine_2 =>
    rcases b3 with ⟨e3, _⟩ | ⟨_, nb⟩
    · rw [e3] at e
      exact absurd (by decide) e
    · refine kQ 1 v (fun R R' hR kR => mpf_x hR hw (fun ys q g => ?_)) (g3.2 e)
      rcases q with ⟨_, q2⟩ | ⟨q1, _⟩
      · exact absurd (be'.mpr q2) nb
      · rw [q_Mo_perform_95.eq_1] at g ⊢
        exact ⟨fun z2 => absurd q1 z2, fun z2 => kR w hr (g.2 z2)⟩
  case refine_1 =>
    rcases b3 with ⟨_, yb⟩ | ⟨e3, _⟩
    case inr =>
      rw [e3] at e
      exact absurd i_0 e
    case inl =>
      have G := g3.1 e
      have ym := be'.mp yb
      have ref : ∀ (y : Int), Bc y → ∀ R R' : Int32 → MW → Prop, p_Mo_perform w k R → (¬ y ≤ 0 → R 2 w → R' 2 w) → (y ≤ 0 → ((¬ (w.1 197 k.toInt.toNat).toInt = 0 → ((¬ (w.1 197 k.toInt.toNat).toInt = 1 → ((¬ (w.1 197 k.toInt.toNat).toInt = 2 → mCD w (w.1 198 k.toInt.toNat) (w.1 199 k.toInt.toNat) (w.1 197 k.toInt.toNat) R → mCD w (w.1 198 k.toInt.toNat) (w.1 199 k.toInt.toNat) (w.1 197 k.toInt.toNat) R') ∧ (¬ (¬ (w.1 197 k.toInt.toNat).toInt = 2) → mSet w (w.1 198 k.toInt.toNat) (w.1 199 k.toInt.toNat) R → mSet w (w.1 198 k.toInt.toNat) (w.1 199 k.toInt.toNat) R'))) ∧ (¬ (¬ (w.1 197 k.toInt.toNat).toInt = 1) → mCl w (w.1 198 k.toInt.toNat) (w.1 199 k.toInt.toNat) R → mCl w (w.1 198 k.toInt.toNat) (w.1 199 k.toInt.toNat) R'))) ∧ (¬ (¬ (w.1 197 k.toInt.toNat).toInt = 0) → p_Mo_open w (w.1 198 k.toInt.toNat) (w.1 199 k.toInt.toNat) (w.1 200 k.toInt.toNat) R → p_Mo_open w (w.1 198 k.toInt.toNat) (w.1 199 k.toInt.toNat) (w.1 200 k.toInt.toNat) R'))) → p_Mo_perform w k R' := fun y by' R R' hR k2 kf => mpf_x hR hw (fun ys q g => by
        rw [q_Mo_perform_95.eq_1] at g ⊢
        refine ⟨fun nz => an_p_Mr_act1 (g.1 nz) bm (fun r8 w8 g8 b8 => ?_), fun z2 => ?_⟩
        · obtain ⟨ew, b8⟩ := b8
          have ey := be y _ by' b8
          rw [ew] at g8 ⊢
          refine ⟨fun z8 => ?_, fun z8 => k2 (by omega) (g8.2 z8)⟩
          have F := kf (by omega)
          have G8 := g8.1 z8
          exact ⟨fun c0 => ⟨fun c1 => ⟨fun c2 => ((F.1 c0).1 c1).1 c2 (((G8.1 c0).1 c1).1 c2), fun c2 => ((F.1 c0).1 c1).2 c2 (((G8.1 c0).1 c1).2 c2)⟩, fun c1 => (F.1 c0).2 c1 ((G8.1 c0).2 c1)⟩, fun c0 => ⟨(G8.2 c0).1, F.2 c0 (G8.2 c0).2⟩⟩
        · rcases q with ⟨q1, _⟩ | ⟨_, q2⟩
          · rw [Classical.not_not.mp z2] at q1
            exact absurd q1 (by decide)
          · exact absurd ym q2)
      refine ⟨G.1, an_p_Ro_barring G.2 bc (fun r6 w6 g6 b6 => ?_)⟩
      obtain ⟨ew, b6⟩ := b6
      rw [ew] at g6 ⊢
      refine ⟨fun c6 => ?_, fun c6 => kQ 2 v (fun R R' hR kR => ref _ b6 R R' hR (fun _ g => kR w hr g) (fun y0 => absurd y0 c6)) (g6.2 c6)⟩
      have H := g6.1 c6
      rw [a1, a2, a3, a4] at H ⊢
      refine ⟨H.1, fun c0 => ?_, fun c0 => ⟨fun c1 => ?_, fun c1 => ⟨fun c2 => ?_, fun c2 => ⟨fun c3 => ?_, fun c3 => ?_⟩⟩⟩⟩
      · have H0 := H.2.1 c0
        refine ⟨H0.1, H0.2.1, H0.2.2.1, op _ _ _ _ _ H0.2.2.2 (fun r v' pr g => kQ r v' (fun R R' hR kR => ref _ b6 R R' hR (fun n => absurd c6 n) (fun _ => ⟨fun n => absurd c0 n, fun _ g2 => pr R R' g2 kR⟩)) g)⟩
      · have H0 := (H.2.2 c0).1 c1
        refine ⟨H0.1, H0.2.1, cw_pair hw hr H0.2.2 (fun r v' pr g => kQ r v' (fun R R' hR kR => ref _ b6 R R' hR (fun n => absurd c6 n) (fun _ => ⟨fun _ => ⟨fun n => absurd c1 n, fun _ g2 => pr R R' g2 kR⟩, fun n => absurd c0 n⟩)) g)⟩
      · have H0 := ((H.2.2 c0).2 c1).1 c2
        have va : VaM w (w.1 198 k.toInt.toNat).toInt := by
          rcases ym with z | z | z
          · have := z.1
            omega
          · exact z.2
          · have := z.1
            omega
        have b9 := ac.2
        rw [show k.toInt.toNat = k.toInt.toNat from rfl, a1, a3] at b9
        refine ⟨H0.1, H0.2.1, st_pair hv hw hr va.1 va.2.1 (b9 c2) H0.2.2 (fun r v' pr g => kQ r v' (fun R R' hR kR => ref _ b6 R R' hR (fun n => absurd c6 n) (fun _ => ⟨fun _ => ⟨fun _ => ⟨fun n => absurd c2 n, fun _ g2 => pr R R' g2 kR⟩, fun n => absurd (Classical.not_not.mp n) c1⟩, fun n => absurd (Classical.not_not.mp n) c0⟩)) g)⟩
      · have H0 := (((H.2.2 c0).2 c1).2 c2).1 c3
        have ho : HoM w (w.1 198 k.toInt.toNat).toInt := by
          rcases ym with z | z | z
          · have := z.1
            omega
          · have := z.1
            omega
          · exact z.2
        have b9 := ac.1
        rw [a1, a3] at b9
        have hb : 0 ≤ (w.1 198 k.toInt.toNat).toInt ∧ (w.1 198 k.toInt.toNat).toInt < tM w + pM w := by
          have P' := hb_P hw
          have T' := hb_T hw
          rcases ho with z | z
          · have := z.1
            have := z.2.1
            omega
          · have := z.1
            have := z.2
            omega
        refine ⟨H0.1, H0.2.1, cl_pair c3 hv hw hr hb.1 hb.2 (b9 c3) H0.2.2 (fun r v' pr g => kQ r v' (fun R R' hR kR => ref _ b6 R R' hR (fun n => absurd c6 n) (fun _ => ⟨fun _ => ⟨fun _ => ⟨fun _ g2 => pr R R' g2 kR, fun n => absurd (Classical.not_not.mp n) c2⟩, fun n => absurd (Classical.not_not.mp n) c1⟩, fun n => absurd (Classical.not_not.mp n) c0⟩)) g)⟩
      · have H0 := (((H.2.2 c0).2 c1).2 c2).2 c3
        have ho : HoM w (w.1 198 k.toInt.toNat).toInt := by
          rcases ym with z | z | z
          · have := z.1
            omega
          · have := z.1
            omega
          · exact z.2
        have hb : 0 ≤ (w.1 198 k.toInt.toNat).toInt ∧ (w.1 198 k.toInt.toNat).toInt < tM w + pM w := by
          have P' := hb_P hw
          have T' := hb_T hw
          rcases ho with z | z
          · have := z.1
            have := z.2.1
            omega
          · have := z.1
            have := z.2
            omega
        have e4 : (w.1 197 k.toInt.toNat).toInt = 4 := by
          rcases ym with z | z | z
          · have := z.1
            omega
          · have := z.1
            omega
          · have := z.1
            omega
        refine ⟨H0.1, dr_pair (b := w.1 199 k.toInt.toNat) (y := w.1 197 k.toInt.toNat) e4 hw hr hb.1 hb.2 H0.2 (fun r v' pr g => kQ r v' (fun R R' hR kR => ref _ b6 R R' hR (fun n => absurd c6 n) (fun _ => ⟨fun _ => ⟨fun _ => ⟨fun _ g2 => pr R R' g2 kR, fun n => absurd (Classical.not_not.mp n) c2⟩, fun n => absurd (Classical.not_not.mp n) c1⟩, fun n => absurd (Classical.not_not.mp n) c0⟩)) g)⟩
