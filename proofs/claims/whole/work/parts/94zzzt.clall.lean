/-! all ways are closed, on both sides -/
theorem rm_pair2 {v w : MW} {k : Int32} {Q Q' : MW → Prop} (T : 0 ≤ tM w ∧ tM w ≤ 20) (P : 0 ≤ pM w ∧ pM w ≤ 24) (hr : HRq (mx v w)) (k0 : 0 ≤ k.toInt) (k1 : k.toInt < (w.1 127 26).toInt) (h : p_Wa_remove v k 0 Q) (kQ : ∀ v', (∀ R R', p_Mo_close w k R → (∀ w', HRq (mx v' w') → (w'.1 127 26).toInt = (w.1 127 26).toInt - 1 → tM w' = tM w → pM w' = pM w → R w' → R' w') → p_Mo_close w k R') → Q v' → Q' v') : p_Wa_remove v k 0 Q' := by
  have nz := w_n hr.2.2.2.1
  rw [mx_m _ _ (by decide)] at nz
  have kn : k.toInt.toNat < nwy (mx v w) := by omega
  have v26 : v.1 26 1 = w.1 127 26 := hr.2.2.2.1.1
  have H : RmH v k.toInt.toNat (wln (mx v w) k.toInt.toNat) (fun i => ent (mx v w) k.toInt.toNat i / 2) (fun i => (atM (mx v w) (ent (mx v w) k.toInt.toNat (i + 1))).toNat) := RmH_g (fun c j hc => (mx_c v w hc j).symm) (rmh_z P hr.1 hr.2.2.2 kn)
  refine rm_x h H (w_l hr.2.2.2.1 kn).2.1 k0 (by rw [v26]; exact k1) (by rw [v26]; omega) (fun v' rc g => kQ v' (fun R R' hR kR => mcl2_x hR T k0 k1 (by omega) (fun w' cm g2 => ?_)) g)
  have f := cw_read hr kn T rc cm
  have m := tM_m (f.1 lPm rfl)
  have m1 : tM w' = tM w := m.1
  have m2 : pM w' = pM w := m.2.1
  refine kR w' (cw_hr (z := mx v w) P.2 T hr f (fun j => ?_)) ?_ m1 m2 g2
  · rw [mx_j _ _ (by decide), mx_j _ _ (by decide)]
    obtain ⟨w0, ri, sh⟩ := rc
    rw [sh.1]
    show w0.2.1 20 j = v.2.1 20 j
    rw [ri.2.1]
  · have f2 := f.2.2.1
    rw [mx_m _ _ (by decide)] at f2
    omega
/-- what the class left goes with whatever the reference has -/
def RmU (v : MW) (x : Int32) (v1 : MW) : Prop := ∀ w : MW, (0 ≤ tM w ∧ tM w ≤ 20) → (0 ≤ pM w ∧ pM w ≤ 24) → HRq (mx v w) → x.toInt < (w.1 127 26).toInt → ∀ R R' : MW → Prop, p_Mo_close w x R → (∀ w', HRq (mx v1 w') → (w'.1 127 26).toInt = (w.1 127 26).toInt - 1 → tM w' = tM w → pM w' = pM w → R w' → R' w') → p_Mo_close w x R'
theorem rm_u {v : MW} {x : Int32} {Q Q' : MW → Prop} (x0 : 0 ≤ x.toInt) (h : p_Wa_remove v x 0 Q) (k : ∀ v1, RmU v x v1 → Q v1 → Q' v1) : p_Wa_remove v x 0 Q' := by
  refine al_p_Wa_remove (I := MW) v (Q1 := fun w v1 => Q v1 ∧ ((0 ≤ tM w ∧ tM w ≤ 20) → (0 ≤ pM w ∧ pM w ≤ 24) → HRq (mx v w) → x.toInt < (w.1 127 26).toInt → ∀ R R' : MW → Prop, p_Mo_close w x R → (∀ w', HRq (mx v1 w') → (w'.1 127 26).toInt = (w.1 127 26).toInt - 1 → tM w' = tM w → pM w' = pM w → R w' → R' w') → p_Mo_close w x R')) (fun w => ?_) (fun v1 q => k v1 (fun w => (q w).2) (q v).1)
  by_cases c : (0 ≤ tM w ∧ tM w ≤ 20) ∧ (0 ≤ pM w ∧ pM w ≤ 24) ∧ HRq (mx v w) ∧ x.toInt < (w.1 127 26).toInt
  · exact rm_pair2 c.1 c.2.1 c.2.2.1 x0 c.2.2.2 h (fun v' pr g => ⟨g, fun _ _ _ _ => pr⟩)
  · exact al_p_Wa_remove (I := Unit) () (Q1 := fun _ v1 => Q v1) (fun _ => h) (fun v1 q => ⟨q (), fun a b d e => absurd ⟨a, b, d, e⟩ c⟩)
/-- the reference's loop, from x ways on -/
def CaL (v v' : MW) (x : Int) : Prop := ∀ w : MW, (0 ≤ tM w ∧ tM w ≤ 20) → (0 ≤ pM w ∧ pM w ≤ 24) → HRq (mx v w) → (w.1 127 26).toInt = x + 1 → ∀ (E E' Q Q' : MW → Prop) (m : Nat), q_Mo_closeAll_0 E Q m w → (∀ w', HRq (mx v' w') → E w' → E' w') → q_Mo_closeAll_0 E' Q' m w
theorem ca_0 (v : MW) {x : Int} (hx : x = -1) : CaL v v x := by
  intro w _ _ hr e E E' Q Q' m h k
  cases m with
  | zero => exact False.elim h
  | succ m =>
    rw [q_Mo_closeAll_0.eq_2] at h ⊢
    exact ⟨fun c => k w hr (h.1 c), fun c => by omega⟩
theorem ca_s {v v1 v' : MW} {x : Int32} (x0 : 0 ≤ x.toInt) (x1 : x.toInt ≤ 23) (r : RmU v x v1) (c : CaL v1 v' (x.toInt - 1)) : CaL v v' x.toInt := by
  intro w T P hr e E E' Q Q' m h k
  cases m with
  | zero => exact False.elim h
  | succ m =>
    rw [q_Mo_closeAll_0.eq_2] at h ⊢
    refine ⟨fun d => by omega, fun d => ?_⟩
    have ex : (w.1 127 26) - (1 : Int32) = x := by
      apply ti_inj
      have q := ti_sub2 e i_1 (by omega) (by omega)
      omega
    have H := h.2 d
    rw [ex] at H ⊢
    exact r w T P hr (by omega) _ _ H (fun w' hr' e' et ep g => c w' (by rw [et]; exact T) (by rw [ep]; exact P) hr' (by omega) E E' Q Q' m g k)
theorem ca_7 {E E' Q Q' : MW → Prop} : ∀ (m : Nat) (x : Int32) (v : MW), q_Wa_closeAll_7 E Q m x v → -1 ≤ x.toInt → x.toInt ≤ 23 → (∀ v', CaL v v' x.toInt → E v' → E' v') → q_Wa_closeAll_7 E' Q' m x v := by
  intro m
  induction m with
  | zero => exact fun _ _ h _ _ _ => False.elim h
  | succ m ih =>
    intro x v h x0 x1 k
    rw [q_Wa_closeAll_7.eq_2] at h ⊢
    refine ⟨fun d => k v (ca_0 v (by omega)) (h.1 d), fun d => ?_⟩
    have e : (x + (-1 : Int32)).toInt = x.toInt - 1 := by
      have q := ti_add2 (Eq.refl x.toInt) m1_i (by omega) (by omega)
      omega
    refine rm_u (by omega) (h.2 d) (fun v1 r g => ih _ _ g (by omega) (by omega) (fun v' c g2 => k v' (ca_s (by omega) x1 r ?_) g2))
    rw [e] at c
    exact c
/-- closeAll, whatever the reference has -/
theorem ca_u {v : MW} {Q Q' : MW → Prop} (b0 : 0 ≤ (v.1 26 1).toInt) (b1 : (v.1 26 1).toInt ≤ 24) (h : p_Wa_closeAll v Q) (k : ∀ v', (∀ w : MW, (0 ≤ tM w ∧ tM w ≤ 20) → (0 ≤ pM w ∧ pM w ≤ 24) → HRq (mx v w) → ∀ R R' : MW → Prop, p_Mo_closeAll w R → (∀ w', HRq (mx v' w') → R w' → R' w') → p_Mo_closeAll w R') → Q v' → Q' v') : p_Wa_closeAll v Q' := by
  have e := ti_sub2 (Eq.refl (v.1 26 1).toInt) i_1 (by omega) (by omega)
  rw [p_Wa_closeAll.eq_1] at h ⊢
  refine ca_7 _ _ _ h (by omega) (by omega) (fun v' c g => k v' (fun w T P hr R R' hR kR => ?_) g)
  rw [p_Mo_closeAll.eq_1] at hR ⊢
  have v26 : v.1 26 1 = w.1 127 26 := hr.2.2.2.1.1
  rw [e] at c
  exact c w T P hr (by rw [← v26]; omega) _ _ _ _ _ hR kR
