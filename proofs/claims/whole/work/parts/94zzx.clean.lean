/-! clean: both sides -/
theorem cln_x {v : MW} {a b : Int32} {Q Q' : Int32 → MW → Prop} (h : p_Ac_cleanSpace v a b Q) (T : 0 ≤ tC v ∧ tC v ≤ 20) (P : 0 ≤ pC v ∧ pC v ≤ 24) (n : (v.1 26 1).toInt ≤ 24) (b0 : 1 ≤ b.toInt ∧ b.toInt ≤ 5) (k3 : ¬ (v.1 17 a.toInt.toNat).toInt = 0 ∨ HsC v a.toInt → Q 3 v → Q' 3 v) (k0 : (v.1 17 a.toInt.toNat).toInt = 0 → ¬ HsC v a.toInt → Q 0 (sI v 23 (6 * a.toInt.toNat + b.toInt.toNat) (v.1 7 1)) → Q' 0 (sI v 23 (6 * a.toInt.toNat + b.toInt.toNat) (v.1 7 1))) : p_Ac_cleanSpace v a b Q' := by
  rw [p_Ac_cleanSpace.eq_1] at h ⊢
  have hh := h.1
  refine ⟨h.1, fun c => k3 (Or.inl c) (h.2.1 c), fun c => hs_x (h.2.2 c) T P n (fun r hs g => ⟨fun z => ?_, fun z => k3 (Or.inr (Classical.not_not.mp (fun q => z (hs.mpr q)))) (g.2 z)⟩)⟩
  have H := g.1 z
  rw [p_St_cleanSpace.eq_1] at H ⊢
  have m1 := ti_mul2 (Eq.refl a.toInt) (by decide : ((6 : Int32)).toInt = 6) (by omega) (by omega)
  have m2 := ti_add2 m1 (Eq.refl b.toInt) (by omega) (by omega)
  have m3 : ((a * (6 : Int32)) + b).toInt.toNat = 6 * a.toInt.toNat + b.toInt.toNat := by omega
  rw [m3] at H ⊢
  exact ⟨H.1, k0 (Classical.not_not.mp c) (hs.mp z) H.2⟩
/-- the reference's words for clean and drain -/
def mCD (w : MW) (a b y : Int32) (Q : Int32 → MW → Prop) : Prop := p_Mo_isOnWay w a (fun r13 w13 => ((¬ r13.toInt = 0 → (Q 3 w13)) ∧ (¬ (¬ r13.toInt = 0) → ((¬ y.toInt = 3 → (q_Mo_perform_245 a b y w13 Q)) ∧ (¬ (¬ y.toInt = 3) → (p_Mo_liquidIn w13 a (fun r24 w24 => ((r24.toInt ≤ 0 → (q_Mo_perform_245 a b y w24 Q)) ∧ (¬ (r24.toInt ≤ 0) → (Q 3 w24))))))))))
/-- what is read of the ways and of the stock -/
theorem hr_l24 {v w : MW} (hr : HRq (mx v w)) (k : Nat) (hk : (k : Int) < (w.1 127 26).toInt) : (w.1 185 k).toInt ≤ 24 := by
  have n := (w_n hr.2.2.2.1).1
  rw [mx_m _ _ (by decide)] at n
  have q := (hr.2.2.2.1.2.2.2 k (by omega)).2.1.2
  rw [mx_m _ _ (by decide)] at q
  exact q
theorem hr_s200 {v w : MW} (hr : HRq (mx v w)) (p : Nat) (hp : (p : Int) < pM w) : (w.1 169 p).toInt ≤ 200 := by
  have q := (hr.2.2.1.2.2.2.1 p hp).2.1.2
  rw [mx_m _ _ (by decide)] at q
  exact q
theorem hr_skl {v w : MW} (hr : HRq (mx v w)) : SKl v w := SKl_g (v := mx v w) (w := mx v w) (fun j => (mx_c _ _ (by decide) j).symm) (mx_am v w rfl) hr.2.2.1.1
theorem mcl_x {v w : MW} {a b y : Int32} {Q Q' : Int32 → MW → Prop} (h : mCD w a b y Q) (ey : y.toInt = 3) (hv : BND v) (hB : BND w) (hr : HRq (mx v w)) (a0 : 0 ≤ a.toInt) (a1 : a.toInt < tM w + pM w) (b0 : 1 ≤ b.toInt ∧ b.toInt ≤ 5) (k3 : ¬ (v.1 17 a.toInt.toNat).toInt = 0 ∨ IwM w a.toInt → Q 3 w → Q' 3 w) (k0 : (v.1 17 a.toInt.toNat).toInt = 0 → ¬ IwM w a.toInt → Q 0 (sI w 174 (6 * a.toInt.toNat + b.toInt.toNat) (w.1 127 78)) → Q' 0 (sI w 174 (6 * a.toInt.toNat + b.toInt.toNat) (w.1 127 78))) : mCD w a b y Q' := by
  have T := hb_T hB
  have P := hb_P hB
  have b17 := bd_17 hv a.toInt.toNat
  unfold mCD at h ⊢
  refine iw_x h T (fun j => m_186 hB j) (fun k hk => hr_l24 hr k hk) (fun r iw g => ⟨fun c => k3 (Or.inr (Classical.not_not.mp (fun q => c (iw.mpr q)))) (g.1 c), fun c => ⟨fun d => absurd ey d, fun d => ?_⟩⟩)
  have niw := iw.mp (Classical.not_not.mp c)
  refine li_x ((g.2 c).2 d) (hr_skl hr) a0 a1 T P (fun p hp => hr_s200 hr p hp) (fun g2 => ⟨fun e => ?_, fun e => k3 (Or.inl (by omega)) (g2.2 e)⟩)
  have H := g2.1 e
  rw [q_Mo_perform_245.eq_1] at H ⊢
  refine ⟨fun d2 => absurd ey d2, fun d2 => ?_⟩
  have G := H.2 d2
  have m1 := ti_mul2 (by decide : ((6 : Int32)).toInt = 6) (Eq.refl a.toInt) (by omega) (by omega)
  have m2 := ti_add2 m1 (Eq.refl b.toInt) (by omega) (by omega)
  have m3 : (((6 : Int32) * a) + b).toInt.toNat = 6 * a.toInt.toNat + b.toInt.toNat := by omega
  rw [m3] at G ⊢
  exact ⟨G.1, k0 (by omega) niw G.2⟩
/-- both sides tell the same of a space on a way -/
theorem on_m {v w : MW} {x : Int} (hw : BND w) (hr : HRq (mx v w)) (x0 : 0 ≤ x) (x1 : x < tM w + pM w) : HsC v x ↔ IwM w x := by
  have q := on_z (z := mx v w) (hb_T hw : 0 ≤ tM w ∧ tM w ≤ 20) (hb_P hw : 0 ≤ pM w ∧ pM w ≤ 24) hr.1 hr.2.2.2 x0 x1
  have e1 : HsC (mx v w) x ↔ HsC v x := Iff.rfl
  have e2 : IwM (mx v w) x ↔ IwM w x := Iff.rfl
  rw [← e1, ← e2]
  exact q
theorem hr_T {v w : MW} (hw : BND w) (hr : HRq (mx v w)) : (0 ≤ tC v ∧ tC v ≤ 20) ∧ (0 ≤ pC v ∧ pC v ≤ 24) ∧ tC v = tM w ∧ pC v = pM w ∧ (v.1 26 1).toInt ≤ 24 := by
  have e1 : tC v = tM w := hr.1.1.1
  have e2 : pC v = pM w := hr.1.1.2.1
  have e3 : v.1 26 1 = w.1 127 26 := hr.2.2.2.1.1
  have T := hb_T hw
  have P := hb_P hw
  rw [e1, e2, e3]
  exact ⟨T, P, rfl, rfl, (bd_127_26 hw).2⟩
theorem cl_pair {v w : MW} {a b y : Int32} {Q Q' : Int32 → MW → Prop} (ey : y.toInt = 3) (hv : BND v) (hw : BND w) (hr : HRq (mx v w)) (a0 : 0 ≤ a.toInt) (a1 : a.toInt < tM w + pM w) (b0 : 1 ≤ b.toInt ∧ b.toInt ≤ 5) (h : p_Ac_cleanSpace v a b Q) (kQ : ∀ r v', (∀ R R', mCD w a b y R → (∀ w', HRq (mx v' w') → R r w' → R' r w') → mCD w a b y R') → Q r v' → Q' r v') : p_Ac_cleanSpace v a b Q' := by
  obtain ⟨T, P, eT, eP, n⟩ := hr_T hw hr
  have on := on_m hw hr a0 a1
  refine cln_x h T P n b0 (fun c g => kQ _ _ (fun R R' hR kR => ?_) g) (fun c1 c2 g => kQ _ _ (fun R R' hR kR => ?_) g)
  · refine mcl_x hR ey hv hw hr a0 a1 b0 (fun _ g2 => kR _ hr g2) (fun d1 d2 => ?_)
    rcases c with c | c
    · exact absurd d1 c
    · exact absurd (on.mp c) d2
  · refine mcl_x hR ey hv hw hr a0 a1 b0 (fun d => ?_) (fun d1 d2 g2 => kR _ ?_ g2)
    · exfalso
      rcases d with d | d
      · exact d c1
      · exact c2 (on.mpr d)
    · have ag : ∀ m : Pl, off [(23, none), (174, none)] m = true → Ag m (mx v w) (mx (sI v 23 (6 * a.toInt.toNat + b.toInt.toNat) (v.1 7 1)) (sI w 174 (6 * a.toInt.toNat + b.toInt.toNat) (w.1 127 78))) := fun m hm => mx_ag (fun k j hk => by
        have q := off_hit hm hk
        exact ⟨fun _ => sI_oth _ _ _ _ _ _ (fun e => by rw [e] at q; cases q), fun _ => sI_oth _ _ _ _ _ _ (fun e => by rw [e] at q; cases q)⟩)
      have tm := tM_m (ag lPm rfl)
      have now : v.1 7 1 = w.1 127 78 := hr.2.2.1.2.1.2.2
      have e23 : ∀ j, (mx (sI v 23 (6 * a.toInt.toNat + b.toInt.toNat) (v.1 7 1)) (sI w 174 (6 * a.toInt.toNat + b.toInt.toNat) (w.1 127 78))).1 23 j = if j = 6 * a.toInt.toNat + b.toInt.toNat then v.1 7 1 else (mx v w).1 23 j := fun j => by
        rw [mx_c _ _ (by decide), sI_if, mx_c _ _ (by decide)]
      have e174 : ∀ j, (mx (sI v 23 (6 * a.toInt.toNat + b.toInt.toNat) (v.1 7 1)) (sI w 174 (6 * a.toInt.toNat + b.toInt.toNat) (w.1 127 78))).1 174 j = if j = 6 * a.toInt.toNat + b.toInt.toNat then w.1 127 78 else (mx v w).1 174 j := fun j => by
        rw [mx_m _ _ (by decide), sI_if, mx_m _ _ (by decide)]
      obtain ⟨s1, s2, s3, s4, s5⟩ := hr.2.2.1
      refine ⟨HPl_ag (ag lPL rfl) hr.1, HTb_ag (ag lTq rfl) hr.2.1, ⟨SKl_g (fun j => ag [(17, none)] rfl 17 j rfl) (ag lSl rfl) s1, ?_, ?_, ?_, ?_⟩, HWy_ag (ag lPL rfl) (ag lWy rfl) (fun p => ag [(17, none)] rfl 17 _ rfl) hr.2.2.2⟩
      · unfold SKv
        rw [tm.1, tm.2.1, ag [(7, some 1)] rfl 7 1 rfl, ag [(127, some 78)] rfl 127 78 rfl]
        refine ⟨fun x hx => ?_, fun x l hx h1 h2 => ?_, s2.2.2⟩
        · rw [ag [(17, none)] rfl 17 x rfl, ag [(173, none)] rfl 173 x rfl, ag [(19, none)] rfl 19 x rfl]
          exact s2.1 x hx
        · rw [e23, e174]
          by_cases q : 6 * x + l = 6 * a.toInt.toNat + b.toInt.toNat
          · rw [if_pos q, if_pos q]
            exact now
          · rw [if_neg q, if_neg q]
            exact s2.2.1 x l hx h1 h2
      · unfold SKt
        rw [tm.1, tm.2.2.2]
        intro t ht tk
        rw [ag [(18, none)] rfl 18 t rfl, ag [(165, none)] rfl 165 t rfl, ag [(10, none)] rfl 10 t rfl, ag [(164, none)] rfl 164 t rfl, ag [(166, none)] rfl 166 t rfl]
        exact s3 t ht tk
      · unfold SKp
        rw [tm.1, tm.2.1]
        intro p hp
        have q := s4 p hp
        have ec : ∀ i, cel (mx (sI v 23 (6 * a.toInt.toNat + b.toInt.toNat) (v.1 7 1)) (sI w 174 (6 * a.toInt.toNat + b.toInt.toNat) (w.1 127 78))) p i = cel (mx v w) p i := fun i => by
          unfold cel
          rw [mx_j _ _ (by decide), mx_j _ _ (by decide)]
          rfl
        have ef : (fun k => decide (¬ (mx (sI v 23 (6 * a.toInt.toNat + b.toInt.toNat) (v.1 7 1)) (sI w 174 (6 * a.toInt.toNat + b.toInt.toNat) (w.1 127 78))).1 172 (200 * p + k) = 0)) = fun k => decide (¬ (mx v w).1 172 (200 * p + k) = 0) := by
          funext k
          rw [ag [(172, none)] rfl 172 _ rfl]
        rw [ag [(12, none)] rfl 12 p rfl, ag [(169, none)] rfl 169 p rfl, ag [(21, none)] rfl 21 p rfl, ag [(18, none)] rfl 18 _ rfl, ef]
        refine ⟨q.1, q.2.1, q.2.2.1, fun k hk => ?_, q.2.2.2.2⟩
        rw [ec, ag [(172, none)] rfl 172 _ rfl]
        exact q.2.2.2.1 k hk
      · rw [tm.1, tm.2.1]
        intro x l hx h1 h2 nx
        rw [ag [(17, none)] rfl 17 x rfl] at nx
        rw [e23, if_neg]
        · exact s5 x l hx h1 h2 nx
        · intro q
          have xa : x = a.toInt.toNat := by omega
          rw [xa, mx_c _ _ (by decide)] at nx
          exact nx c1
