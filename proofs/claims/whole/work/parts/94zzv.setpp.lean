/-! a valve is set: the pair -/
/-- the house with the valve set -/
theorem st_z {v w wl : MW} {a b : Int32} {W : Nat → Nat → Prop} (hr : HRq (mx v w)) (un : unH w a.toInt) (lk : LkP v (sI w 167 a.toInt.toNat b) W wl) : HRq (mx (sI v 16 a.toInt.toNat b) wl) := by
  have ag : ∀ m : Pl, off [(16, none), (167, none), (194, none)] m = true → Ag m (mx v w) (mx (sI v 16 a.toInt.toNat b) wl) := fun m hm => mx_ag (fun k j hk => by
    have q := off_hit hm hk
    refine ⟨fun _ => sI_oth _ _ _ _ _ _ (fun e => by rw [e] at q; cases q), fun _ => ?_⟩
    rw [lk.1.2 k j (fun e => by rw [e] at q; cases q), sI_oth _ _ _ _ _ _ (fun e => by rw [e] at q; cases q)])
  have e167 : ∀ t, (mx (sI v 16 a.toInt.toNat b) wl).1 167 t = if t = a.toInt.toNat then b else (mx v w).1 167 t := fun t => by
    rw [mx_m _ _ (by decide), lk.1.2 167 t (by decide), sI_if, mx_m _ _ (by decide)]
  have e16 : ∀ t, (mx (sI v 16 a.toInt.toNat b) wl).1 16 t = if t = a.toInt.toNat then b else (mx v w).1 16 t := fun t => by
    rw [mx_c _ _ (by decide), sI_if, mx_c _ _ (by decide)]
  have tm := tM_m (ag lPm rfl)
  refine ⟨HPl_p (ag lP0 rfl) (fun t ht => ?_) hr.1, HTb_ag (ag lTq rfl) hr.2.1, HSk_p (ag lPm rfl) (ag lSk rfl) (fun j => ?_) hr.2.2.1, HWy_p (ag lPm rfl) (ag lWy rfl) (fun p => ag [(17, none)] rfl 17 _ rfl) (fun k t hk ht n1 k2 => ?_) hr.2.2.2⟩
  · rw [e16, e167]
    by_cases q : t = a.toInt.toNat
    · rw [if_pos q, if_pos q]
    · rw [if_neg q, if_neg q]
      exact (hr.1.1.2.2.1 t ht).2.2
  · rw [mx_j _ _ (by decide), mx_j _ _ (by decide)]
    rfl
  · rw [tm.1] at ht
    rw [ag [(127, some 26)] rfl 127 26 rfl] at hk
    rw [ag [(187, none)] rfl 187 _ rfl] at n1
    rw [ag [(163, none)] rfl 163 _ rfl] at k2
    rw [ag [(187, none)] rfl 187 _ rfl, e167]
    by_cases q : t = a.toInt.toNat
    · exfalso
      refine n1 ?_
      rw [q, mx_m _ _ (by decide)]
      rw [mx_m _ _ (by decide)] at hk
      exact un k hk
    · rw [if_neg q]
      exact hr.2.2.2.2.2.2.2.1.2.1 k t hk ht n1 k2
/-- both isSafe of it -/
theorem st_two {v w wl w5 w6 : MW} {a b : Int32} {r r' : Int32} (hv : BND v) (hw : BND w) (hr : HRq (mx v w)) (b0 : 0 ≤ b.toInt ∧ b.toInt ≤ 9) (hz : HRq (mx (sI v 16 a.toInt.toNat b) wl)) (lk : LkP v (sI w 167 a.toInt.toNat b) (fun k x => (k : Int) < ((sI w 167 a.toInt.toNat b).1 127 26).toInt ∧ wnt (sI w 167 a.toInt.toNat b) k x) wl) (sc : SfC (sI v 16 a.toInt.toNat b) r w5) (sm : SfM wl r' w6) : (r = 1 ∧ r' = 1 ∧ w6.1 = wl.1) ∨ (r = 0 ∧ r' = 0 ∧ ∃ f x y z : Int32, w6.1 = (dgW wl f x y z).1) := by
  have T := hb_T hw
  have P := hb_P hw
  have t1 : tM (mx (sI v 16 a.toInt.toNat b) wl) = tM w := by
    unfold tM
    rw [mx_m _ _ (by decide), lk.1.2 127 4 (by decide), sI_oth _ _ _ _ _ _ (by decide)]
  have p1 : pM (mx (sI v 16 a.toInt.toNat b) wl) = pM w := by
    unfold pM
    rw [mx_m _ _ (by decide), lk.1.2 127 11 (by decide), sI_oth _ _ _ _ _ _ (by decide)]
  have e17 : ∀ j, (mx (sI v 16 a.toInt.toNat b) wl).1 17 j = v.1 17 j := fun j => by
    rw [mx_c _ _ (by decide), sI_oth _ _ _ _ _ _ (by decide)]
  have n26 : 0 ≤ ((sI w 167 a.toInt.toNat b).1 127 26).toInt := by
    rw [sI_oth _ _ _ _ _ _ (by decide)]
    exact (bd_127_26 hw).1
  have ins : INs (mx (sI v 16 a.toInt.toNat b) wl) := ins_x lk (ag_t (ag_o lk.1 rfl) (ag_s (mx_am _ _ rfl))) n26 e17 (fun j => mx_m _ _ (by decide) j)
  have hy := hz.2.2.2
  have sr : SRr (mx (sI v 16 a.toInt.toNat b) wl) := sr_x (by rw [t1]; exact T) (by rw [p1]; exact P) hz.1.1.1 hz.1.1.2.1 (fun x => by rw [e17]; exact bd_17 hv x) hy.1 hy.2.1 hy.2.2.1 hy.2.2.2.1 hy.2.2.2.2.2 ins
  have agc : Ag lPc v (mx (sI v 16 a.toInt.toNat b) wl) := ag_t (ag_i rfl) (ag_s (mx_ac _ _ rfl))
  have pb : PB (mx (sI v 16 a.toInt.toNat b) wl) := PB_p agc (fun t => by
    rw [mx_c _ _ (by decide), sI_if]
    by_cases q : t = a.toInt.toNat
    · rw [if_pos q]
      exact b0
    · rw [if_neg q]
      exact bd_16 hv t) (PB_b hv)
  rcases sf_mx hz.1 hz.2.1 pb (fun t => by rw [sI_oth _ _ _ _ _ _ (by decide)]; exact (bd_11 hv t).1) sr sc sm with q | ⟨q1, q2, f, x, y, z, q3, _⟩
  · exact Or.inl ⟨q.1, q.2.1, q.2.2.2⟩
  · exact Or.inr ⟨q1, q2, f, x, y, z, q3⟩
theorem dg_rd {w : MW} {f x y z : Int32} {k j : Nat} (h : hit [(127, some 45), (127, some 46), (127, some 47), (127, some 48)] k j = false) : (dgW w f x y z).1 k j = w.1 k j := by
  have n : ∀ i : Nat, (i = 45 ∨ i = 46 ∨ i = 47 ∨ i = 48) → ¬ (k = 127 ∧ j = i) := fun i hi e => by
    rw [e.1, e.2] at h
    rcases hi with hi | hi | hi | hi <;> (rw [hi] at h; cases h)
  unfold dgW
  rw [sI_at, if_neg (n 48 (by omega)), sI_at, if_neg (n 47 (by omega)), sI_at, if_neg (n 46 (by omega)), sI_at, if_neg (n 45 (by omega))]
theorem sC_v {v w : MW} (hv : BND v) (hw : BND w) (hr : HRq (mx v w)) (l y : Nat) (s : SrC v l y) : y < 44 := by
  refine sC_44 (BND_mx hv hw) hr.1 hr.2.2.2 (l := l) ((srC_s (fun c j hc => ?_) l y).mpr s)
  unfold sS at hc
  simp only [Bool.or_eq_true, beq_iff_eq] at hc
  exact mx_c _ _ (by omega) j
/-- the class's count of ways over a thing tells whether it is held -/
theorem ov_m {v w : MW} {a : Int32} (hr : HRq (mx v w)) (a0 : 0 ≤ a.toInt) (a1 : a.toInt < tM w) : (v.1 37 a.toInt.toNat).toInt ≤ 0 ↔ unH w a.toInt := by
  have hy := hr.2.2.2
  have ht : ((a.toInt.toNat : Nat) : Int) < tM (mx v w) := by
    have e : tM (mx v w) = tM w := rfl
    rw [e]
    omega
  have q := ov_x hy.1 hy.2.2.2.2.1 a.toInt.toNat ht
  have q2 := hy.2.2.2.2.1.2.2 a.toInt.toNat ht
  rw [show ((a.toInt.toNat : Nat) : Int) = a.toInt by omega, mx_c _ _ (by decide)] at q
  rw [mx_c _ _ (by decide)] at q2
  have e : unH (mx v w) a.toInt ↔ unH w a.toInt := Iff.rfl
  rw [← e, ← q]
  omega
theorem st_pair {v w : MW} {a b : Int32} {Q Q' : Int32 → MW → Prop} (hv : BND v) (hw : BND w) (hr : HRq (mx v w)) (a0 : 0 ≤ a.toInt) (a1 : a.toInt < tM w) (b0 : 0 ≤ b.toInt ∧ b.toInt ≤ 9) (h : p_Ac_setPosition v a b Q) (kQ : ∀ r v', (∀ R R', mSet w a b R → (∀ w', HRq (mx v' w') → R r w' → R' r w') → mSet w a b R') → Q r v' → Q' r v') : p_Ac_setPosition v a b Q' := by
  have T := hb_T hw
  have ov := ov_m hr a0 a1
  have a2 : a.toInt < 20 := by omega
  refine cst_x h hv (MSy_g (fun j => (mx_c v w (by decide) j).symm) hr.2.1.2.1) (PX_d (mx_ac v w rfl) hr.1.2.1) (PY_c (mx_ac v w rfl) hr.1.2.2.1) b0 (sC_v hv hw hr) (fun c g => kQ _ _ (fun R R' hR kR => ?_) g) (fun c r w5 sc o => ⟨fun er g => kQ _ _ (fun R R' hR kR => ?_) g, fun er g => kQ _ _ (fun R R' hR kR => ?_) g⟩)
  · exact mst_x hR hw hr a0 a2 (fun _ g2 => kR _ hr g2) (fun un => absurd (ov.mpr un) c)
  · refine mst_x hR hw hr a0 a2 (fun n => absurd (ov.mp c) n) (fun un wl lk r' w6 sm => ?_)
    rcases st_two hv hw hr b0 (st_z hr un lk) lk sc sm with q | ⟨_, q2, f, x, y, z, q3⟩
    · have := q.1
      rw [er] at this
      exact absurd (congrArg Int32.toInt this) (by decide)
    · refine ⟨fun e => ?_, fun _ g2 => kR _ ?_ g2⟩
      · rw [q2] at e
        exact absurd (congrArg Int32.toInt e) (by decide)
      · have ag : ∀ m : Pl, off [(42, none), (44, none), (194, none), (127, some 45), (127, some 46), (127, some 47), (127, some 48)] m = true → Ag m (mx v w) (mx (sI w5 16 a.toInt.toNat (v.1 16 a.toInt.toNat)) (sI w6 167 a.toInt.toNat (w.1 167 a.toInt.toNat))) := fun m hm => mx_ag (fun k j hk => by
          have q := off_hit hm hk
          refine ⟨fun _ => ?_, fun _ => ?_⟩
          · have n1 : ¬ k = 42 := fun e => by rw [e] at q; cases q
            have n2 : ¬ k = 44 := fun e => by rw [e] at q; cases q
            rw [sI_at]
            by_cases q5 : k = 16 ∧ j = a.toInt.toNat
            · rw [if_pos q5, q5.1, q5.2]
            · rw [if_neg q5, o.1 k j n1 n2, sI_at, if_neg q5]
          · have n1 : ¬ k = 194 := fun e => by rw [e] at q; cases q
            have n2 : hit [(127, some 45), (127, some 46), (127, some 47), (127, some 48)] k j = false := by
              cases q6 : hit [(127, some 45), (127, some 46), (127, some 47), (127, some 48)] k j with
              | false => rfl
              | true =>
                rw [sub_hit (show sub [(127, some 45), (127, some 46), (127, some 47), (127, some 48)] [(42, none), (44, none), (194, none), (127, some 45), (127, some 46), (127, some 47), (127, some 48)] = true by decide) q6] at q
                cases q
            rw [sI_at]
            by_cases q5 : k = 167 ∧ j = a.toInt.toNat
            · rw [if_pos q5, q5.1, q5.2]
            · rw [if_neg q5, q3, dg_rd n2, lk.1.2 k j n1, sI_at, if_neg q5])
        refine HRq_ag (ag lPL rfl) (ag lTq rfl) (ag lSk rfl) (ag lWy rfl) (fun j => ?_) hr
        rw [mx_j _ _ (by decide), mx_j _ _ (by decide)]
        show w5.2.1 20 j = v.2.1 20 j
        rw [o.2.1 20 j (by decide) (by decide) (by decide)]
        rfl
  · refine mst_x hR hw hr a0 a2 (fun n => absurd (ov.mp c) n) (fun un wl lk r' w6 sm => ?_)
    have hz := st_z (b := b) hr un lk
    rcases st_two hv hw hr b0 hz lk sc sm with ⟨_, q2, q3⟩ | ⟨q, _⟩
    · refine ⟨fun _ g2 => kR _ ?_ g2, fun e => ?_⟩
      · have ag : ∀ m : Pl, off [(42, none), (44, none)] m = true → Ag m (mx (sI v 16 a.toInt.toNat b) wl) (mx w5 w6) := fun m hm => mx_ag (fun k j hk => by
          have q := off_hit hm hk
          refine ⟨fun _ => o.1 k j (fun e => by rw [e] at q; cases q) (fun e => by rw [e] at q; cases q), fun _ => ?_⟩
          rw [q3])
        refine HRq_ag (ag lPL rfl) (ag lTq rfl) (ag lSk rfl) (ag lWy rfl) (fun j => ?_) hz
        rw [mx_j _ _ (by decide), mx_j _ _ (by decide)]
        exact o.2.1 20 j (by decide) (by decide) (by decide)
      · rw [q2] at e
        exact absurd (congrArg Int32.toInt e) (by decide)
    · rw [er] at q
      exact absurd (congrArg Int32.toInt q) (by decide)
