/-! danger: the pair -/
theorem dg_45 (w : MW) (f x a b : Int32) : (dgW w f x a b).1 127 45 = f ∧ (dgW w f x a b).1 127 46 = x ∧ (dgW w f x a b).1 127 47 = a ∧ (dgW w f x a b).1 127 48 = b := by
  unfold dgW
  refine ⟨?_, ?_, ?_, ?_⟩
  · rw [sI_ne _ _ _ _ _ (by decide), sI_ne _ _ _ _ _ (by decide), sI_ne _ _ _ _ _ (by decide), sI_same]
  · rw [sI_ne _ _ _ _ _ (by decide), sI_ne _ _ _ _ _ (by decide), sI_same]
  · rw [sI_ne _ _ _ _ _ (by decide), sI_same]
  · rw [sI_same]
/-- the insides are looked at: the house and where liquids flood from -/
theorem lk_hr {v w wl : MW} {W : Nat → Nat → Prop} (hr : HRq (mx v w)) (lk : LkP v w W wl) : HRq (mx v wl) := by
  have ag : ∀ m : Pl, off [(194, none)] m = true → Ag m (mx v w) (mx v wl) := fun m hm => mx_ag (fun k j hk => by
    have q := off_hit hm hk
    exact ⟨fun _ => rfl, fun _ => lk.1.2 k j (fun e => by rw [e] at q; cases q)⟩)
  refine HRq_ag (ag lPL rfl) (ag lTq rfl) (ag lSk rfl) (ag lWy rfl) (fun j => ?_) hr
  rw [mx_j _ _ (by decide), mx_j _ _ (by decide)]
theorem lk_sr {v w wl : MW} (hv : BND v) (hw : BND w) (hz : HRq (mx v wl)) (lk : LkP v w (fun k x => (k : Int) < (w.1 127 26).toInt ∧ wnt w k x) wl) : SRr (mx v wl) := by
  have T := hb_T hw
  have P := hb_P hw
  have t1 : tM (mx v wl) = tM w := by
    unfold tM
    rw [mx_m _ _ (by decide), lk.1.2 127 4 (by decide)]
  have p1 : pM (mx v wl) = pM w := by
    unfold pM
    rw [mx_m _ _ (by decide), lk.1.2 127 11 (by decide)]
  have e17 : ∀ j, (mx v wl).1 17 j = v.1 17 j := fun j => mx_c _ _ (by decide) j
  have ins : INs (mx v wl) := ins_x lk (ag_t (ag_o lk.1 rfl) (ag_s (mx_am _ _ rfl))) (bd_127_26 hw).1 e17 (fun j => mx_m _ _ (by decide) j)
  have hy := hz.2.2.2
  exact sr_x (by rw [t1]; exact T) (by rw [p1]; exact P) hz.1.1.1 hz.1.1.2.1 (fun x => by rw [e17]; exact bd_17 hv x) hy.1 hy.2.1 hy.2.2.1 hy.2.2.2.1 hy.2.2.2.2.2 ins
def dgA (r : Int32) (v : MW) (a : Int32) : Int32 := if a.toInt = 0 then v.1 42 6 else if r.toInt = 0 then (if a.toInt = 1 then v.1 42 7 else if a.toInt = 2 then v.1 42 8 else if a.toInt = 3 then v.1 42 9 else -1) else -1
theorem da_ref {v w v1 : MW} {a r1 : Int32} (hv : BND v) (hw : BND w) (hr : HRq (mx v w)) (sc : SfC v r1 v1) (o : oSf v v1) (R R' : Int32 → MW → Prop) (hR : p_Mo_danger w a R) (kR : ∀ w', HRq (mx v1 w') → R (dgA r1 v1 a) w' → R' (dgA r1 v1 a) w') : p_Mo_danger w a R' := by
  have T := hb_T hw
  have P := hb_P hw
  rw [p_Mo_danger.eq_1] at hR ⊢
  obtain ⟨hz, hz2⟩ := lkz_x (z := w) hw hr (fun _ _ _ => rfl) (fun _ => rfl)
  refine lo_x (v := v) hR hz hz2 (fun wl lk g2 => ?_)
  have m1 : tM wl = tM w := by
    unfold tM
    rw [lk.1.2 127 4 (by decide)]
  have m2 : pM wl = pM w := by
    unfold pM
    rw [lk.1.2 127 11 (by decide)]
  refine sf_x g2 (by rw [m1]; exact T.1) (by rw [m1]; exact T.2) (by rw [m2]; exact P.1) (by rw [m2]; exact P.2) (fun r2 w2 sm g3 => ?_)
  have hzl := lk_hr hr lk
  have pb : PB (mx v wl) := PB_p (ag_s (mx_ac v wl rfl)) (fun t => by rw [mx_c _ _ (by decide)]; exact bd_16 hv t) (PB_b hv)
  have res := sf_mx hzl.1 hzl.2.1 pb (fun t => (bd_11 hv t).1) (lk_sr hv hw hzl lk) sc sm
  have done : ∀ f : MW → Prop, (∀ k j, hit [(127, some 45), (127, some 46), (127, some 47), (127, some 48)] k j = false → w2.1 k j = wl.1 k j) → HRq (mx v1 w2) := fun _ e => by
    have ag : ∀ m : Pl, off [(42, none), (44, none), (127, some 45), (127, some 46), (127, some 47), (127, some 48)] m = true → Ag m (mx v wl) (mx v1 w2) := fun m hm => mx_ag (fun k j hk => by
      have q := off_hit hm hk
      refine ⟨fun _ => o.1 k j (fun e => by rw [e] at q; cases q) (fun e => by rw [e] at q; cases q), fun _ => e k j ?_⟩
      cases q6 : hit [(127, some 45), (127, some 46), (127, some 47), (127, some 48)] k j with
      | false => rfl
      | true =>
        rw [sub_hit (show sub [(127, some 45), (127, some 46), (127, some 47), (127, some 48)] [(42, none), (44, none), (127, some 45), (127, some 46), (127, some 47), (127, some 48)] = true by decide) q6] at q
        cases q)
    refine HRq_ag (ag lPL rfl) (ag lTq rfl) (ag lSk rfl) (ag lWy rfl) (fun j => ?_) hzl
    rw [mx_j _ _ (by decide), mx_j _ _ (by decide)]
    exact o.2.1 20 j (by decide) (by decide) (by decide)
  rcases res with ⟨q1, q2, q3, q4⟩ | ⟨q1, q2, f, x, y, z, q3, q4, q5, q6, q7⟩
  · have K := kR w2 (done (fun _ => True) (fun k j _ => by rw [q4]))
    have r0 : ¬ r2.toInt = 0 := by rw [q2]; decide
    have r1' : ¬ r1.toInt = 0 := by rw [q1]; decide
    refine ⟨fun c => absurd c r0, fun c => ⟨fun d => ?_, fun d => ?_⟩⟩
    · unfold dgA at K
      rw [if_neg d, if_neg r1'] at K
      exact K ((g3.2 c).1 d)
    · unfold dgA at K
      rw [if_pos (Classical.not_not.mp d), i32_z q3] at K
      exact K ((g3.2 c).2 d)
  · have K := kR w2 (done (fun _ => True) (fun k j hk => by rw [q3]; exact dg_rd hk))
    have r0 : r2.toInt = 0 := by rw [q2]; decide
    have r1' : r1.toInt = 0 := by rw [q1]; decide
    have dg := dg_45 wl f x y z
    rw [← q3] at dg
    refine ⟨fun c => ⟨fun d => ⟨fun d1 => ⟨fun d2 => ⟨fun d3 => ?_, fun d3 => ?_⟩, fun d2 => ?_⟩, fun d1 => ?_⟩, fun d => ?_⟩, fun c => absurd r0 c⟩
    · unfold dgA at K
      rw [if_neg d, if_pos r1', if_neg d1, if_neg d2, if_neg d3] at K
      exact K ((((g3.1 c).1 d).1 d1).1 d2 |>.1 d3)
    · unfold dgA at K
      rw [if_neg d, if_pos r1', if_neg d1, if_neg d2, if_pos (Classical.not_not.mp d3), q7, ← dg.2.2.2] at K
      exact K ((((g3.1 c).1 d).1 d1).1 d2 |>.2 d3)
    · unfold dgA at K
      rw [if_neg d, if_pos r1', if_neg d1, if_pos (Classical.not_not.mp d2), q6, ← dg.2.2.1] at K
      exact K ((((g3.1 c).1 d).1 d1).2 d2)
    · unfold dgA at K
      rw [if_neg d, if_pos r1', if_pos (Classical.not_not.mp d1), q5, ← dg.2.1] at K
      exact K (((g3.1 c).1 d).2 d1)
    · unfold dgA at K
      rw [if_pos (Classical.not_not.mp d), q4, ← dg.1] at K
      exact K ((g3.1 c).2 d)
theorem da_pair {v w : MW} {a : Int32} {Q Q' : Int32 → MW → Prop} (hv : BND v) (hw : BND w) (hr : HRq (mx v w)) (h : p_Bh_danger v a Q) (kQ : ∀ r v', (∀ R R', p_Mo_danger w a R → (∀ w', HRq (mx v' w') → R r w' → R' r w') → p_Mo_danger w a R') → Q r v' → Q' r v') : p_Bh_danger v a Q' := by
  rw [p_Bh_danger.eq_1] at h ⊢
  refine sc_y h (MSy_g (fun j => (mx_c v w (by decide) j).symm) hr.2.1.2.1) (PX_d (mx_ac v w rfl) hr.1.2.1) (PY_c (mx_ac v w rfl) hr.1.2.2.1) (PB_b hv) (fun k hk => by have := bd_28 hv k; exact ⟨this.1, by omega⟩) (fun l y _ s => sC_v hv hw hr l y s) (fun r1 v1 sc o g => ?_)
  have K := kQ (dgA r1 v1 a) v1 (da_ref hv hw hr sc o)
  refine ⟨fun c => ⟨fun d => ⟨fun e => ?_, fun e => ⟨fun e2 => ?_, fun e2 => ⟨fun e3 => ?_, fun e3 => ?_⟩⟩⟩, fun d => ?_⟩, fun c => ?_⟩
  · have e0 : dgA r1 v1 a = v1.1 42 7 := by
      unfold dgA
      rw [if_neg c, if_pos d, if_pos e]
    rw [e0] at K
    exact K (((g.1 c).1 d).1 e)
  · have e0 : dgA r1 v1 a = v1.1 42 8 := by
      unfold dgA
      rw [if_neg c, if_pos d, if_neg e, if_pos e2]
    rw [e0] at K
    exact K ((((g.1 c).1 d).2 e).1 e2)
  · have e0 : dgA r1 v1 a = v1.1 42 9 := by
      unfold dgA
      rw [if_neg c, if_pos d, if_neg e, if_neg e2, if_pos e3]
    rw [e0] at K
    exact K (((((g.1 c).1 d).2 e).2 e2).1 e3)
  · have e0 : dgA r1 v1 a = -1 := by
      unfold dgA
      rw [if_neg c, if_pos d, if_neg e, if_neg e2, if_neg e3]
    rw [e0] at K
    exact K (((((g.1 c).1 d).2 e).2 e2).2 e3)
  · have e0 : dgA r1 v1 a = -1 := by
      unfold dgA
      rw [if_neg c, if_neg d]
    rw [e0] at K
    exact K ((g.1 c).2 d)
  · have e0 : dgA r1 v1 a = v1.1 42 6 := by
      unfold dgA
      rw [if_pos (Classical.not_not.mp c)]
    rw [e0] at K
    exact K (g.2 c)
