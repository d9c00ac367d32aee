/-! a way is closed: what each side leaves -/
theorem RmH_g {v z : MW} {k n : Nat} {pp tt : Nat → Nat} (e : ∀ c j, c < 127 → v.1 c j = z.1 c j) (h : RmH z k n pp tt) : RmH v k n pp tt := by
  unfold RmH at h ⊢
  rw [e 31 k (by decide), e 32 k (by decide)]
  refine ⟨h.1, h.2.1, fun i hi => ?_, fun i hi => ?_, h.2.2.2.2.1, h.2.2.2.2.2.1, h.2.2.2.2.2.2⟩
  · rw [e 35 _ (by decide)]
    exact h.2.2.1 i hi
  · rw [e 34 _ (by decide), e 13 _ (by decide)]
    exact h.2.2.2.1 i hi
theorem rmh_z {z : MW} {k : Nat} (P : 0 ≤ pM z ∧ pM z ≤ 24) (hp : HPl z) (hy : HWy z) (hk : k < nwy z) : RmH z k (wln z k) (fun i => ent z k i / 2) (fun i => (atM z (ent z k (i + 1))).toNat) := by
  obtain ⟨hy1, hy2, hy3, hy4, _⟩ := hy
  have l := w_l hy1 hk
  refine ⟨by rw [(hy1.2.2.2 k hk).1.2.2.2.2]; exact l.1.symm, l.2.2, fun i hi => ⟨by have := (w_e hy2 hk hi).2; show ent z k i / 2 < 24; omega, ((hy2 k hk).1 i hi).2.2⟩, fun i hi => ?_, fun i j hi hj e => (hy3.2 k i k j hk hi hk hj e).2, fun i j hi hj e => ?_, (hy2 k hk).2.1⟩
  · show (z.1 13 (z.1 34 (ent z k i / 2)).toInt.toNat).toInt = (((atM z (ent z k (i + 1))).toNat : Nat) : Int)
    have E := (w_e hy2 hk (show i < wln z k by omega)).2
    have X := xo_lt (e := ent z k i) (N := (pM z).toNat) (by omega)
    have A : (z.1 13 (xo (ent z k i))).toInt = atM z (xo (ent z k i)) := (hp.1.2.2.2 (xo (ent z k i)) (by omega)).1
    have D := (hy4 k hk).2.2.1 i hi
    rw [((hy2 k hk).1 i (by omega)).2.1, nI_toInt (by omega), show (((xo (ent z k i) : Nat) : Int)).toNat = xo (ent z k i) by omega, A, D.1]
    have := D.2.1
    omega
  · have D1 := ((hy4 k hk).2.2.1 i hi).2.1
    have D2 := ((hy4 k hk).2.2.1 j hj).2.1
    have e' : (atM z (ent z k (i + 1))).toNat = (atM z (ent z k (j + 1))).toNat := e
    exact (hy4 k hk).2.2.2 i j hi hj (by omega)
theorem cw_read {v w v' w' : MW} {k : Nat} (hr : HRq (mx v w)) (hk : k < nwy (mx v w)) (T : 0 ≤ tM w ∧ tM w ≤ 20) (rc : RmC v k (wln (mx v w) k) (fun i => ent (mx v w) k i / 2) (fun i => (atM (mx v w) (ent (mx v w) k (i + 1))).toNat) 0 v') (cm : ClM w k w') : CwF (mx v w) (mx v' w') k (nwy (mx v w) - 1) := by
  obtain ⟨w0, ri, sh⟩ := rc
  obtain ⟨w1, w2, ci, mi, e⟩ := cm
  have nz := w_n hr.2.2.2.1
  have n26 : (w.1 127 26).toInt = nwy (mx v w) := by
    have q := nz.1
    rw [mx_m _ _ (by decide)] at q
    exact q.symm
  have v26 : v.1 26 1 = w.1 127 26 := hr.2.2.2.1.1
  have r26 : w0.1 26 1 = v.1 26 1 := ri.1 26 1 (by decide) (by decide) (by decide)
  have es : ((w0.1 26 1) - (1 : Int32)).toInt = (nwy (mx v w) : Int) - 1 := by
    rw [r26, v26]
    exact ti_sub2 n26 i_1 (by omega) (by omega)
  have r126 : w2.1 127 26 = w.1 127 26 := by
    rw [mi.2.1 127 26 rfl (by decide) (by decide)]
    exact ci.2.1 127 26 (by decide) (by decide)
  have em : ((w2.1 127 26) - (1 : Int32)).toInt = (nwy (mx v w) : Int) - 1 := by
    rw [r126]
    exact ti_sub2 n26 i_1 (by omega) (by omega)
  have eN : ((w0.1 26 1) - (1 : Int32)).toInt.toNat = nwy (mx v w) - 1 := by omega
  have eN2 : (w.1 127 26).toInt.toNat - 1 = nwy (mx v w) - 1 := by omega
  rw [eN] at sh
  rw [eN2] at mi
  have c1 : ∀ c j, shC c = false → ¬ c = 16 → ¬ c = 36 → ¬ c = 37 → ¬ (c = 26 ∧ j = 1) → v'.1 c j = v.1 c j := fun c j h1 h2 h3 h4 h5 => by
    rw [sh.2.1 c j h1, sI_at, if_neg h5]
    exact ri.1 c j h2 h3 h4
  have c2 : ∀ c j, shC c = true → v'.1 c j = if k ≤ j ∧ j < nwy (mx v w) - 1 then v.1 c (j + 1) else v.1 c j := fun c j h1 => by
    have q := sh_c h1
    rw [sh.2.2 c j h1, sI_oth _ _ _ _ _ _ (by omega), sI_oth _ _ _ _ _ _ (by omega), ri.1 c _ (by omega) (by omega) (by omega), ri.1 c _ (by omega) (by omega) (by omega)]
  have c3 : ∀ c j, (c = 16 ∨ c = 36 ∨ c = 37) → v'.1 c j = w0.1 c j := fun c j h1 => by
    rw [sh.2.1 c j (by rcases h1 with h1 | h1 | h1 <;> (rw [h1]; rfl)), sI_oth _ _ _ _ _ _ (by omega)]
  have d1 : ∀ c j, msC c = false → ¬ c = 186 → ¬ c = 187 → ¬ c = 167 → ¬ (c = 127 ∧ j = 26) → w'.1 c j = w.1 c j := fun c j h1 h2 h3 h4 h5 => by
    rw [e, sI_at, if_neg h5, mi.2.1 c j h1 h2 h3]
    exact ci.2.1 c j h4 h3
  have d2 : ∀ c j, msC c = true → w'.1 c j = if k ≤ j ∧ j < nwy (mx v w) - 1 then w.1 c (j + 1) else w.1 c j := fun c j h1 => by
    have q := ms_c h1
    rw [e, sI_oth _ _ _ _ _ _ (by omega), mi.2.2.1 c j h1, ci.2.1 c _ (by omega) (by omega), ci.2.1 c _ (by omega) (by omega)]
  have d3 : ∀ j, w'.1 186 j = if 24 * k ≤ j ∧ j < 24 * (nwy (mx v w) - 1) then w.1 186 (j + 24) else w.1 186 j := fun j => by
    rw [e, sI_oth _ _ _ _ _ _ (by decide), mi.2.2.2.1 j, ci.2.1 186 _ (by decide) (by decide), ci.2.1 186 _ (by decide) (by decide)]
  have d4 : ∀ j, w'.1 187 j = if 20 * k ≤ j ∧ j < 20 * (nwy (mx v w) - 1) then w1.1 187 (j + 20) else w1.1 187 j := fun j => by
    rw [e, sI_oth _ _ _ _ _ _ (by decide), mi.2.2.2.2 j]
  have d5 : ∀ j, w'.1 167 j = w1.1 167 j := fun j => by
    rw [e, sI_oth _ _ _ _ _ _ (by decide), mi.2.1 167 j rfl (by decide) (by decide)]
  refine ⟨fun m hm => mx_ag (fun c j hc => ?_), ?_, ?_, by omega, by omega, fun c j hc hj => ?_, fun j i hj hi => ?_, fun j i hj hi => ?_, fun p => ?_, fun t => ?_, fun t ht => ?_⟩
  · have q := off_hit hm hc
    refine ⟨fun _ => c1 c j ?_ (fun e => by rw [e] at q; cases q) (fun e => by rw [e] at q; cases q) (fun e => by rw [e] at q; cases q) (fun e => by rw [e.1, e.2] at q; cases q), fun _ => d1 c j ?_ (fun e => by rw [e] at q; cases q) (fun e => by rw [e] at q; cases q) (fun e => by rw [e] at q; cases q) (fun e => by rw [e.1, e.2] at q; cases q)⟩
    · cases s : shC c with
      | false => rfl
      | true => rcases sh_c s with e | e | e | e | e | e | e <;> (rw [e] at q; cases q)
    · cases s : msC c with
      | false => rfl
      | true => rcases ms_c s with e | e | e | e | e <;> (rw [e] at q; cases q)
  · rw [mx_c _ _ (by decide), mx_m _ _ (by decide), sh.2.1 26 1 rfl, sI_same, e, sI_same, r26, r126, v26]
  · rw [mx_m _ _ (by decide), e, sI_same]
    omega
  · have sgj : ∀ g : Nat → Int32, (if k ≤ j ∧ j < nwy (mx v w) - 1 then g (j + 1) else g j) = g (sg k j) := fun g => by
      unfold sg
      by_cases q : j < k
      · rw [if_pos q, if_neg (fun z => by have := z.1; omega)]
      · rw [if_neg q, if_pos ⟨by omega, hj⟩]
    rcases hc with hc | hc
    · have q := sh_c hc
      rw [mx_c _ _ (by omega), mx_c _ _ (by omega), c2 c j hc]
      exact sgj (v.1 c)
    · have q := ms_c hc
      rw [mx_m _ _ (by omega), mx_m _ _ (by omega), d2 c j hc]
      exact sgj (w.1 c)
  · rw [mx_m _ _ (by decide), mx_m _ _ (by decide), d3]
    unfold sg
    by_cases q : j < k
    · rw [if_pos q, if_neg (fun z => by have := z.1; omega)]
    · rw [if_neg q, if_pos ⟨by omega, by omega⟩, show 24 * j + i + 24 = 24 * (j + 1) + i by omega]
  · rw [mx_m _ _ (by decide), mx_m _ _ (by decide), d4]
    unfold sg
    by_cases q : j < k
    · rw [if_pos q, if_neg (fun z => by have := z.1; omega), ci.2.2.1, if_neg (fun z => by have := z.1; omega)]
    · rw [if_neg q, if_pos ⟨by omega, by omega⟩, ci.2.2.1, if_neg (fun z => by have := z.2; omega), show 20 * j + i + 20 = 20 * (j + 1) + i by omega]
  · rw [mx_c _ _ (by decide), mx_c _ _ (by decide), c3 36 p (by omega)]
    exact ri.2.2.1 p
  · rw [mx_c _ _ (by decide), mx_c v w (c := 37) (by decide), mx_c v' w' (c := 16) (by decide), mx_c v w (c := 16) (by decide), mx_c v w (c := 9) (by decide), c3 37 t (by omega), c3 16 t (by omega)]
    refine ⟨fun z => ?_, fun z => (ri.2.2.2 t).2 (fun j _ hn => z j hn)⟩
    obtain ⟨j, hn, ej⟩ := z
    have q := (ri.2.2.2 t).1 ⟨j, by omega, hn, ej⟩
    refine ⟨q.1, q.2.trans ?_⟩
    unfold xR
    rw [if_pos i_0]
  · have tw : tM (mx v w) = tM w := rfl
    rw [tw] at ht
    have ce : clT (mx v w) k t ↔ clT w k t := Iff.rfl
    have xe : clX (mx v w) t = clX w t := rfl
    rw [ce, xe, mx_m _ _ (by decide), mx_m _ _ (by decide), d5 t]
    exact ⟨fun c => (ci.2.2.2 t).1 ⟨by omega, c⟩, fun c => (ci.2.2.2 t).2 (fun z => c z.2)⟩
/-- which way goes from a to b -/
def IxS (f g : Nat → Int32) (n : Int) (a b r : Int32) : Prop := (r = -1 ∧ ∀ k : Nat, (k : Int) < n → ¬ ((f k).toInt = a.toInt ∧ (g k).toInt = b.toInt)) ∨ ∃ k : Nat, (k : Int) < n ∧ r = nI k ∧ ((f k).toInt = a.toInt ∧ (g k).toInt = b.toInt) ∧ ∀ k', k' < k → ¬ ((f k').toInt = a.toInt ∧ (g k').toInt = b.toInt)
theorem ixs_u {f g f' g' : Nat → Int32} {n : Int} {a b r r' : Int32} (h : IxS f g n a b r) (h' : IxS f' g' n a b r') (e : ∀ k : Nat, (k : Int) < n → f k = f' k ∧ g k = g' k) : r = r' := by
  rcases h with ⟨h1, h2⟩ | ⟨k, h1, h2, h3, h4⟩
  · rcases h' with ⟨h1', _⟩ | ⟨k', h1', _, h3', _⟩
    · rw [h1, h1']
    · have q := e k' h1'
      rw [← q.1, ← q.2] at h3'
      exact absurd h3' (h2 k' h1')
  · rcases h' with ⟨_, h2'⟩ | ⟨k', h1', h2', h3', h4'⟩
    · have q := e k h1
      rw [q.1, q.2] at h3
      exact absurd h3 (h2' k h1)
    · have kk : k = k' := by
        by_cases c : k < k'
        · have q := e k h1
          rw [q.1, q.2] at h3
          exact absurd h3 (h4' k c)
        · by_cases c2 : k' < k
          · have q := e k' h1'
            rw [← q.1, ← q.2] at h3'
            exact absurd h3' (h4 k' c2)
          · omega
      rw [h2, h2', kk]
theorem ix_2 {v : MW} {a b : Int32} {E E' : MW → Prop} {Q Q' : Int32 → MW → Prop} (n : (v.1 26 1).toInt ≤ 24) (kE : IxS (v.1 27) (v.1 28) (v.1 26 1).toInt a b (-1) → E v → E' v) (kQ : ∀ r, IxS (v.1 27) (v.1 28) (v.1 26 1).toInt a b r → Q r v → Q' r v) : ∀ (m : Nat) (k : Int32), q_Wa_indexOf_2 a b E Q m k v → 0 ≤ k.toInt → (∀ k' : Nat, (k' : Int) < k.toInt → ¬ ((v.1 27 k').toInt = a.toInt ∧ (v.1 28 k').toInt = b.toInt)) → q_Wa_indexOf_2 a b E' Q' m k v := by
  intro m
  induction m with
  | zero => exact fun _ h _ _ => False.elim h
  | succ m ih =>
    intro k h k0 inv
    rw [q_Wa_indexOf_2.eq_2] at h ⊢
    refine ⟨fun d => kE (Or.inl ⟨rfl, fun k' hk' => inv k' (by omega)⟩) (h.1 d), fun d => ?_⟩
    have H := h.2 d
    have ek := ti_add2 (Eq.refl k.toInt) i_1 (by omega) (by omega)
    have nx : ¬ ((v.1 27 k.toInt.toNat).toInt = a.toInt ∧ (v.1 28 k.toInt.toNat).toInt = b.toInt) → ∀ k' : Nat, (k' : Int) < (k + (1 : Int32)).toInt → ¬ ((v.1 27 k').toInt = a.toInt ∧ (v.1 28 k').toInt = b.toInt) := fun no k' hk' => by
      by_cases q : (k' : Int) = k.toInt
      · rw [show k' = k.toInt.toNat by omega]
        exact no
      · exact inv k' (by omega)
    refine ⟨H.1, fun c => ih _ (H.2.1 c) (by omega) (nx (fun z => c z.1)), fun c => ⟨(H.2.2 c).1, fun c2 => ih _ ((H.2.2 c).2.1 c2) (by omega) (nx (fun z => c2 z.2)), fun c2 => kQ k (Or.inr ⟨k.toInt.toNat, by omega, (nI_tn k0).symm, ⟨Classical.not_not.mp c, Classical.not_not.mp c2⟩, fun k' hk' => inv k' (by omega)⟩) ((H.2.2 c).2.2 c2)⟩⟩
theorem ix_x {v : MW} {a b : Int32} {Q Q' : Int32 → MW → Prop} (h : p_Wa_indexOf v a b Q) (n : (v.1 26 1).toInt ≤ 24) (k : ∀ r, IxS (v.1 27) (v.1 28) (v.1 26 1).toInt a b r → Q r v → Q' r v) : p_Wa_indexOf v a b Q' := by
  rw [p_Wa_indexOf.eq_1] at h ⊢
  exact ix_2 n (k (-1)) k _ _ h (by decide) (fun k' hk' => by rw [i_0] at hk'; omega)
theorem ow_2 {w : MW} {a b : Int32} {E E' : MW → Prop} {Q Q' : Int32 → MW → Prop} (n : (w.1 127 26).toInt ≤ 24) (kE : IxS (w.1 181) (w.1 182) (w.1 127 26).toInt a b (-1) → E w → E' w) (kQ : ∀ r, IxS (w.1 181) (w.1 182) (w.1 127 26).toInt a b r → Q r w → Q' r w) : ∀ (m : Nat) (k : Int32), q_Mo_openWay_2 a b E Q m k w → 0 ≤ k.toInt → (∀ k' : Nat, (k' : Int) < k.toInt → ¬ ((w.1 181 k').toInt = a.toInt ∧ (w.1 182 k').toInt = b.toInt)) → q_Mo_openWay_2 a b E' Q' m k w := by
  intro m
  induction m with
  | zero => exact fun _ h _ _ => False.elim h
  | succ m ih =>
    intro k h k0 inv
    rw [q_Mo_openWay_2.eq_2] at h ⊢
    refine ⟨fun d => kE (Or.inl ⟨rfl, fun k' hk' => inv k' (by omega)⟩) (h.1 d), fun d => ?_⟩
    have H := h.2 d
    have ek := ti_add2 (Eq.refl k.toInt) i_1 (by omega) (by omega)
    have nx : ¬ ((w.1 181 k.toInt.toNat).toInt = a.toInt ∧ (w.1 182 k.toInt.toNat).toInt = b.toInt) → ∀ k' : Nat, (k' : Int) < (k + (1 : Int32)).toInt → ¬ ((w.1 181 k').toInt = a.toInt ∧ (w.1 182 k').toInt = b.toInt) := fun no k' hk' => by
      by_cases q : (k' : Int) = k.toInt
      · rw [show k' = k.toInt.toNat by omega]
        exact no
      · exact inv k' (by omega)
    refine ⟨H.1, fun c => ih _ (H.2.1 c) (by omega) (nx (fun z => c z.1)), fun c => ⟨(H.2.2 c).1, fun c2 => ih _ ((H.2.2 c).2.1 c2) (by omega) (nx (fun z => c2 z.2)), fun c2 => kQ k (Or.inr ⟨k.toInt.toNat, by omega, (nI_tn k0).symm, ⟨Classical.not_not.mp c, Classical.not_not.mp c2⟩, fun k' hk' => inv k' (by omega)⟩) ((H.2.2 c).2.2 c2)⟩⟩
theorem owy_x {w : MW} {a b : Int32} {Q Q' : Int32 → MW → Prop} (h : p_Mo_openWay w a b Q) (n : (w.1 127 26).toInt ≤ 24) (k : ∀ r, IxS (w.1 181) (w.1 182) (w.1 127 26).toInt a b r → Q r w → Q' r w) : p_Mo_openWay w a b Q' := by
  rw [p_Mo_openWay.eq_1] at h ⊢
  exact ow_2 n (k (-1)) k _ _ h (by decide) (fun k' hk' => by rw [i_0] at hk'; omega)
/-- the reference's words for it -/
def mCl (w : MW) (a b : Int32) (Q : Int32 → MW → Prop) : Prop := p_Mo_openWay w a b (fun r34 w34 => ((¬ r34.toInt = (-1) → (p_Mo_close w34 r34 (fun w36 => (Q 0 w36)))) ∧ (¬ (¬ r34.toInt = (-1)) → (Q 3 w34))))
/-- one way is closed on both sides -/
theorem rm_pair {v w : MW} {k : Int32} {Q Q' : MW → Prop} (hw : BND w) (hr : HRq (mx v w)) (k0 : 0 ≤ k.toInt) (k1 : k.toInt < (w.1 127 26).toInt) (h : p_Wa_remove v k 0 Q) (kQ : ∀ v', (∀ R R', p_Mo_close w k R → (∀ w', HRq (mx v' w') → (w'.1 127 26).toInt = (w.1 127 26).toInt - 1 → R w' → R' w') → p_Mo_close w k R') → Q v' → Q' v') : p_Wa_remove v k 0 Q' := by
  have T := hb_T hw
  have P := hb_P hw
  have nz := w_n hr.2.2.2.1
  rw [mx_m _ _ (by decide)] at nz
  have kn : k.toInt.toNat < nwy (mx v w) := by omega
  have v26 : v.1 26 1 = w.1 127 26 := hr.2.2.2.1.1
  have H : RmH v k.toInt.toNat (wln (mx v w) k.toInt.toNat) (fun i => ent (mx v w) k.toInt.toNat i / 2) (fun i => (atM (mx v w) (ent (mx v w) k.toInt.toNat (i + 1))).toNat) := RmH_g (fun c j hc => (mx_c v w hc j).symm) (rmh_z P hr.1 hr.2.2.2 kn)
  refine rm_x h H (w_l hr.2.2.2.1 kn).2.1 k0 (by rw [v26]; exact k1) (by rw [v26]; omega) (fun v' rc g => kQ v' (fun R R' hR kR => mcl2_x hR T k0 k1 (by omega) (fun w' cm g2 => kR w' ?_ ?_ g2)) g)
  · refine cw_hr (z := mx v w) P.2 T hr (cw_read hr kn T rc cm) (fun j => ?_)
    rw [mx_j _ _ (by decide), mx_j _ _ (by decide)]
    obtain ⟨w0, ri, sh⟩ := rc
    rw [sh.1]
    show w0.2.1 20 j = v.2.1 20 j
    rw [ri.2.1]
  · have f := (cw_read hr kn T rc cm).2.2.1
    rw [mx_m _ _ (by decide)] at f
    omega
theorem cw_pair {v w : MW} {a b : Int32} {Q Q' : Int32 → MW → Prop} (hw : BND w) (hr : HRq (mx v w)) (h : p_Ac_closeWay v a b Q) (kQ : ∀ r v', (∀ R R', mCl w a b R → (∀ w', HRq (mx v' w') → R r w' → R' r w') → mCl w a b R') → Q r v' → Q' r v') : p_Ac_closeWay v a b Q' := by
  have v26 : v.1 26 1 = w.1 127 26 := hr.2.2.2.1.1
  have n24 := (bd_127_26 hw).2
  have nz := w_n hr.2.2.2.1
  rw [mx_m _ _ (by decide)] at nz
  have same : ∀ k : Nat, (k : Int) < (w.1 127 26).toInt → v.1 27 k = w.1 181 k ∧ v.1 28 k = w.1 182 k := fun k hk => by
    have q := (hr.2.2.2.1.2.2.2 k (by omega)).1
    exact ⟨q.1, q.2.1⟩
  rw [p_Ac_closeWay.eq_1] at h ⊢
  refine ix_x h (by rw [v26]; exact n24) (fun r ix g => ⟨fun c => ?_, fun c => kQ _ _ (fun R R' hR kR => ?_) (g.2 c)⟩)
  · have G := g.1 c
    rw [v26] at ix
    rw [p_Wa_closeOne.eq_1] at G ⊢
    have rk : r.toInt < (w.1 127 26).toInt := by
      rcases ix with ⟨q, _⟩ | ⟨k, q1, q2, _⟩
      · rw [q] at c
        exact absurd c (by decide)
      · rw [q2, nI_toInt (by omega)]
        exact q1
    refine rm_pair hw hr c rk G (fun v' q g1 => kQ _ _ (fun R R' hR kR => ?_) g1)
    unfold mCl at hR ⊢
    refine owy_x hR n24 (fun r' ix' g' => ⟨fun d => ?_, fun d => ?_⟩)
    · have er : r = r' := ixs_u ix ix' same
      have K := g'.1 d
      rw [← er] at K ⊢
      exact q _ _ K (fun w' z1 _ g3 => kR w' z1 g3)
    · have er : r = r' := ixs_u ix ix' same
      rw [← er] at d
      exact absurd (Classical.not_not.mp d) (by omega)
  · rw [v26] at ix
    unfold mCl at hR ⊢
    refine owy_x hR n24 (fun r' ix' g' => ⟨fun d => ?_, fun d => kR _ hr (g'.2 d)⟩)
    have er : r = r' := ixs_u ix ix' same
    rw [← er] at d
    rcases ix with ⟨q, _⟩ | ⟨k, q1, q2, _⟩
    · rw [q] at d
      exact absurd (by decide) d
    · rw [q2, nI_toInt (by omega)] at c
      omega
