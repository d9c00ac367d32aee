/-! the class's isSafe: all failures -/
def visC (w : MW) (t p : Nat) : Prop := (t : Int) < tC w ∧ p < 10 ∧ kC w t < 8 ∧ ¬ (kC w t = 4 ∧ p = 1)
/-- ports are below the number of a thing's ports -/
def PY (w : MW) : Prop := ∀ e : Nat, (e : Int) < 2 * pC w → 0 ≤ atC w e → ¬ tkC w (atC w e) → (poC w e : Int) < (w.1 11 (atC w e).toNat).toInt
theorem btw_t : ∀ n, n < 5 → ∀ a, a < n → ∀ b, b < n → a ≠ b → mb ((stT 1002).getD n 0) (4 * a + b) = true := by decide
theorem sg_t {w : MW} (hb : PB w) {t : Nat} (ht : (t : Int) < tC w) : (stT 1001).getD ((((w.1 9 t) * (10 : Int32)) + (w.1 16 t)).toInt.toNat) 0 = PSt (kC w t) (qC w t) := by
  have k9 := hb.2.2.1 t ht
  have k16 := hb.2.2.2.1 t ht
  have m1 := ti_mul2 (Eq.refl (w.1 9 t).toInt) (by decide : ((10 : Int32)).toInt = 10) (by omega) (by omega)
  have i1 := ti_add2 m1 (Eq.refl (w.1 16 t).toInt) (by omega) (by omega)
  unfold PSt kC qC
  rw [i1, Int.mul_comm]
theorem px_inj {w : MW} (hx : PX w) (hb : PB w) {e g : Nat} (he : (e : Int) < 2 * pC w) (hg : (g : Int) < 2 * pC w) (a0 : 0 ≤ atC w e) (nt : ¬ tkC w (atC w e)) (ea : atC w g = atC w e) (ep : poC w g = poC w e) : g = e := by
  have p1 := hb.2.1.2
  have x1 := ((hx.1 e he).2 a0 nt).2
  have x2 := ((hx.1 g hg).2 (by omega) (by rw [ea]; exact nt)).2
  rw [ea, ep, x1] at x2
  have n1 : (nI e).toInt = (e : Int) := nI_toInt (by omega)
  have n2 : (nI g).toInt = (g : Int) := nI_toInt (by omega)
  rw [x2] at n1
  omega
theorem m1_i : (-1 : Int32).toInt = -1 := by decide
/-- a failure that lets no more through -/
theorem ed_sub {w : MW} (hx : PX w) (hy : PY w) (hb : PB w) {t p : Nat} (v : visC w t p) (h0 : (oth w t p).toInt = 0) {z y : Nat} (h : EdC w (nI t) (PSt (kC w t) p) z y) : EdC w (-1) 0 z y := by
  have t1 := hb.1.2
  have p1 := hb.2.1.2
  have vt := v.1
  have nt : (nI t).toInt = (t : Int) := nI_toInt (by omega)
  obtain ⟨e, he, a0, h⟩ := h
  refine ⟨e, he, a0, ?_⟩
  rcases h with h | ⟨h1, h2, g, hg, h3, h4, h5, h6⟩
  · exact Or.inl h
  refine Or.inr ⟨h1, h2, g, hg, h3, h4, ?_, h6⟩
  have al := (hx.1 e he).1
  unfold psC sgC at h5 ⊢
  rw [if_neg (show ¬ atC w e = (-1 : Int32).toInt by rw [m1_i]; omega), sg_t hb (t := (atC w e).toNat) (by omega)]
  by_cases q : atC w e = (t : Int)
  · rw [nt, if_pos q] at h5
    have qt : (atC w e).toNat = t := by omega
    rw [qt]
    have pe := ((hx.1 e he).2 a0 h1).1
    have pg := ((hx.1 g hg).2 (by omega) (by rw [h3]; exact h1)).1
    have ye := hy e he a0 h1
    have yg := hy g hg (by omega) (by rw [h3]; exact h1)
    rw [h3] at yg
    rw [qt] at ye yg
    have ne : ¬ poC w e = poC w g := fun z => h4 (px_inj hx hb he hg a0 h1 h3 z.symm)
    have m1 : (poC w e : Int) < mpt w t := by
      unfold mpt
      split <;> omega
    have m2 : (poC w g : Int) < mpt w t := by
      unfold mpt
      split <;> omega
    have m3 : mpt w t ≤ 4 := by
      unfold mpt
      split <;> omega
    have bt := btw_t (mpt w t).toNat (by omega) (poC w e) (by omega) (poC w g) (by omega) ne
    have l32 : 4 * poC w e + poC w g < 32 := by omega
    unfold oth at h0
    rw [if_neg (show ¬ 8 ≤ kC w t by have := v.2.2.1; omega), if_neg v.2.2.2] at h0
    split at h0
    · next c =>
      have c2 : (((PSt (kC w t) p) &&& ((PSt (kC w t) (qC w t)) ^^^ ((-1) : Int32))) &&& ((stT 1002).getD (mpt w t).toNat 0)) = 0 := ti_inj (by rw [c, i_0])
      have c3 : mb (((PSt (kC w t) p) &&& ((PSt (kC w t) (qC w t)) ^^^ ((-1) : Int32))) &&& ((stT 1002).getD (mpt w t).toNat 0)) (4 * poC w e + poC w g) = false := by rw [c2, mb_z]
      have c4 : mb (((PSt (kC w t) p) &&& ((PSt (kC w t) (qC w t)) ^^^ ((-1) : Int32))) &&& ((stT 1002).getD (mpt w t).toNat 0)) (4 * poC w e + poC w g) = (mb ((PSt (kC w t) p) &&& ((PSt (kC w t) (qC w t)) ^^^ ((-1) : Int32))) (4 * poC w e + poC w g) && mb ((stT 1002).getD (mpt w t).toNat 0) (4 * poC w e + poC w g)) := by
        unfold mb
        rw [Int32.toBitVec_and, BitVec.getLsbD_and]
      rw [c4, bt, Bool.and_true, mb_andn _ _ l32, h5, Bool.true_and] at c3
      cases q2 : mb (PSt (kC w t) (qC w t)) (4 * poC w e + poC w g) with
      | true => rfl
      | false =>
        rw [q2] at c3
        cases c3
    · next c =>
      exact absurd h0 (mb_nz h5)
  · rw [nt, if_neg q, sg_t hb (t := (atC w e).toNat) (by omega)] at h5
    exact h5
theorem clC_sub {w : MW} {v ps v' ps' : Int32} (h : ∀ z y, EdC w v ps z y → EdC w v' ps' z y) (c : clC w v' ps') : clC w v ps := fun x a b q => by
  have m : ∀ l x, FlC w v ps l x → FlC w v' ps' l x := fun l x r => rs_mono (fun y hy => rs_src hy) (fun z y e => ⟨e.1, h z y e.2⟩) x r
  exact c x a b ⟨q.1, q.2.1, q.2.2.1, q.2.2.2.1, m a x q.2.2.2.2.1, m b x q.2.2.2.2.2.1, q.2.2.2.2.2.2⟩
theorem oth_v {w : MW} {t p : Nat} (h : ¬ (oth w t p).toInt = 0) : kC w t < 8 ∧ ¬ (kC w t = 4 ∧ p = 1) ∧ oth w t p = PSt (kC w t) p := by
  unfold oth at h ⊢
  by_cases c1 : 8 ≤ kC w t
  · rw [if_pos c1] at h
    exact absurd i_0 h
  · rw [if_neg c1] at h ⊢
    by_cases c2 : kC w t = 4 ∧ p = 1
    · rw [if_pos c2] at h
      exact absurd i_0 h
    · rw [if_neg c2] at h ⊢
      by_cases c3 : (((PSt (kC w t) p) &&& ((PSt (kC w t) (qC w t)) ^^^ ((-1) : Int32))) &&& ((stT 1002).getD (mpt w t).toNat 0)).toInt = 0
      · rw [if_pos c3] at h
        exact absurd i_0 h
      · rw [if_neg c3]
        exact ⟨by omega, c2, rfl⟩
/-- a failure that the class looks at -/
def vst (w : MW) (t p : Nat) : Prop := visC w t p ∧ ¬ (oth w t p).toInt = 0 ∧ (p = 0 ∨ ¬ oth w t p = oth w t (p - 1))
def FBC (w : MW) (f : Int) (x a b : Nat) : Prop := (f = 1 ∧ LbC w (-1) 0 x a b) ∨ (clC w (-1) 0 ∧ ∃ t p : Nat, f = 2 + 10 * t + p ∧ vst w t p ∧ (∀ t' p', visC w t' p' → (t' < t ∨ (t' = t ∧ p' < p)) → clC w (nI t') (PSt (kC w t') p')) ∧ LbC w (nI t) (PSt (kC w t) p) x a b)
def SfC (w : MW) (r : Int32) (w' : MW) : Prop := (r = 1 ∧ (w'.1 42 6).toInt = 0 ∧ clC w (-1) 0 ∧ ∀ t p, visC w t p → clC w (nI t) (PSt (kC w t) p)) ∨ (r = 0 ∧ 0 ≤ (w'.1 42 7).toInt ∧ 0 ≤ (w'.1 42 8).toInt ∧ 0 ≤ (w'.1 42 9).toInt ∧ FBC w (w'.1 42 6).toInt (w'.1 42 7).toInt.toNat (w'.1 42 8).toInt.toNat (w'.1 42 9).toInt.toNat)
theorem oth_c {w w' : MW} (h : ∀ c j, ¬ c = 42 → ¬ c = 44 → w'.1 c j = w.1 c j) (t p : Nat) : oth w' t p = oth w t p := by
  unfold oth mpt kC qC
  rw [h 9 t (by decide) (by decide), h 16 t (by decide) (by decide), h 11 t (by decide) (by decide)]
theorem pst_d {k p : Int} (k0 : 0 ≤ k) (k9 : k ≤ 9) (p0 : 0 ≤ p) (p9 : p ≤ 9) : dgo (PSt k p) := dgo_t (10 * k + p).toNat (by omega)
theorem sc_57 {w w3 : MW} {E E' : MW → Prop} {Q Q' : Int32 → MW → Prop} (r : RDY w w3) (ms : MSy w) (hx : PX w) (hy : PY w) (hb : PB w) (s44 : ∀ l y, l < 15 → SrC w l y → y < 44) (c0 : clC w (-1) 0) (kE : ∀ w', o57 w3 w' → (∀ t p, visC w t p → clC w (nI t) (PSt (kC w t) p)) → E w' → E' w') (kQ : ∀ (w' : MW) (f : Int32), o57 w3 w' → 0 ≤ (w'.1 42 7).toInt → 0 ≤ (w'.1 42 8).toInt → 0 ≤ (w'.1 42 9).toInt → FBC w f.toInt (w'.1 42 7).toInt.toNat (w'.1 42 8).toInt.toNat (w'.1 42 9).toInt.toNat → Q 0 (sI w' 42 6 f) → Q' 0 (sI w' 42 6 f)) : ∀ (m : Nat) (tr f : Int32) (w' : MW), q_Sf_isSafe_57 E Q m tr f w' → 0 ≤ f.toInt → o57 w3 w' → (∀ t p : Nat, visC w t p → (10 * t + p : Int) < f.toInt → clC w (nI t) (PSt (kC w t) p)) → (f.toInt % 10 = 0 ∨ tr = oth w (f.toInt / 10).toNat ((f.toInt % 10).toNat - 1)) → q_Sf_isSafe_57 E' Q' m tr f w' := by
  have t0 := hb.1.1
  have t1 := hb.1.2
  intro m
  induction m with
  | zero => exact fun _ _ _ h _ _ _ _ => False.elim h
  | succ m ih =>
    intro tr f w' h f0 o I1 I2
    have ow : ∀ c j, ¬ c = 42 → ¬ c = 44 → w'.1 c j = w.1 c j := fun c j h1 h2 => by rw [o.1 c j h1]; exact r.1 c j h1 h2
    have e10 : ((10 : Int32) * (w'.1 8 0)).toInt = 10 * tC w := by
      rw [ow 8 0 (by decide) (by decide)]
      exact ti_mul2 (by decide) rfl (by unfold tC at *; omega) (by unfold tC at *; omega)
    rw [q_Sf_isSafe_57.eq_2] at h ⊢
    refine ⟨h.1, fun c => kE w' o (fun t p v => I1 t p v (by have := v.1; have := v.2.1; omega)) (h.2.1 c), fun c => ?_⟩
    have H := h.2.2 c
    have fb : f.toInt < 10 * tC w := by omega
    have ef := ti_add2 (Eq.refl f.toInt) i_1 (by omega) (by omega)
    have fd : (f / (10 : Int32)).toInt = f.toInt / 10 := nb_div f0 (by decide) (by decide)
    have fm : (f - f / (10 : Int32) * (10 : Int32)).toInt = f.toInt % 10 := nb_rem f0 (by decide) (by decide)
    have tCe : tC w' = tC w := by
      unfold tC
      rw [ow 8 0 (by decide) (by decide)]
    generalize eT : (f.toInt / 10).toNat = T at *
    generalize eP : (f.toInt % 10).toNat = P at *
    have fTP : f.toInt = 10 * (T : Int) + P := by omega
    have P10 : P < 10 := by omega
    have TT : (T : Int) < tC w := by omega
    have k9 := hb.2.2.1 T TT
    have nx : ∀ (r' : Int32) (w2 : MW), r' = oth w T P → o57 w3 w2 → (visC w T P → clC w (nI T) (PSt (kC w T) P)) → q_Sf_isSafe_57 E Q m r' (f + (1 : Int32)) w2 → q_Sf_isSafe_57 E' Q' m r' (f + (1 : Int32)) w2 := fun r' w2 er o2 cl g => by
      refine ih _ _ _ g (by omega) o2 (fun t p v hl => ?_) ?_
      · by_cases q : (10 * t + p : Int) = f.toInt
        · have v2 := v.2.1
          have et : t = T := by omega
          have ep : p = P := by omega
          rw [et, ep] at v ⊢
          exact cl v
        · exact I1 t p v (by omega)
      · by_cases q : (f + (1 : Int32)).toInt % 10 = 0
        · exact Or.inl q
        · refine Or.inr ?_
          rw [er, show ((f + (1 : Int32)).toInt / 10).toNat = T by omega, show ((f + (1 : Int32)).toInt % 10).toNat - 1 = P by omega]
    have look : ∀ r' : Int32, r' = oth w T P → ¬ r'.toInt = 0 → (P = 0 ∨ ¬ r' = oth w T (P - 1)) → q_Sf_isSafe_103 f r' w' (fun (x57_1 : Int32) (x57_2 : Int32) (w : MW) => q_Sf_isSafe_57 E Q m x57_1 x57_2 w) E Q → q_Sf_isSafe_103 f r' w' (fun (x57_1 : Int32) (x57_2 : Int32) (w : MW) => q_Sf_isSafe_57 E' Q' m x57_1 x57_2 w) E' Q' := fun r' er nz hv g => by
      rw [er] at nz
      have ov := oth_v nz
      have vis' : visC w T P := ⟨TT, P10, ov.1, ov.2.1⟩
      have ep : r' = PSt (kC w T) P := by rw [er]; exact ov.2.2
      have eT2 : f / (10 : Int32) = nI T := ti_inj (by rw [fd, nI_toInt (by omega)]; omega)
      rw [q_Sf_isSafe_103.eq_1, eT2] at g ⊢
      refine lm_x g r o ms hx hb (by rw [ep]; exact pst_d k9.1 k9.2 (by omega) (by omega)) s44 (fun w2 o2 cl g2 => ⟨fun z => nx r' w2 er o2 (fun _ => by rw [← ep]; exact cl) (g2.1 z), fun z => absurd i_0 z⟩) (fun w2 o2 n7 n8 n9 lbc g2 => ⟨fun z => absurd z (by decide), fun z => kQ w2 _ o2 n7 n8 n9 (Or.inr ⟨c0, T, P, ?_, ⟨vis', nz, ?_⟩, fun t' p' v' hl => ?_, ?_⟩) (g2.2 z)⟩)
      · rw [ti_add2 (by decide : ((2 : Int32)).toInt = 2) (Eq.refl f.toInt) (by omega) (by omega)]
        omega
      · rcases hv with hv | hv
        · exact Or.inl hv
        · exact Or.inr (by rw [← er]; exact hv)
      · have v2 := v'.2.1
        exact I1 t' p' v' (by omega)
      · rw [← ep]
        exact lbc
    refine op_x (PB_c ow hb) (by omega) (by omega) (by omega) (by omega) H (fun r' er g => ?_)
    rw [oth_c ow, fd, fm, eT, eP] at er
    refine ⟨fun z => nx r' w' er o (fun v => clC_sub (fun z' y' e' => ed_sub hx hy hb v (by rw [← er]; exact z) e') c0) (g.1 z), fun z => ⟨fun z2 => look r' er z ?_ ((g.2 z).1 z2), fun z2 => ⟨fun z3 => nx r' w' er o (fun v => ?_) (((g.2 z).2 z2).1 z3), fun z3 => look r' er z (Or.inl ?_) (((g.2 z).2 z2).2 z3)⟩⟩⟩
    · by_cases P0 : P = 0
      · exact Or.inl P0
      · refine Or.inr (fun q => z2 ?_)
        rcases I2 with I2 | I2
        · omega
        · rw [I2, q]
    · rw [fm] at z3
      have z2' : r' = tr := ti_inj (Classical.not_not.mp z2)
      rcases I2 with I2 | I2
      · exact absurd I2 z3
      · have n1 : ¬ (oth w T P).toInt = 0 := by
          rw [← er]
          exact z
        have n2 : ¬ (oth w T (P - 1)).toInt = 0 := by
          rw [← I2, ← z2']
          exact z
        have o1 := oth_v n1
        have o2 := oth_v n2
        have eq : PSt (kC w T) P = PSt (kC w T) ((P - 1 : Nat) : Int) := by
          rw [← o1.2.2, ← o2.2.2, ← I2, ← z2', er]
        rw [eq]
        exact I1 T (P - 1) ⟨TT, by omega, o2.1, o2.2.1⟩ (by omega)
    · rw [fm] at z3
      omega
theorem f43 {w0 : MW} {v : Int64} {E E' Q Q' : MW → Prop} (k : ∀ w', oJ 43 w0 w' → (∀ j, j < 15 → w'.2.1 43 j = v) → E w' → E' w') : ∀ (m : Nat) (i : Int32) (w : MW), q_Ar_fill1_43_6 v 15 E Q m i w → 0 ≤ i.toInt → oJ 43 w0 w → (∀ j : Nat, (j : Int) < i.toInt → w.2.1 43 j = v) → q_Ar_fill1_43_6 v 15 E' Q' m i w := by
  intro m
  induction m with
  | zero => exact fun _ _ h _ _ _ => False.elim h
  | succ m ih =>
    intro i w h i0 o inv
    have e15 : (15 : Int32).toInt = 15 := by decide
    rw [q_Ar_fill1_43_6.eq_2] at h ⊢
    refine ⟨fun c => k w o (fun j hj => inv j (by omega)) (h.1 c), fun c => ⟨(h.2 c).1, ?_⟩⟩
    have e := ti_add2 (Eq.refl i.toInt) i_1 (by omega) (by omega)
    refine ih _ _ (h.2 c).2 (by omega) (oJ_s o _ _) (fun j hj => ?_)
    rw [sJ_if]
    by_cases q : j = i.toInt.toNat
    · rw [if_pos q]
    · rw [if_neg q]
      exact inv j (by omega)
theorem chn_c {w w' : MW} (h : ∀ j, w'.1 35 j = w.1 35 j) : chn w' = chn w := by
  funext p j
  induction j with
  | zero => rfl
  | succ j ih =>
    show (w'.1 35 (chn w' p j).toNat).toInt = (w.1 35 (chn w p j).toNat).toInt
    rw [ih, h]
theorem srC_c {w w' : MW} (h : ∀ c j, ¬ c = 42 → ¬ c = 44 → w'.1 c j = w.1 c j) (l y : Nat) : (WyS w' l y ↔ WyS w l y) ∧ (LqS w' l y ↔ LqS w l y) := by
  have e1 : tC w' = tC w := by
    unfold tC
    rw [h 8 0 (by decide) (by decide)]
  have e2 : pC w' = pC w := by
    unfold pC
    rw [h 8 1 (by decide) (by decide)]
  have e3 : ∀ k i, wpi w' k i = wpi w k i := fun k i => by
    unfold wpi
    rw [chn_c (fun j => h 35 j (by decide) (by decide)), h 32 k (by decide) (by decide)]
  have e4 : ∀ k i, wok w' k i ↔ wok w k i := fun k i => by
    unfold wok
    rw [h 31 k (by decide) (by decide)]
    constructor
    · intro q
      exact ⟨q.1, fun j hj => by rw [← e3]; exact q.2 j hj⟩
    · intro q
      exact ⟨q.1, fun j hj => by rw [e3]; exact q.2 j hj⟩
  constructor
  · unfold WyS
    rw [e1, h 26 1 (by decide) (by decide)]
    constructor
    · intro q
      obtain ⟨k, q1, q2, q3⟩ := q
      rw [h 30 k (by decide) (by decide)] at q2
      rw [h 28 k (by decide) (by decide)] at q3
      refine ⟨k, q1, q2, ?_⟩
      rcases q3 with q3 | ⟨i, q4, q5⟩
      · exact Or.inl q3
      · exact Or.inr ⟨i, (e4 k i).mp q4, by rw [← e3]; exact q5⟩
    · intro q
      obtain ⟨k, q1, q2, q3⟩ := q
      refine ⟨k, q1, by rw [h 30 k (by decide) (by decide)]; exact q2, ?_⟩
      rw [h 28 k (by decide) (by decide)]
      rcases q3 with q3 | ⟨i, q4, q5⟩
      · exact Or.inl q3
      · exact Or.inr ⟨i, (e4 k i).mpr q4, by rw [e3]; exact q5⟩
  · unfold LqS
    rw [e1, e2, h 17 y (by decide) (by decide)]
/-- isSafe -/
theorem sc_x {w : MW} {Q Q' : Int32 → MW → Prop} (h : p_Sf_isSafe w Q) (ms : MSy w) (hx : PX w) (hy : PY w) (hb : PB w) (h28 : ∀ k : Nat, k < 24 → 0 ≤ (w.1 28 k).toInt ∧ (w.1 28 k).toInt < 20) (s44 : ∀ l y, l < 15 → SrC w l y → y < 44) (k : ∀ r w', SfC w r w' → Q r w' → Q' r w') : p_Sf_isSafe w Q' := by
  rw [p_Sf_isSafe.eq_1, p_Ar_fill1_43.eq_1] at h ⊢
  refine f43 (fun w1 o1 z1 g1 => ?_) _ _ _ h (by decide) (oJ_r _ _) (fun j hj => by rw [i_0] at hj; omega)
  have a1 : ∀ c j, ¬ c = 42 → w1.1 c j = w.1 c j := fun c j hc => by rw [o1.1, sI_oth _ _ _ _ _ _ hc]
  have a1' : ∀ c j, ¬ c = 42 → ¬ c = 44 → w1.1 c j = w.1 c j := fun c j hc _ => a1 c j hc
  have t1 : tC w1 = tC w := by
    unfold tC
    rw [a1 8 0 (by decide)]
  refine as_x g1 (by rw [t1]; exact hb.1.1) (by rw [t1]; exact hb.1.2) (fun k hk => by rw [a1 28 k (by decide)]; exact h28 k hk) (fun w2 o2 b2 g2 => ?_)
  have a2 : ∀ c j, ¬ c = 42 → w2.1 c j = w.1 c j := fun c j hc => by rw [o2.1]; exact a1 c j hc
  have a2' : ∀ c j, ¬ c = 42 → ¬ c = 44 → w2.1 c j = w.1 c j := fun c j hc _ => a2 c j hc
  have t2 : tC w2 = tC w := by
    unfold tC
    rw [a2 8 0 (by decide)]
  have p2 : pC w2 = pC w := by
    unfold pC
    rw [a2 8 1 (by decide)]
  refine fr_x g2 (by rw [t2]; exact hb.1.1) (by rw [t2]; exact hb.1.2) (by rw [p2]; exact hb.2.1.1) (by rw [p2]; exact hb.2.1.2) (fun r3 w2b w3 o2b b2b o3 rv3 z3 g3 => ?_)
  have r : RDY w w3 := by
    refine ⟨fun c j h1 h2 => ?_, fun l y hl => ?_, fun l a l0 l1 ha => ?_⟩
    · rw [o3.2 c j h2, o2b.1]
      exact a2 c j h1
    · unfold S43
      rw [show w3.2.1 43 l = w2b.2.1 43 l by rw [o3.1], b2b l y, b2 l y, z1 l hl, lb_0, (srC_c a1' l y).1, (srC_c a2' l y).2]
      unfold SrC
      constructor
      · intro q
        rcases q with (q | q) | q
        · cases q
        · exact Or.inl q
        · exact Or.inr q
      · intro q
        rcases q with q | q
        · exact Or.inl (Or.inr q)
        · exact Or.inr q
    · rw [rv3 l a l0 l1 ha]
      unfold RvS
      rw [o3.1, o3.2 22 l (by decide)]
  have f6 : (w3.1 42 6).toInt = 0 := by
    rw [o3.2 42 6 (by decide), o2b.1, o2.1, o1.1, sI_same]
    exact i_0
  refine ⟨fun c => lm_x (g3.1 c) r (o57_r _) ms hx hb dgo_0 s44 (fun w6 o6 cl g6 => ⟨fun z => sc_57 r ms hx hy hb s44 cl (fun w' o' all g' => k 1 w' (Or.inl ⟨rfl, by rw [o'.2.2.2]; exact f6, cl, all⟩) g') (fun w' f o' n7 n8 n9 fb g' => k 0 _ (Or.inr ⟨rfl, ?_⟩) g') _ _ _ _ (g6.1 z) (by decide) o6 (fun t p _ hl => by rw [i_0] at hl; omega) (Or.inl (by decide)), fun z => absurd i_0 z⟩) (fun w6 o6 n7 n8 n9 lbc g6 => ⟨fun z => absurd z (by decide), fun z => k 0 _ (Or.inr ⟨rfl, ?_⟩) (g6.2 z)⟩), fun c => k 1 w3 (Or.inl ⟨rfl, f6, ?_, ?_⟩) (g3.2 c)⟩
  · rw [sI_ne _ _ _ _ _ (show (7 : Nat) ≠ 6 by decide), sI_ne _ _ _ _ _ (show (8 : Nat) ≠ 6 by decide), sI_ne _ _ _ _ _ (show (9 : Nat) ≠ 6 by decide), sI_same]
    exact ⟨n7, n8, n9, fb⟩
  · rw [sI_ne _ _ _ _ _ (show (7 : Nat) ≠ 6 by decide), sI_ne _ _ _ _ _ (show (8 : Nat) ≠ 6 by decide), sI_ne _ _ _ _ _ (show (9 : Nat) ≠ 6 by decide), sI_same]
    exact ⟨n7, n8, n9, Or.inl ⟨i_1, lbc⟩⟩
  · have none : ∀ v ps : Int32, clC w v ps := fun v ps x a b q => by
      have s := (rv_src r ms q.2.1 q.2.2.1 q.2.2.2.1).mpr ⟨rea_s q.2.2.2.2.1, rea_s q.2.2.2.2.2.1, q.2.2.2.2.2.2⟩
      exact mb_nz s (z3.mp (Classical.not_not.mp c) b (by have := q.2.1; have := q.2.2.1; omega) q.2.2.2.1)
    exact none _ _
  · intro t p _ x a b q
    have s := (rv_src r ms q.2.1 q.2.2.1 q.2.2.2.1).mpr ⟨rea_s q.2.2.2.2.1, rea_s q.2.2.2.2.2.1, q.2.2.2.2.2.2⟩
    exact mb_nz s (z3.mp (Classical.not_not.mp c) b (by have := q.2.1; have := q.2.2.1; omega) q.2.2.2.1)
