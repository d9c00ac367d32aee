/-! everything is sensed, on both sides -/
/-- name n is sensed -/
def SnsC (v : MW) (n : Nat) : Prop := (v.1 71 n).toInt = 8 ∧ (v.1 75 n).toInt < 5
def SnsM (w : MW) (n : Nat) : Prop := ¬ (w.1 201 n).toInt = -1 ∧ (w.1 201 n).toInt < 5
/-- names: their senses and values -/
def SsR (v w : MW) : Prop := (v.1 62 10).toInt = (w.1 129 32).toInt ∧ ((v.1 62 10).toInt ≤ 40) ∧ ∀ n : Nat, (n : Int) < (v.1 62 10).toInt → (SnsC v n ↔ SnsM w n) ∧ (SnsC v n → v.1 75 n = w.1 201 n ∧ v.1 76 n = w.1 202 n)
def VlR (v w : MW) : Prop := ∀ n : Nat, (n : Int) < (v.1 62 10).toInt → v.2.1 74 n = w.2.1 206 n
/-- conditions that are watched -/
def WtR (v w : MW) : Prop := (∀ c : Nat, c < 16 → ((w.1 203 c).toInt = -1 ∧ 5 ≤ (v.1 126 c).toInt ∧ mb (w.1 147 24) c = false) ∨ (¬ (w.1 203 c).toInt = -1 ∧ v.1 126 c = w.1 203 c ∧ v.1 124 c = w.1 204 c ∧ v.2.1 125 c = w.2.1 205 c)) ∧ ∀ c : Nat, 16 ≤ c → c < 32 → mb (w.1 147 24) c = false
theorem snv_c {v v1 w w1 : MW} (e : v1.1 = v.1) (e' : w1.1 = w.1) (a b : Int) (o : Option Int32) : SnV v1 w1 a b o ↔ SnV v w a b o := by
  have e1 : tM w1 = tM w := by
    unfold tM
    rw [e']
  have e2 : ∀ b, tkM w1 b ↔ tkM w b := fun b => by
    unfold tkM
    rw [e']
  have e3 : ∀ b, HoM w1 b ↔ HoM w b := fun b => by
    unfold HoM tM pM tkM
    rw [e']
  have e4 : ∀ b, VaM w1 b ↔ VaM w b := fun b => by
    unfold VaM tM
    rw [e']
  unfold SnV
  rw [e1, e2, e3, e4, e, e']
theorem hr_j {v v1 w w1 : MW} (e : v1.1 = v.1) (e' : w1.1 = w.1) (j20 : ∀ j, v1.2.1 20 j = v.2.1 20 j) (hr : HRq (mx v w)) : HRq (mx v1 w1) := by
  have ag : ∀ m : Pl, Ag m (mx v w) (mx v1 w1) := fun m => mx_ag (fun k j _ => ⟨fun _ => by rw [e], fun _ => by rw [e']⟩)
  refine HRq_ag (ag lPL) (ag lTq) (ag lSk) (ag lWy) (fun j => ?_) hr
  rw [mx_j _ _ (by decide), mx_j _ _ (by decide)]
  exact j20 j
def J10 (v w v1 : MW) (x : Int) : Prop := v1.1 = v.1 ∧ v1.2.2 = v.2.2 ∧ (∀ k j, ¬ k = 74 → v1.2.1 k j = v.2.1 k j) ∧ (∀ j : Nat, (j : Int) < x → (SnsC v j → ∃ o, SnV v w (v.1 75 j).toInt (v.1 76 j).toInt o ∧ v1.2.1 74 j = snm o) ∧ (¬ SnsC v j → v1.2.1 74 j = v.2.1 74 j)) ∧ ∀ j : Nat, ¬ (j : Int) < x → v1.2.1 74 j = v.2.1 74 j
theorem j10_s {v w v1 : MW} {x : Nat} {y : Int64} (h : J10 v w v1 x) (hy : (SnsC v x → ∃ o, SnV v w (v.1 75 x).toInt (v.1 76 x).toInt o ∧ y = snm o) ∧ (¬ SnsC v x → y = v.2.1 74 x)) : J10 v w (sJ v1 74 x y) ((x : Int) + 1) := by
  refine ⟨h.1, h.2.1, fun k j hk => ?_, fun j hj => ?_, fun j hj => ?_⟩
  · rw [sJ_at, if_neg (fun q => hk q.1)]
    exact h.2.2.1 k j hk
  · rw [sJ_if]
    by_cases c : j = x
    · rw [if_pos c, c]
      exact hy
    · rw [if_neg c]
      exact h.2.2.2.1 j (by omega)
  · rw [sJ_if, if_neg (by omega)]
    exact h.2.2.2.2 j (by omega)
theorem j10_n {v w v1 : MW} {x : Nat} (h : J10 v w v1 x) (hy : ¬ SnsC v x) : J10 v w v1 ((x : Int) + 1) := by
  refine ⟨h.1, h.2.1, h.2.2.1, fun j hj => ?_, fun j hj => h.2.2.2.2 j (by omega)⟩
  by_cases c : j = x
  · rw [c]
    exact ⟨fun q => absurd q hy, fun _ => h.2.2.2.2 x (by omega)⟩
  · exact h.2.2.2.1 j (by omega)
theorem snr_c {o : Option Int32} (p : ∀ x, o = some x → 0 ≤ x.toInt) : (0 ≤ (lg_cmp (snr o) (0 : Int64)).toInt → snr o * (1000 : Int64) = snm o) ∧ (¬ 0 ≤ (lg_cmp (snr o) (0 : Int64)).toInt → (-1 : Int64) = snm o) := by
  have l := lc_lt (snr o) 0
  have z0 : (0 : Int64).toInt = 0 := by decide
  rw [z0] at l
  cases o with
  | none =>
    have e : (snr none).toInt = -1 := by decide
    exact ⟨fun q => by omega, fun _ => rfl⟩
  | some x =>
    have e : (snr (some x)).toInt = x.toInt := nb_i2l x
    have q := p x rfl
    exact ⟨fun _ => Int64.mul_comm _ _, fun y => by omega⟩
theorem csa_10 {v w : MW} {E E' Q Q' : MW → Prop} (hv : BND v) (hw : BND w) (hr : HRq (mx v w)) (n0 : 0 ≤ (w.1 127 78).toInt) (n40 : (v.1 62 10).toInt ≤ 40) (kE : ∀ v1, J10 v w v1 (v.1 62 10).toInt → E v1 → E' v1) : ∀ (m : Nat) (x : Int32) (v1 : MW), q_Bh_senseAll_10 E Q m x v1 → 0 ≤ x.toInt → x.toInt ≤ (v.1 62 10).toInt ∨ x.toInt = 0 → J10 v w v1 x.toInt → q_Bh_senseAll_10 E' Q' m x v1 := by
  intro m
  induction m with
  | zero => exact fun _ _ h _ _ _ => False.elim h
  | succ m ih =>
    intro x v1 h x0 xN J
    have e1 := J.1
    have b1 : BND v1 := fun k j => by rw [e1]; exact hv k j
    have hr1 : HRq (mx v1 w) := hr_j e1 rfl (fun j => J.2.2.1 20 j (by decide)) hr
    have xe : x.toInt = ((x.toInt.toNat : Nat) : Int) := by omega
    rw [q_Bh_senseAll_10.eq_2, e1] at h
    rw [q_Bh_senseAll_10.eq_2, e1]
    have ex := fun (q : ¬ (v.1 62 10).toInt ≤ x.toInt) => ti_add2 (Eq.refl x.toInt) i_1 (by omega) (by omega)
    refine ⟨fun d => kE v1 ?_ (h.1 d), fun d => ?_⟩
    · have b62 := (bd_62_10 hv).1
      rw [show (v.1 62 10).toInt = x.toInt by omega]
      exact J
    have G := h.2 d
    have e := ex d
    have next : ¬ SnsC v x.toInt.toNat → q_Bh_senseAll_10 E Q m (x + (1 : Int32)) v1 → q_Bh_senseAll_10 E' Q' m (x + (1 : Int32)) v1 := fun ns g => by
      refine ih _ _ g (by omega) (by omega) ?_
      rw [e, xe]
      rw [xe] at J
      exact j10_n J ns
    rw [p_Pr_isSensed.eq_1, p_Pr_isSignal.eq_1, e1] at G
    rw [p_Pr_isSensed.eq_1, p_Pr_isSignal.eq_1, e1]
    have one : ¬ (1 : Int32).toInt = 0 := by decide
    refine ⟨fun c => by omega, fun c => ⟨fun c2 => absurd c2 d, fun c2 => ?_⟩⟩
    have G2 := (G.2 c).2 c2
    refine ⟨G2.1, fun c3 => ⟨fun _ => ⟨fun _ => next (fun q => c3 q.1) (((G2.2.1 c3).1 i_0).1 i_0), fun q => absurd i_0 q⟩, fun q => absurd i_0 q⟩, fun c3 => ⟨fun q => absurd q one, fun q => ?_⟩⟩
    have G3 := (G2.2.2 c3).2 q
    have r8 := Classical.not_not.mp c3
    refine ⟨G3.1, fun c4 => ⟨fun _ => next (fun q2 => by have := q2.2; omega) ((G3.2.1 c4).1 i_0), fun q2 => absurd i_0 q2⟩, fun c4 => ⟨fun q2 => absurd q2 one, fun q2 => ?_⟩⟩
    have G4 := (G3.2.2 c4).2 q2
    have sn : SnsC v x.toInt.toNat := ⟨r8, by omega⟩
    refine ⟨G4.1, G4.2.1, csn_x (w := w) hw hr1 G4.2.2 (fun o so g => ?_)⟩
    have so' := (snv_c (v := v) (v1 := v1) (w := w) (w1 := w) e1 rfl _ _ o).mp so
    have sc := snr_c (snv_p hv hr n0 hw so')
    refine ⟨fun t => ⟨(g.1 t).1, ?_⟩, fun t => ⟨(g.2 t).1, ?_⟩⟩
    · have g2 := (g.1 t).2
      rw [sc.1 t] at g2 ⊢
      refine ih _ _ g2 (by omega) (by omega) ?_
      rw [e, xe]
      rw [xe] at J
      exact j10_s J ⟨fun _ => ⟨o, so', rfl⟩, fun ns => absurd sn ns⟩
    · have g2 := (g.2 t).2
      rw [sc.2 t] at g2 ⊢
      refine ih _ _ g2 (by omega) (by omega) ?_
      rw [e, xe]
      rw [xe] at J
      exact j10_s J ⟨fun _ => ⟨o, so', rfl⟩, fun ns => absurd sn ns⟩
/-- condition c is on, as it is watched -/
def cdW (v w : MW) (c : Nat) : Prop := (v.1 126 c).toInt < 5 ∧ ∃ o x, SnV v w (v.1 126 c).toInt (v.1 124 c).toInt o ∧ o = some x ∧ (v.2.1 125 c).toInt ≤ x.toInt
theorem csa_76 {v w v1 : MW} {E E' : Int32 → MW → Prop} {Q Q' : MW → Prop} (hv : BND v) (hw : BND w) (hr : HRq (mx v w)) (n0 : 0 ≤ (w.1 127 78).toInt) (e1 : v1.1 = v.1) (j20 : ∀ j, v1.2.1 20 j = v.2.1 20 j) (j125 : ∀ j, v1.2.1 125 j = v.2.1 125 j) (kE : ∀ b : Int32, (∀ j, j < 32 → (mb b j = true ↔ j < 16 ∧ cdW v w j)) → E b v1 → E' b v1) : ∀ (m : Nat) (b x : Int32), q_Bh_senseAll_76 E Q m b x v1 → 0 ≤ x.toInt → x.toInt ≤ 16 → (∀ j : Nat, j < 32 → (mb b j = true ↔ (j : Int) < x.toInt ∧ cdW v w j)) → q_Bh_senseAll_76 E' Q' m b x v1 := by
  have hr1 : HRq (mx v1 w) := hr_j e1 rfl j20 hr
  intro m
  induction m with
  | zero => exact fun _ _ h _ _ _ => False.elim h
  | succ m ih =>
    intro b x h x0 x16 inv
    rw [q_Bh_senseAll_76.eq_2, e1] at h
    rw [q_Bh_senseAll_76.eq_2, e1]
    refine ⟨fun d => kE b (fun j hj => ?_) (h.1 d), fun d => ?_⟩
    · rw [inv j hj, show x.toInt = 16 by omega]
      exact ⟨fun q => ⟨by omega, q.2⟩, fun q => ⟨by omega, q.2⟩⟩
    have G := h.2 d
    have ex := ti_add2 (Eq.refl x.toInt) i_1 (by omega) (by omega)
    have bz : b ||| (0 : Int32) = b := mb_ext (fun j _ => by rw [mb_orr, mb_z, Bool.or_false])
    have off : ¬ cdW v w x.toInt.toNat → q_Bh_senseAll_76 E Q m b (x + (1 : Int32)) v1 → q_Bh_senseAll_76 E' Q' m b (x + (1 : Int32)) v1 := fun nc g => by
      refine ih _ _ g (by omega) (by omega) (fun j hj => ?_)
      rw [inv j hj, ex]
      constructor
      · intro q
        exact ⟨by omega, q.2⟩
      · intro q
        refine ⟨?_, q.2⟩
        by_cases c : j = x.toInt.toNat
        · rw [c] at q
          exact absurd q.2 nc
        · have := q.1
          omega
    have on : cdW v w x.toInt.toNat → q_Bh_senseAll_76 E Q m (b ||| ((1 : Int32) <<< (x &&& 31))) (x + (1 : Int32)) v1 → q_Bh_senseAll_76 E' Q' m (b ||| ((1 : Int32) <<< (x &&& 31))) (x + (1 : Int32)) v1 := fun yc g => by
      refine ih _ _ g (by omega) (by omega) (fun j hj => ?_)
      rw [mb_orr, mb_set x0 (by omega), Bool.or_eq_true, decide_eq_true_iff, inv j hj, ex]
      constructor
      · intro q
        rcases q with q | q
        · exact ⟨by omega, q.2⟩
        · rw [q]
          exact ⟨by omega, yc⟩
      · intro q
        by_cases c : j = x.toInt.toNat
        · exact Or.inr c
        · have := q.1
          exact Or.inl ⟨by omega, q.2⟩
    rw [bz] at G ⊢
    refine ⟨G.1, fun d2 => off (fun q => by have := q.1; omega) (G.2.1 d2), fun d2 => ?_⟩
    have G2 := G.2.2 d2
    refine ⟨G2.1, G2.2.1, csn_x (w := w) hw hr1 G2.2.2 (fun o so g => ?_)⟩
    have so' := (snv_c (v := v) (v1 := v1) (w := w) (w1 := w) e1 rfl _ _ o).mp so
    have po := snv_p hv hr n0 hw so'
    have l0 := lc_lt (snr o) 0
    have z0 : (0 : Int64).toInt = 0 := by decide
    rw [z0] at l0
    have ll := lc_lt (snr o) (v1.2.1 125 x.toInt.toNat)
    rw [j125] at g ll ⊢
    refine ⟨fun t => off (fun q => ?_) (g.1 t), fun t => ⟨(g.2 t).1, fun t2 => off (fun q => ?_) ((g.2 t).2.1 t2), fun t2 => on ⟨by omega, ?_⟩ ((g.2 t).2.2 t2)⟩⟩
    · obtain ⟨_, o', y, s1, s2, s3⟩ := q
      have eo := snv_u so' s1
      rw [eo, s2] at l0 t
      have e : (snr (some y)).toInt = y.toInt := nb_i2l y
      have := po y (by rw [eo, s2])
      omega
    · obtain ⟨_, o', y, s1, s2, s3⟩ := q
      have eo := snv_u so' s1
      rw [eo, s2] at ll t2
      have e : (snr (some y)).toInt = y.toInt := nb_i2l y
      omega
    · cases ho : o with
      | none =>
        rw [ho] at l0 t
        have e : (snr none).toInt = -1 := by decide
        omega
      | some y =>
        rw [ho] at ll t2 so'
        have e : (snr (some y)).toInt = y.toInt := nb_i2l y
        exact ⟨some y, y, so', rfl, by omega⟩
/-- the class has sensed everything -/
def SaC (v w v' : MW) : Prop := (∀ k j, ¬ (k = 48 ∧ j = 1) → v'.1 k j = v.1 k j) ∧ v'.2.2 = v.2.2 ∧ (∀ k j, ¬ k = 74 → v'.2.1 k j = v.2.1 k j) ∧ (∀ j, j < 32 → (mb (v'.1 48 1) j = true ↔ j < 16 ∧ cdW v w j)) ∧ ∀ j : Nat, (j : Int) < (v.1 62 10).toInt → (SnsC v j → ∃ o, SnV v w (v.1 75 j).toInt (v.1 76 j).toInt o ∧ v'.2.1 74 j = snm o) ∧ (¬ SnsC v j → v'.2.1 74 j = v.2.1 74 j)
theorem csa_x {v w : MW} {Q Q' : MW → Prop} (hv : BND v) (hw : BND w) (hr : HRq (mx v w)) (n0 : 0 ≤ (w.1 127 78).toInt) (h : p_Bh_senseAll v Q) (k : ∀ v', SaC v w v' → Q v' → Q' v') : p_Bh_senseAll v Q' := by
  have b62 := bd_62_10 hv
  rw [p_Bh_senseAll.eq_1] at h ⊢
  refine ⟨h.1, csa_10 hv hw hr n0 b62.2 (fun v1 J g => ?_) _ _ _ h.2 (by decide) (Or.inr i_0) ⟨rfl, rfl, fun _ _ _ => rfl, fun j hj => by rw [i_0] at hj; omega, fun _ _ => rfl⟩⟩
  refine csa_76 hv hw hr n0 J.1 (fun j => J.2.2.1 20 j (by decide)) (fun j => J.2.2.1 125 j (by decide)) (fun b hb g2 => ⟨g2.1, k _ ⟨fun a j hj => ?_, J.2.1, J.2.2.1, ?_, J.2.2.2.1⟩ g2.2⟩) _ _ _ g (by decide) (by decide) (fun j _ => ?_)
  · rw [mb_z, i_0]
    exact ⟨(fun q => by cases q), fun q => by have := q.1; omega⟩
  · rw [sI_at, if_neg hj, J.1]
  · rw [sI_same]
    exact hb
/-! the reference senses everything -/
def J2m (v w w1 : MW) (x : Int) : Prop := w1.1 = w.1 ∧ (∀ k j, ¬ k = 206 → w1.2.1 k j = w.2.1 k j) ∧ (∀ j : Nat, (j : Int) < x → (SnsM w j → ∃ o, SnV v w (w.1 201 j).toInt (w.1 202 j).toInt o ∧ w1.2.1 206 j = snm o) ∧ (¬ SnsM w j → w1.2.1 206 j = w.2.1 206 j)) ∧ ∀ j : Nat, ¬ (j : Int) < x → w1.2.1 206 j = w.2.1 206 j
theorem j2m_n {v w w1 : MW} {x : Nat} (h : J2m v w w1 x) (hy : ¬ SnsM w x) : J2m v w w1 ((x : Int) + 1) := by
  refine ⟨h.1, h.2.1, fun j hj => ?_, fun j hj => h.2.2.2 j (by omega)⟩
  by_cases c : j = x
  · rw [c]
    exact ⟨fun q => absurd q hy, fun _ => h.2.2.2 x (by omega)⟩
  · exact h.2.2.1 j (by omega)
theorem j2m_s {v w w1 : MW} {x : Nat} {o : Option Int32} (h : J2m v w w1 x) (so : SnV v w (w.1 201 x).toInt (w.1 202 x).toInt o) (sn : SnsM w x) : J2m v w (sJ w1 206 x (snm o)) ((x : Int) + 1) := by
  refine ⟨h.1, fun k j hk => ?_, fun j hj => ?_, fun j hj => ?_⟩
  · rw [sJ_at, if_neg (fun q => hk q.1)]
    exact h.2.1 k j hk
  · rw [sJ_if]
    by_cases c : j = x
    · rw [if_pos c, c]
      exact ⟨fun _ => ⟨o, so, rfl⟩, fun ns => absurd sn ns⟩
    · rw [if_neg c]
      exact h.2.2.1 j (by omega)
  · rw [sJ_if, if_neg (by omega)]
    exact h.2.2.2 j (by omega)
theorem msa_2 {v w : MW} {E E' Q Q' : MW → Prop} (hw : BND w) (hr : HRq (mx v w)) (kE : ∀ w1, J2m v w w1 (w.1 129 32).toInt → E w1 → E' w1) : ∀ (m : Nat) (x : Int32) (w1 : MW), q_Mo_senseAll_2 E Q m x w1 → 0 ≤ x.toInt → x.toInt ≤ (w.1 129 32).toInt → J2m v w w1 x.toInt → q_Mo_senseAll_2 E' Q' m x w1 := by
  have b32 := bd_129_32 hw
  intro m
  induction m with
  | zero => exact fun _ _ h _ _ _ => False.elim h
  | succ m ih =>
    intro x w1 h x0 xN J
    have e1 := J.1
    have b1 : BND w1 := fun k j => by rw [e1]; exact hw k j
    have hr1 : HRq (mx v w1) := hr_j rfl e1 (fun _ => rfl) hr
    have xe : x.toInt = ((x.toInt.toNat : Nat) : Int) := by omega
    rw [q_Mo_senseAll_2.eq_2, e1] at h
    rw [q_Mo_senseAll_2.eq_2, e1]
    refine ⟨fun d => kE w1 (by rw [show (w.1 129 32).toInt = x.toInt by omega]; exact J) (h.1 d), fun d => ?_⟩
    have G := h.2 d
    have e := ti_add2 (Eq.refl x.toInt) i_1 (by omega) (by omega)
    have next : ¬ SnsM w x.toInt.toNat → q_Mo_senseAll_2 E Q m (x + (1 : Int32)) w1 → q_Mo_senseAll_2 E' Q' m (x + (1 : Int32)) w1 := fun ns g => by
      refine ih _ _ g (by omega) (by omega) ?_
      rw [e, xe]
      rw [xe] at J
      exact j2m_n J ns
    refine ⟨G.1, fun c => next (fun q => q.1 c) (G.2.1 c), fun c => ⟨(G.2.2 c).1, fun c2 => next (fun q => by have := q.2; omega) ((G.2.2 c).2.1 c2), fun c2 => ?_⟩⟩
    have G2 := (G.2.2 c).2.2 c2
    have sn : SnsM w x.toInt.toNat := ⟨c, by omega⟩
    refine ⟨G2.1, G2.2.1, msn_x (v := v) b1 hr1 G2.2.2 (fun o so g => ⟨g.1, ?_⟩)⟩
    have so' := (snv_c (v := v) (v1 := v) (w := w) (w1 := w1) rfl e1 _ _ o).mp so
    refine ih _ _ g.2 (by omega) (by omega) ?_
    rw [e, xe]
    rw [xe] at J
    exact j2m_s J so' sn
theorem msn_y {v w w2 : MW} {a b : Int32} {Q Q' : Int64 → MW → Prop} (hw : BND w) (hr : HRq (mx v w2)) (r : ∀ k j, ¬ k = 147 → w2.1 k j = w.1 k j) (h : p_Mo_sensed w2 a b Q) (k : ∀ o, SnV v w a.toInt b.toInt o → Q (snm o) w2 → Q' (snm o) w2) : p_Mo_sensed w2 a b Q' := by
  have e1 : tM w2 = tM w := by
    unfold tM
    rw [r 127 4 (by decide)]
  have e2 : pM w2 = pM w := by
    unfold pM
    rw [r 127 11 (by decide)]
  have T : 0 ≤ tM w2 ∧ tM w2 ≤ 20 := by rw [e1]; exact hb_T hw
  have P : 0 ≤ pM w2 ∧ pM w2 ≤ 24 := by rw [e2]; exact hb_P hw
  refine msn_x' T P hr h (fun o so g => k o ?_ g)
  have e3 : ∀ b, tkM w2 b ↔ tkM w b := fun b => by
    unfold tkM
    rw [r 163 _ (by decide)]
  have e4 : ∀ b, HoM w2 b ↔ HoM w b := fun b => by
    unfold HoM
    rw [e1, e2, e3]
  have e5 : ∀ b, VaM w2 b ↔ VaM w b := fun b => by
    unfold VaM
    rw [e1, r 163 _ (by decide)]
  unfold SnV at so ⊢
  rw [e1, e3, e4, e5, r 165 _ (by decide), r 167 _ (by decide), r 127 26 (by decide), r 127 78 (by decide)] at so
  exact so
/-- the reference's word of a condition -/
def cdM (v w : MW) (c : Nat) : Prop := (w.1 203 c).toInt < 5 ∧ ∃ o x, SnV v w (w.1 203 c).toInt (w.1 204 c).toInt o ∧ o = some x ∧ (w.2.1 205 c).toInt ≤ x.toInt
/-- w2: the bits before x are as they are watched -/
def J63 (v w w1 w2 : MW) (x : Int) : Prop := w2.2 = w1.2 ∧ (∀ k j, ¬ (k = 147 ∧ j = 24) → w2.1 k j = w.1 k j) ∧ ∀ j : Nat, j < 32 → ((j : Int) < x → ¬ (w.1 203 j).toInt = -1 → (mb (w2.1 147 24) j = true ↔ cdM v w j)) ∧ (¬ ((j : Int) < x ∧ ¬ (w.1 203 j).toInt = -1) → mb (w2.1 147 24) j = mb (w.1 147 24) j)
theorem j63_n {v w w1 w2 : MW} {x : Nat} (h : J63 v w w1 w2 x) (hx : (w.1 203 x).toInt = -1) : J63 v w w1 w2 ((x : Int) + 1) := by
  refine ⟨h.1, h.2.1, fun j hj => ⟨fun a b => (h.2.2 j hj).1 ?_ b, fun a => (h.2.2 j hj).2 (fun q => a ⟨by omega, q.2⟩)⟩⟩
  by_cases c : j = x
  · rw [c] at b
    exact absurd hx b
  · omega
theorem j63_s {v w w1 w2 : MW} {x : Nat} {y : Int32} {b : Bool} (x32 : x < 32) (h : J63 v w w1 w2 x) (hx : ¬ (w.1 203 x).toInt = -1) (hy : ∀ j, j < 32 → mb y j = if j = x then b else mb (w2.1 147 24) j) (hb : b = true ↔ cdM v w x) : J63 v w w1 (sI w2 147 24 y) ((x : Int) + 1) := by
  refine ⟨h.1, fun k j hk => ?_, fun j hj => ?_⟩
  · rw [sI_at, if_neg hk]
    exact h.2.1 k j hk
  · rw [sI_same, hy j hj]
    by_cases c : j = x
    · rw [if_pos c, c]
      exact ⟨fun _ _ => hb, fun a => absurd ⟨by omega, hx⟩ a⟩
    · rw [if_neg c]
      exact ⟨fun a b' => (h.2.2 j hj).1 (by omega) b', fun a => (h.2.2 j hj).2 (fun q => a ⟨by omega, q.2⟩)⟩
theorem msa_63 {v w w1 : MW} {E E' Q Q' : MW → Prop} (hv : BND v) (hw : BND w) (hr : HRq (mx v w)) (n0 : 0 ≤ (w.1 127 78).toInt) (j205 : ∀ j, w1.2.1 205 j = w.2.1 205 j) (kE : ∀ w2, J63 v w w1 w2 16 → E w2 → E' w2) : ∀ (m : Nat) (x : Int32) (w2 : MW), q_Mo_senseAll_63 E Q m x w2 → 0 ≤ x.toInt → x.toInt ≤ 16 → J63 v w w1 w2 x.toInt → q_Mo_senseAll_63 E' Q' m x w2 := by
  intro m
  induction m with
  | zero => exact fun _ _ h _ _ _ => False.elim h
  | succ m ih =>
    intro x w2 h x0 x16 J
    have xe : x.toInt = ((x.toInt.toNat : Nat) : Int) := by omega
    have r : ∀ k j, ¬ k = 147 → w2.1 k j = w.1 k j := fun k j hk => J.2.1 k j (fun q => hk q.1)
    have ag : ∀ m : Pl, off [(147, some 24)] m = true → Ag m (mx v w) (mx v w2) := fun m' hm => mx_ag (fun k j hk => by
      have q := off_hit hm hk
      exact ⟨fun _ => rfl, fun _ => J.2.1 k j (fun e => by rw [e.1, e.2] at q; cases q)⟩)
    have hr2 : HRq (mx v w2) := HRq_ag (ag lPL rfl) (ag lTq rfl) (ag lSk rfl) (ag lWy rfl) (fun j => by rw [mx_j _ _ (by decide), mx_j _ _ (by decide)]) hr
    rw [q_Mo_senseAll_63.eq_2, r 203 _ (by decide), r 204 _ (by decide)] at h
    rw [q_Mo_senseAll_63.eq_2, r 203 _ (by decide), r 204 _ (by decide)]
    refine ⟨fun d => kE w2 (by rw [show (16 : Int) = x.toInt by omega]; exact J) (h.1 d), fun d => ?_⟩
    have G := h.2 d
    have e := ti_add2 (Eq.refl x.toInt) i_1 (by omega) (by omega)
    refine ⟨G.1, fun c => ih _ _ (G.2.1 c) (by omega) (by omega) ?_, fun c => ?_⟩
    · rw [e, xe]
      rw [xe] at J
      exact j63_n J c
    have G2 := G.2.2 c
    have set : ∀ (b : Bool) (y : Int32), (b = true ↔ cdM v w x.toInt.toNat) → (b = false → y.toInt = 0) → (b = true → ¬ y.toInt = 0) → q_Mo_senseAll_146 x y w2 (fun (x63_1 : Int32) (w : MW) => q_Mo_senseAll_63 E Q m x63_1 w) E Q → q_Mo_senseAll_146 x y w2 (fun (x63_1 : Int32) (w : MW) => q_Mo_senseAll_63 E' Q' m x63_1 w) E' Q' := fun b y hb y0 y1 g => by
      rw [q_Mo_senseAll_146.eq_1] at g ⊢
      refine ⟨fun t => ih _ _ (g.1 t) (by omega) (by omega) ?_, fun t => ih _ _ (g.2 t) (by omega) (by omega) ?_⟩
      · rw [e, xe]
        rw [xe] at J
        refine j63_s (b := b) (by omega) J c (fun j hj => ?_) hb
        have bf : b = false := by
          cases b with
          | false => rfl
          | true => exact absurd t (y1 rfl)
        rw [mb_andn _ _ hj, mb_set x0 (by omega), bf]
        by_cases q : j = x.toInt.toNat
        · rw [if_pos q, decide_eq_true q]
          cases mb (w2.1 147 24) j <;> rfl
        · rw [if_neg q, decide_eq_false q]
          cases mb (w2.1 147 24) j <;> rfl
      · rw [e, xe]
        rw [xe] at J
        refine j63_s (b := b) (by omega) J c (fun j hj => ?_) hb
        have bt : b = true := by
          cases b with
          | true => rfl
          | false => exact absurd (y0 rfl) t
        rw [mb_orr, mb_set x0 (by omega), bt]
        by_cases q : j = x.toInt.toNat
        · rw [if_pos q, decide_eq_true q]
          cases mb (w2.1 147 24) j <;> rfl
        · rw [if_neg q, decide_eq_false q]
          cases mb (w2.1 147 24) j <;> rfl
    have nope : ¬ cdM v w x.toInt.toNat → q_Mo_senseAll_146 x 0 w2 (fun (x63_1 : Int32) (w : MW) => q_Mo_senseAll_63 E Q m x63_1 w) E Q → q_Mo_senseAll_146 x 0 w2 (fun (x63_1 : Int32) (w : MW) => q_Mo_senseAll_63 E' Q' m x63_1 w) E' Q' := fun nc g => set false 0 ⟨(fun q => by cases q), fun q => absurd q nc⟩ (fun _ => i_0) (fun q => by cases q) g
    have j2 : ∀ j, w2.2.1 205 j = w.2.1 205 j := fun j => by rw [J.1]; exact j205 j
    refine ⟨G2.1, fun c2 => ?_, fun c2 => ?_⟩
    · have G3 := G2.2.1 c2
      rw [q_Mo_senseAll_109.eq_1, r 203 _ (by decide)] at G3 ⊢
      exact ⟨G3.1, fun c3 => nope (fun q => by have := q.1; omega) (G3.2.1 c3), fun c3 => absurd c2 c3⟩
    · have G3 := G2.2.2 c2
      refine ⟨G3.1, G3.2.1, msn_y hw hr2 r G3.2.2 (fun o so g => ?_)⟩
      have po := snv_p hv hr n0 hw so
      rw [q_Mo_senseAll_109.eq_1, r 203 _ (by decide), j2] at g ⊢
      have l0 := lc_lt (snm o) 0
      have z0 : (0 : Int64).toInt = 0 := by decide
      rw [z0] at l0
      have ll := lc_lt (snm o / (1000 : Int64)) (w.2.1 205 x.toInt.toNat)
      refine ⟨g.1, fun c3 => absurd c3 c2, fun c3 => ⟨fun t => nope (fun q => ?_) ((g.2.2 c3).1 t), fun t => ⟨((g.2.2 c3).2 t).1, fun t2 => nope (fun q => ?_) (((g.2.2 c3).2 t).2.1 t2), fun t2 => set true 1 ⟨fun _ => ⟨by omega, ?_⟩, fun _ => rfl⟩ (fun q => by cases q) (fun _ => by decide) (((g.2.2 c3).2 t).2.2 t2)⟩⟩⟩
      · obtain ⟨_, o', y, s1, s2, s3⟩ := q
        have eo := snv_u so s1
        have py := po y (by rw [eo, s2])
        rw [eo, s2] at l0 t
        have e3 : (snm (some y)).toInt = 1000 * y.toInt := l_th py
        omega
      · obtain ⟨_, o', y, s1, s2, s3⟩ := q
        have eo := snv_u so s1
        have py := po y (by rw [eo, s2])
        rw [eo, s2] at ll t2
        have e3 : (snm (some y) / (1000 : Int64)).toInt = y.toInt := l_dv py
        omega
      · cases ho : o with
        | none =>
          rw [ho] at l0 t
          have e3 : (snm none).toInt = -1 := by decide
          omega
        | some y =>
          have py := po y ho
          rw [ho] at ll t2 so
          have e3 : (snm (some y) / (1000 : Int64)).toInt = y.toInt := l_dv py
          exact ⟨some y, y, so, rfl, by omega⟩
/-- the reference has sensed everything -/
def SaM (v w w' : MW) : Prop := (∀ k j, ¬ (k = 147 ∧ j = 24) → w'.1 k j = w.1 k j) ∧ (∀ k j, ¬ k = 206 → w'.2.1 k j = w.2.1 k j) ∧ (∀ j : Nat, j < 32 → ((j : Int) < 16 → ¬ (w.1 203 j).toInt = -1 → (mb (w'.1 147 24) j = true ↔ cdM v w j)) ∧ (¬ ((j : Int) < 16 ∧ ¬ (w.1 203 j).toInt = -1) → mb (w'.1 147 24) j = mb (w.1 147 24) j)) ∧ ∀ j : Nat, (j : Int) < (w.1 129 32).toInt → (SnsM w j → ∃ o, SnV v w (w.1 201 j).toInt (w.1 202 j).toInt o ∧ w'.2.1 206 j = snm o) ∧ (¬ SnsM w j → w'.2.1 206 j = w.2.1 206 j)
theorem msa_x {v w : MW} {Q Q' : MW → Prop} (hv : BND v) (hw : BND w) (hr : HRq (mx v w)) (n0 : 0 ≤ (w.1 127 78).toInt) (h : p_Mo_senseAll w Q) (k : ∀ w', SaM v w w' → Q w' → Q' w') : p_Mo_senseAll w Q' := by
  have b32 := bd_129_32 hw
  rw [p_Mo_senseAll.eq_1] at h ⊢
  refine msa_2 hw hr (fun w1 J g => ?_) _ _ _ h (by decide) (by rw [i_0]; exact b32.1) ⟨rfl, fun _ _ _ => rfl, fun j hj => by rw [i_0] at hj; omega, fun _ _ => rfl⟩
  refine msa_63 (w1 := w1) hv hw hr n0 (fun j => J.2.1 205 j (by decide)) (fun w2 J2 g2 => k w2 ⟨J2.2.1, fun a j hj => by rw [J2.1]; exact J.2.1 a j hj, J2.2.2, fun j hj => ?_⟩ g2) _ _ _ g (by decide) (by decide) ⟨rfl, fun a j _ => by rw [J.1], fun j hj => ⟨fun a => by rw [i_0] at a; omega, fun _ => by rw [J.1]⟩⟩
  rw [J2.1]
  exact J.2.2.1 j hj
/-- both have sensed the same -/
theorem sa_two {v w v' w' : MW} (hr : HRq (mx v w)) (ss : SsR v w) (vl : VlR v w) (wt : WtR v w) (c : SaC v w v') (m : SaM v w w') : HRq (mx v' w') ∧ VlR v' w' ∧ v'.1 48 1 = w'.1 147 24 ∧ WtR v' w' := by
  have ag : ∀ l : Pl, off [(48, some 1), (147, some 24)] l = true → Ag l (mx v w) (mx v' w') := fun l hl => mx_ag (fun k j hk => by
    have q := off_hit hl hk
    exact ⟨fun _ => c.1 k j (fun e => by rw [e.1, e.2] at q; cases q), fun _ => m.1 k j (fun e => by rw [e.1, e.2] at q; cases q)⟩)
  have cd : ∀ j, j < 16 → ¬ (w.1 203 j).toInt = -1 → (cdW v w j ↔ cdM v w j) := fun j hj hn => by
    rcases wt.1 j hj with q | q
    · exact absurd q.1 hn
    · unfold cdW cdM
      rw [q.2.1, q.2.2.1, q.2.2.2]
  have bits : v'.1 48 1 = w'.1 147 24 := mb_ext (fun j hj => by
    have a := c.2.2.2.1 j hj
    have b := m.2.2.1 j hj
    by_cases h16 : j < 16
    · by_cases hn : (w.1 203 j).toInt = -1
      · have b2 := b.2 (fun q => q.2 hn)
        rcases wt.1 j h16 with q | q
        · have nc : ¬ cdW v w j := fun y => by have := y.1; have := q.2.1; omega
          rw [b2, q.2.2]
          cases y : mb (v'.1 48 1) j with
          | false => rfl
          | true => exact absurd (a.mp y).2 nc
        · exact absurd hn q.1
      · have b1 := b.1 (by omega) hn
        have e := cd j h16 hn
        cases y : mb (v'.1 48 1) j with
        | false =>
          cases z : mb (w'.1 147 24) j with
          | false => rfl
          | true =>
            have t := a.mpr ⟨h16, e.mpr (b1.mp z)⟩
            rw [y] at t
            cases t
        | true => exact (b1.mpr (e.mp (a.mp y).2)).symm
    · have b2 := b.2 (fun q => h16 (by have := q.1; omega))
      rw [b2, wt.2 j (by omega) hj]
      cases y : mb (v'.1 48 1) j with
      | false => rfl
      | true => exact absurd (a.mp y).1 h16)
  refine ⟨HRq_ag (ag lPL rfl) (ag lTq rfl) (ag lSk rfl) (ag lWy rfl) (fun j => ?_) hr, fun n hn => ?_, bits, ⟨fun j hj => ?_, fun j h1 h2 => ?_⟩⟩
  · rw [mx_j _ _ (by decide), mx_j _ _ (by decide)]
    exact c.2.2.1 20 j (by decide)
  · rw [c.1 62 10 (fun e => absurd e.1 (by decide))] at hn
    have a := c.2.2.2.2 n hn
    have b := m.2.2.2 n (by rw [← ss.1]; exact hn)
    have s := ss.2.2 n hn
    by_cases y : SnsC v n
    · obtain ⟨o, o1, o2⟩ := a.1 y
      obtain ⟨o', p1, p2⟩ := b.1 (s.1.mp y)
      have q := s.2 y
      rw [← q.1, ← q.2] at p1
      rw [o2, p2, snv_u o1 p1]
    · rw [a.2 y, b.2 (fun z => y (s.1.mpr z))]
      exact vl n hn
  · rw [m.1 203 j (fun e => absurd e.1 (by decide)), m.1 204 j (fun e => absurd e.1 (by decide)), c.1 126 j (fun e => absurd e.1 (by decide)), c.1 124 j (fun e => absurd e.1 (by decide)), c.2.2.1 125 j (by decide), m.2.1 205 j (by decide)]
    rcases wt.1 j hj with q | q
    · refine Or.inl ⟨q.1, q.2.1, ?_⟩
      rw [(m.2.2.1 j (by omega)).2 (fun y => y.2 q.1)]
      exact q.2.2
    · exact Or.inr q
  · rw [(m.2.2.1 j h2).2 (fun y => by have := y.1; omega)]
    exact wt.2 j h1 h2
