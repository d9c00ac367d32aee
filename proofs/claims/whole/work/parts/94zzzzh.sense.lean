/-! what is sensed, on both sides -/
theorem mb_ext {a b : Int32} (h : ∀ x, x < 32 → mb a x = mb b x) : a = b := by
  apply Int32.toBitVec_inj.mp
  apply BitVec.eq_of_getLsbD_eq
  intro i hi
  exact h i hi
theorem l1000 : ((1000 : Int64)).toInt = 1000 := by decide
theorem l_th {x : Int32} (h : 0 ≤ x.toInt) : ((1000 : Int64) * Int32.toInt64 x).toInt = 1000 * x.toInt := by
  have e := nb_i2l x
  have hi := ti_hi x
  rw [Int64.toInt_mul, e, l1000]
  exact Int.bmod_eq_of_le (by omega) (by omega)
theorem l_dv {x : Int32} (h : 0 ≤ x.toInt) : (((1000 : Int64) * Int32.toInt64 x) / (1000 : Int64)).toInt = x.toInt := by
  have hi := ti_hi x
  rw [Int64.toInt_div, l_th h, l1000, Int.tdiv_eq_ediv_of_nonneg (by omega), show 1000 * x.toInt / 1000 = x.toInt by omega]
  exact Int.bmod_eq_of_le (by omega) (by omega)
/-- what there is to be sensed: its number, or nothing -/
def SnV (v w : MW) (a b : Int) (o : Option Int32) : Prop := (a = 0 ∧ (((0 ≤ b ∧ b < tM w ∧ tkM w b) ∧ o = some (w.1 165 b.toNat)) ∨ (¬ (0 ≤ b ∧ b < tM w ∧ tkM w b) ∧ o = none))) ∨ (a = 1 ∧ ((HoM w b ∧ o = some (v.1 17 b.toNat)) ∨ (¬ HoM w b ∧ o = none))) ∨ (a = 2 ∧ ((VaM w b ∧ o = some (w.1 167 b.toNat)) ∨ (¬ VaM w b ∧ o = none))) ∨ (a = 3 ∧ o = some (w.1 127 26)) ∨ (¬ a = 0 ∧ ¬ a = 1 ∧ ¬ a = 2 ∧ ¬ a = 3 ∧ o = some (w.1 127 78))
theorem snv_u {v w : MW} {a b : Int} {o o' : Option Int32} (h : SnV v w a b o) (h' : SnV v w a b o') : o = o' := by
  rcases h with ⟨a1, h⟩ | ⟨a1, h⟩ | ⟨a1, h⟩ | ⟨a1, h⟩ | ⟨a1, a2, a3, a4, h⟩
  · rcases h' with ⟨_, h'⟩ | ⟨a1', _⟩ | ⟨a1', _⟩ | ⟨a1', _⟩ | ⟨a1', _⟩
    · rcases h with h | h
      · rcases h' with h' | h'
        · rw [h.2, h'.2]
        · exact absurd h.1 h'.1
      · rcases h' with h' | h'
        · exact absurd h'.1 h.1
        · rw [h.2, h'.2]
    all_goals omega
  · rcases h' with ⟨a1', _⟩ | ⟨_, h'⟩ | ⟨a1', _⟩ | ⟨a1', _⟩ | ⟨_, a1', _⟩
    · omega
    · rcases h with h | h
      · rcases h' with h' | h'
        · rw [h.2, h'.2]
        · exact absurd h.1 h'.1
      · rcases h' with h' | h'
        · exact absurd h'.1 h.1
        · rw [h.2, h'.2]
    all_goals omega
  · rcases h' with ⟨a1', _⟩ | ⟨a1', _⟩ | ⟨_, h'⟩ | ⟨a1', _⟩ | ⟨_, _, a1', _⟩
    · omega
    · omega
    · rcases h with h | h
      · rcases h' with h' | h'
        · rw [h.2, h'.2]
        · exact absurd h.1 h'.1
      · rcases h' with h' | h'
        · exact absurd h'.1 h.1
        · rw [h.2, h'.2]
    all_goals omega
  · rcases h' with ⟨a1', _⟩ | ⟨a1', _⟩ | ⟨a1', _⟩ | ⟨_, h'⟩ | ⟨_, _, _, a1', _⟩
    · omega
    · omega
    · omega
    · rw [h, h']
    · omega
  · rcases h' with ⟨a1', _⟩ | ⟨a1', _⟩ | ⟨a1', _⟩ | ⟨a1', _⟩ | ⟨_, _, _, _, h'⟩
    · omega
    · omega
    · omega
    · omega
    · rw [h, h']
def snr (o : Option Int32) : Int64 := match o with | none => -1 | some x => Int32.toInt64 x
def snm (o : Option Int32) : Int64 := match o with | none => -1 | some x => (1000 : Int64) * Int32.toInt64 x
theorem snv_p {v w : MW} {a b : Int} {o : Option Int32} (hv : BND v) (hr : HRq (mx v w)) (n0 : 0 ≤ (w.1 127 78).toInt) (hw : BND w) (h : SnV v w a b o) : ∀ x, o = some x → 0 ≤ x.toInt := fun x e => by
  rcases h with ⟨_, h⟩ | ⟨_, h⟩ | ⟨_, h⟩ | ⟨_, h⟩ | ⟨_, _, _, _, h⟩
  · rcases h with h | h
    · rw [h.2] at e
      rw [← Option.some.inj e]
      have t : 0 ≤ (w.1 165 b.toNat).toInt := (hr.2.2.1.2.2.1 b.toNat (by show ((b.toNat : Nat) : Int) < tM w; have := h.1.1; have := h.1.2.1; omega) (by show tkM w ((b.toNat : Nat) : Int); rw [show ((b.toNat : Nat) : Int) = b by have := h.1.1; omega]; exact h.1.2.2)).2.2.1
      exact t
    · rw [h.2] at e
      cases e
  · rcases h with h | h
    · rw [h.2] at e
      rw [← Option.some.inj e]
      exact (bd_17 hv _).1
    · rw [h.2] at e
      cases e
  · rcases h with h | h
    · rw [h.2] at e
      rw [← Option.some.inj e]
      exact (bd_167 hw _).1
    · rw [h.2] at e
      cases e
  · rw [h] at e
    rw [← Option.some.inj e]
    exact (bd_127_26 hw).1
  · rw [h] at e
    rw [← Option.some.inj e]
    exact n0
theorem csn_x {v w : MW} {a b : Int32} {Q Q' : Int64 → MW → Prop} (hw : BND w) (hr : HRq (mx v w)) (h : p_Bh_sensed v a b Q) (k : ∀ o, SnV v w a.toInt b.toInt o → Q (snr o) v → Q' (snr o) v) : p_Bh_sensed v a b Q' := by
  have T := hb_T hw
  have P := hb_P hw
  have eT : tC v = tM w := hr.1.1.1
  have eP : pC v = pM w := hr.1.1.2.1
  have e78 : v.1 7 1 = w.1 127 78 := hr.2.2.1.2.1.2.2
  have e26 : v.1 26 1 = w.1 127 26 := hr.2.2.2.1.1
  rw [p_Bh_sensed.eq_1] at h ⊢
  refine ⟨fun c => ?_, fun c => ⟨fun c1 => ?_, fun c1 => ⟨fun c2 => ?_, fun c2 => ⟨fun c3 => ?_, fun c3 => ?_⟩⟩⟩⟩
  · refine ctk_x (h.1 c) (fun r hr' g => ?_)
    have tk : (0 ≤ b.toInt ∧ b.toInt < tC v ∧ tkC v b.toInt) ↔ (0 ≤ b.toInt ∧ b.toInt < tM w ∧ tkM w b.toInt) := by
      rw [eT]
      constructor
      · intro q
        exact ⟨q.1, q.2.1, (tk_e (w := mx v w) hr.1.1 q.1 q.2.1).mp q.2.2⟩
      · intro q
        exact ⟨q.1, q.2.1, (tk_e (w := mx v w) hr.1.1 q.1 q.2.1).mpr q.2.2⟩
    rw [tk] at hr'
    rcases hr' with ⟨er, q⟩ | ⟨er, q⟩
    · rw [er] at g ⊢
      refine ⟨fun e => absurd e (by decide), fun e => ⟨(g.2 e).1, ?_⟩⟩
      have q1 : v.1 18 b.toInt.toNat = w.1 165 b.toInt.toNat := (hr.2.2.1.2.2.1 b.toInt.toNat (by show ((b.toInt.toNat : Nat) : Int) < tM w; have := q.1; have := q.2.1; omega) (by show tkM w ((b.toInt.toNat : Nat) : Int); rw [show ((b.toInt.toNat : Nat) : Int) = b.toInt by have := q.1; omega]; exact q.2.2)).1
      have G := (g.2 e).2
      rw [q1] at G ⊢
      exact k (some _) (Or.inl ⟨c, Or.inl ⟨q, rfl⟩⟩) G
    · rw [er] at g ⊢
      exact ⟨fun e => k none (Or.inl ⟨c, Or.inr ⟨q, rfl⟩⟩) (g.1 e), fun e => absurd i_0 e⟩
  · refine ho_x ((h.2 c).1 c1) (by rw [eT]; exact T) (by rw [eP]; exact P) (fun r hr' g => ?_)
    rw [ho_e hr] at hr'
    rcases hr' with ⟨er, q⟩ | ⟨er, q⟩
    · rw [er] at g ⊢
      exact ⟨fun e => absurd e (by decide), fun e => ⟨(g.2 e).1, k (some _) (Or.inr (Or.inl ⟨c1, Or.inl ⟨q, rfl⟩⟩)) (g.2 e).2⟩⟩
    · rw [er] at g ⊢
      exact ⟨fun e => k none (Or.inr (Or.inl ⟨c1, Or.inr ⟨q, rfl⟩⟩)) (g.1 e), fun e => absurd i_0 e⟩
  · refine vc_x (((h.2 c).2 c1).1 c2) (fun r hr' g => ?_)
    rw [va_e hr] at hr'
    rcases hr' with ⟨er, q⟩ | ⟨er, q⟩
    · rw [er] at g ⊢
      refine ⟨fun e => absurd e (by decide), fun e => ⟨(g.2 e).1, ?_⟩⟩
      have q1 : v.1 16 b.toInt.toNat = w.1 167 b.toInt.toNat := (hr.1.1.2.2.1 b.toInt.toNat (by show ((b.toInt.toNat : Nat) : Int) < tM w; have := q.1; have := q.2.1; omega)).2.2
      have G := (g.2 e).2
      rw [q1] at G ⊢
      exact k (some _) (Or.inr (Or.inr (Or.inl ⟨c2, Or.inl ⟨q, rfl⟩⟩))) G
    · rw [er] at g ⊢
      exact ⟨fun e => k none (Or.inr (Or.inr (Or.inl ⟨c2, Or.inr ⟨q, rfl⟩⟩))) (g.1 e), fun e => absurd i_0 e⟩
  · have G := (((h.2 c).2 c1).2 c2).1 c3
    rw [e26] at G ⊢
    exact k (some _) (Or.inr (Or.inr (Or.inr (Or.inl ⟨c3, rfl⟩)))) G
  · have G := (((h.2 c).2 c1).2 c2).2 c3
    rw [e78] at G ⊢
    exact k (some _) (Or.inr (Or.inr (Or.inr (Or.inr ⟨c, c1, c2, c3, rfl⟩)))) G
theorem msn_x' {v w : MW} {a b : Int32} {Q Q' : Int64 → MW → Prop} (T : 0 ≤ tM w ∧ tM w ≤ 20) (P : 0 ≤ pM w ∧ pM w ≤ 24) (hr : HRq (mx v w)) (h : p_Mo_sensed w a b Q) (k : ∀ o, SnV v w a.toInt b.toInt o → Q (snm o) w → Q' (snm o) w) : p_Mo_sensed w a b Q' := by
  rw [p_Mo_sensed.eq_1] at h ⊢
  refine ⟨fun c => ?_, fun c => ⟨fun c1 => ?_, fun c1 => ⟨fun c2 => ?_, fun c2 => ⟨fun c3 => ?_, fun c3 => ?_⟩⟩⟩⟩
  · refine mtk_x (h.1 c) (fun r hr' g => ?_)
    rcases hr' with ⟨er, q⟩ | ⟨er, q⟩
    · rw [er] at g ⊢
      exact ⟨fun e => absurd e (by decide), fun e => ⟨(g.2 e).1, k (some _) (Or.inl ⟨c, Or.inl ⟨q, rfl⟩⟩) (g.2 e).2⟩⟩
    · rw [er] at g ⊢
      exact ⟨fun e => k none (Or.inl ⟨c, Or.inr ⟨q, rfl⟩⟩) (g.1 e), fun e => absurd i_0 e⟩
  · refine hm_x ((h.2 c).1 c1) T P (fun r hr' g => ?_)
    rcases hr' with ⟨er, q⟩ | ⟨er, q⟩
    · rw [er] at g ⊢
      refine ⟨fun e => absurd e (by decide), fun e => li_x (v := v) (g.2 e) hr.2.2.1.1 ?_ ?_ T P (fun p hp => (hr.2.2.1.2.2.2.1 p hp).2.1.2) (fun g2 => k (some _) (Or.inr (Or.inl ⟨c1, Or.inl ⟨q, rfl⟩⟩)) g2)⟩
      · rcases q with q | q
        · exact q.1
        · have := q.1
          omega
      · rcases q with q | q
        · have := q.2.1
          omega
        · exact q.2
    · rw [er] at g ⊢
      exact ⟨fun e => k none (Or.inr (Or.inl ⟨c1, Or.inr ⟨q, rfl⟩⟩)) (g.1 e), fun e => absurd i_0 e⟩
  · refine vm_x (((h.2 c).2 c1).1 c2) (fun r hr' g => ?_)
    rcases hr' with ⟨er, q⟩ | ⟨er, q⟩
    · rw [er] at g ⊢
      exact ⟨fun e => absurd e (by decide), fun e => ⟨(g.2 e).1, k (some _) (Or.inr (Or.inr (Or.inl ⟨c2, Or.inl ⟨q, rfl⟩⟩))) (g.2 e).2⟩⟩
    · rw [er] at g ⊢
      exact ⟨fun e => k none (Or.inr (Or.inr (Or.inl ⟨c2, Or.inr ⟨q, rfl⟩⟩))) (g.1 e), fun e => absurd i_0 e⟩
  · exact k (some _) (Or.inr (Or.inr (Or.inr (Or.inl ⟨c3, rfl⟩)))) ((((h.2 c).2 c1).2 c2).1 c3)
  · exact k (some _) (Or.inr (Or.inr (Or.inr (Or.inr ⟨c, c1, c2, c3, rfl⟩)))) ((((h.2 c).2 c1).2 c2).2 c3)
theorem msn_x {v w : MW} {a b : Int32} {Q Q' : Int64 → MW → Prop} (hw : BND w) (hr : HRq (mx v w)) (h : p_Mo_sensed w a b Q) (k : ∀ o, SnV v w a.toInt b.toInt o → Q (snm o) w → Q' (snm o) w) : p_Mo_sensed w a b Q' := msn_x' (hb_T hw) (hb_P hw) hr h k
