/-! what a thing must be set to: the reference's needOf -/
/-- the least position in which kind k passes from a to b -/
def LsS (k a b r : Int32) : Prop := (r = -1 ∧ ∀ p : Nat, p < 10 → (f_Mo_passes k (nI p) a b).toInt = 0) ∨ ∃ p : Nat, p < 10 ∧ r = nI p ∧ ¬ (f_Mo_passes k (nI p) a b).toInt = 0 ∧ ∀ p' : Nat, p' < p → (f_Mo_passes k (nI p') a b).toInt = 0
theorem LsS_u {k a b r r' : Int32} (h : LsS k a b r) (h' : LsS k a b r') : r = r' := by
  rcases h with ⟨e, h⟩ | ⟨p, hp, e, n, h⟩
  · rcases h' with ⟨e', _⟩ | ⟨p, hp, _, n, _⟩
    · rw [e, e']
    · exact absurd (h p hp) n
  · rcases h' with ⟨_, h'⟩ | ⟨p', hp', e', n', h'⟩
    · exact absurd (h' p hp) n
    · have : p = p' := by
        rcases Nat.lt_trichotomy p p' with q | q | q
        · exact absurd (h' p q) n
        · exact q
        · exact absurd (h p' q) n'
      rw [e, e', this]
theorem ls_2 {w : MW} {a b c : Int32} {E E' : MW → Prop} {Q Q' : Int32 → MW → Prop} (kE : (∀ p : Nat, p < 10 → (f_Mo_passes a (nI p) b c).toInt = 0) → E w → E' w) (kQ : ∀ r, LsS a b c r → Q r w → Q' r w) : ∀ (m : Nat) (p : Int32), q_Mo_least_2 a b c E Q m p w → 0 ≤ p.toInt → (∀ p' : Nat, (p' : Int) < p.toInt → (f_Mo_passes a (nI p') b c).toInt = 0) → q_Mo_least_2 a b c E' Q' m p w := by
  intro m
  induction m with
  | zero => exact fun _ h _ _ => False.elim h
  | succ m ih =>
    intro p h p0 inv
    rw [q_Mo_least_2.eq_2, ft_Mo_passes] at h ⊢
    refine ⟨fun d => kE (fun p' hp' => inv p' (by omega)) (h.1 d), fun d => ⟨fun z => ?_, fun z => ?_⟩⟩
    · have e := ti_add2 (Eq.refl p.toInt) i_1 (by omega) (by omega)
      refine ih _ ((h.2 d).1 z) (by omega) (fun p' hp' => ?_)
      by_cases q : (p' : Int) = p.toInt
      · rw [show p' = p.toInt.toNat by omega, nI_tn p0]
        exact z
      · exact inv p' (by omega)
    · refine kQ p (Or.inr ⟨p.toInt.toNat, by omega, (nI_tn p0).symm, ?_, fun p' hp' => inv p' (by omega)⟩) ((h.2 d).2 z)
      rw [nI_tn p0]
      exact z
theorem ls_x {w : MW} {a b c : Int32} {Q Q' : Int32 → MW → Prop} (h : p_Mo_least w a b c Q) (k : ∀ r, LsS a b c r → Q r w → Q' r w) : p_Mo_least w a b c Q' := by
  rw [p_Mo_least.eq_1] at h ⊢
  exact ls_2 (fun n g => k (-1) (Or.inl ⟨rfl, n⟩) g) k _ _ h (by decide) (fun p' hp' => by rw [i_0] at hp'; omega)
/-- no open way holds thing t -/
def unH (w : MW) (t : Int) : Prop := ∀ k : Nat, (k : Int) < (w.1 127 26).toInt → (w.1 187 (20 * k + t.toNat)).toInt = -1
def HdS (w : MW) (t : Int) (r : Int32) : Prop := (r = -1 ∧ unH w t) ∨ (¬ r.toInt = -1 ∧ ∃ k : Nat, (k : Int) < (w.1 127 26).toInt ∧ r = w.1 187 (20 * k + t.toNat))
theorem hd_2 {w : MW} {t : Int32} {E E' : MW → Prop} {Q Q' : Int32 → MW → Prop} (t0 : 0 ≤ t.toInt) (t1 : t.toInt < 20) (h26 : (w.1 127 26).toInt ≤ 24) (kE : unH w t.toInt → E w → E' w) (kQ : ∀ r, HdS w t.toInt r → Q r w → Q' r w) : ∀ (m : Nat) (k : Int32), q_Mo_held_2 t E Q m k w → 0 ≤ k.toInt → (∀ k' : Nat, (k' : Int) < k.toInt → (w.1 187 (20 * k' + t.toInt.toNat)).toInt = -1) → q_Mo_held_2 t E' Q' m k w := by
  intro m
  induction m with
  | zero => exact fun _ h _ _ => False.elim h
  | succ m ih =>
    intro k h k0 inv
    rw [q_Mo_held_2.eq_2] at h ⊢
    refine ⟨fun d => kE (fun k' hk' => inv k' (by omega)) (h.1 d), fun d => ?_⟩
    have H := h.2 d
    have e := ti_add2 (Eq.refl k.toInt) i_1 (by omega) (by omega)
    have m1 := ti_mul2 (by decide : ((20 : Int32)).toInt = 20) (Eq.refl k.toInt) (by omega) (by omega)
    have m2 := ti_add2 m1 (Eq.refl t.toInt) (by omega) (by omega)
    have m3 : (((20 : Int32) * k) + t).toInt.toNat = 20 * k.toInt.toNat + t.toInt.toNat := by omega
    rw [m3] at H ⊢
    refine ⟨H.1, fun z => ih _ (H.2.1 z) (by omega) (fun k' hk' => ?_), fun z => ⟨(H.2.2 z).1, kQ _ (Or.inr ⟨z, k.toInt.toNat, by omega, rfl⟩) (H.2.2 z).2⟩⟩
    by_cases q : (k' : Int) = k.toInt
    · rw [show k' = k.toInt.toNat by omega]
      exact z
    · exact inv k' (by omega)
theorem hd_x {w : MW} {t : Int32} {Q Q' : Int32 → MW → Prop} (h : p_Mo_held w t Q) (t0 : 0 ≤ t.toInt) (t1 : t.toInt < 20) (h26 : (w.1 127 26).toInt ≤ 24) (k : ∀ r, HdS w t.toInt r → Q r w → Q' r w) : p_Mo_held w t Q' := by
  rw [p_Mo_held.eq_1] at h ⊢
  exact hd_2 t0 t1 h26 (fun n g => k (-1) (Or.inl ⟨rfl, n⟩) g) k _ _ h (by decide) (fun k' hk' => by rw [i_0] at hk'; omega)
/-- what is held is held where it stands -/
def HP (w : MW) : Prop := ∀ k t : Nat, (k : Int) < (w.1 127 26).toInt → (t : Int) < tM w → ¬ (w.1 187 (20 * k + t)).toInt = -1 → 2 ≤ (w.1 163 t).toInt → w.1 187 (20 * k + t) = w.1 167 t
/-- pipe of end g is free -/
def frM (w : MW) (g : Nat) : Prop := lb (w.2.1 127 40) (g / 2) = false
/-- one may go on from exit a to entry b, with need n -/
def ALf (fr : Nat → Prop) (w : MW) (a b : Nat) (n : Int32) : Prop := 0 ≤ atM w a ∧ atM w b = atM w a ∧ ¬ b = a ∧ ¬ tkM w (atM w a) ∧ fr b ∧ (((w.1 163 (atM w a).toNat).toInt = 1 ∧ (w.1 171 a).toInt = 0 ∧ unH w (atM w a) ∧ n = 0) ∨ (¬ (w.1 163 (atM w a).toNat).toInt = 1 ∧ LsS ((w.1 163 (atM w a).toNat) - (2 : Int32)) (w.1 171 a) (w.1 171 b) n ∧ ¬ n.toInt = -1 ∧ (unH w (atM w a) ∨ w.1 167 (atM w a).toNat = n)))
def AL (w : MW) (a b : Nat) (n : Int32) : Prop := ALf (frM w) w a b n
theorem AL_u {w : MW} {a b : Nat} {n n' : Int32} (h : AL w a b n) (h' : AL w a b n') : n = n' := by
  obtain ⟨_, _, _, _, _, h⟩ := h
  obtain ⟨_, _, _, _, _, h'⟩ := h'
  rcases h with h | h
  · rcases h' with h' | h'
    · rw [h.2.2.2, h'.2.2.2]
    · exact absurd h.1 h'.1
  · rcases h' with h' | h'
    · exact absurd h'.1 h.1
    · exact LsS_u h.2.1 h'.2.1
theorem nd_x {w : MW} {a b : Int32} {Q Q' : Int32 → MW → Prop} (h : p_Mo_needOf w a b Q) (a0 : 0 ≤ a.toInt) (b0 : 0 ≤ b.toInt) (h26 : (w.1 127 26).toInt ≤ 24) (hk : ∀ t : Nat, (t : Int) < tM w → 0 ≤ (w.1 163 t).toInt) (at1 : atM w a.toInt.toNat < tM w) (hp : HP w) (k1 : ∀ r, AL w a.toInt.toNat b.toInt.toNat r → ¬ r.toInt = -1 → Q r w → Q' r w) (k0 : (∀ n, ¬ AL w a.toInt.toNat b.toInt.toNat n) → Q (-1) w → Q' (-1) w) : p_Mo_needOf w a b Q' := by
  have n0 : ¬ (0 : Int32).toInt = -1 := by decide
  rw [p_Mo_needOf.eq_1] at h ⊢
  refine ⟨h.1, fun c => k0 (fun n q => ?_) (h.2.1 c), fun c => ?_⟩
  · have := q.1
    unfold atM at this
    omega
  have H := h.2.2 c
  have ea : (w.1 170 a.toInt.toNat).toInt = atM w a.toInt.toNat := rfl
  have t0 : 0 ≤ atM w a.toInt.toNat := by omega
  refine ⟨H.1, fun c1 => k0 (fun n q => c1 q.2.1) (H.2.1 c1), fun c1 => ⟨fun c2 => k0 (fun n q => q.2.2.1 (by omega)) ((H.2.2 c1).1 c2), fun c2 => ?_⟩⟩
  have H2 := (H.2.2 c1).2 c2
  have c1' := Classical.not_not.mp c1
  have t20 := H2.1
  refine ⟨H2.1, fun c3 => k0 (fun n q => q.2.2.2.1 c3) (H2.2.1 c3), fun c3 => ⟨fun c4 => ?_, fun c4 => k0 (fun n q => c4 ?_) ((H2.2.2 c3).2 c4)⟩⟩
  · have H3 := (H2.2.2 c3).1 c4
    have b2 : (b / (2 : Int32)).toInt = b.toInt / 2 := nb_div b0 (by decide) (by decide)
    have bb := H.1
    have fr : frM w b.toInt.toNat := by
      have q := (lb_bit (w.2.1 127 40) (a := b / (2 : Int32)) (by omega) (by omega)).mp c4
      rw [show (b / (2 : Int32)).toInt.toNat = b.toInt.toNat / 2 by omega] at q
      exact q
    have base : 0 ≤ atM w a.toInt.toNat ∧ atM w b.toInt.toNat = atM w a.toInt.toNat ∧ ¬ b.toInt.toNat = a.toInt.toNat ∧ ¬ tkM w (atM w a.toInt.toNat) ∧ frM w b.toInt.toNat := ⟨t0, c1', by omega, c3, fr⟩
    refine ⟨H3.1, fun c5 => ?_, fun c5 => ?_⟩
    · have H4 := H3.2.1 c5
      refine ⟨H4.1, H4.2.1, H4.2.2.1, ls_x H4.2.2.2 (fun r hr g => hd_x g (by omega) (by omega) h26 (fun r2 hr2 g2 => ?_))⟩
      have rn1 : ∀ r' : Int32, r' = r → ¬ r.toInt = -1 → (unH w (atM w a.toInt.toNat) ∨ w.1 167 (atM w a.toInt.toNat).toNat = r) → AL w a.toInt.toNat b.toInt.toNat r := fun r' _ n1 o => ⟨base.1, base.2.1, base.2.2.1, base.2.2.2.1, base.2.2.2.2, Or.inr ⟨c5, hr, n1, o⟩⟩
      have rm : r.toInt = -1 → r = -1 := fun z => ti_inj (by rw [z, m1_i])
      have no : (r.toInt = -1 ∨ ¬ (unH w (atM w a.toInt.toNat) ∨ w.1 167 (atM w a.toInt.toNat).toNat = r)) → ∀ n, ¬ AL w a.toInt.toNat b.toInt.toNat n := fun o n q => by
        obtain ⟨_, _, _, _, _, q⟩ := q
        rcases q with q | q
        · exact c5 q.1
        · have e := LsS_u q.2.1 hr
          rw [e] at q
          rcases o with o | o
          · exact q.2.2.1 o
          · exact o q.2.2.2
      rcases hr2 with ⟨e2, un⟩ | ⟨n2, k', hk', e2⟩
      · refine ⟨fun z => ?_, fun z => absurd (show r2.toInt = -1 by rw [e2, m1_i]) z⟩
        by_cases rz : r.toInt = -1
        · have g3 := g2.1 z
          rw [rm rz] at g3 ⊢
          exact k0 (no (Or.inl rz)) g3
        · exact k1 r (rn1 r rfl rz (Or.inl un)) rz (g2.1 z)
      · refine ⟨fun z => absurd z n2, fun z => hd_x (g2.2 z) (by omega) (by omega) h26 (fun r3 hr3 g3 => ?_)⟩
        have kd := hk (atM w a.toInt.toNat).toNat (by omega)
        have c3' : ¬ (w.1 163 (atM w a.toInt.toNat).toNat).toInt = 0 := c3
        have c5' : ¬ (w.1 163 (atM w a.toInt.toNat).toNat).toInt = 1 := c5
        have nun : ¬ unH w (atM w a.toInt.toNat) := fun un => by
          have := un k' hk'
          rw [← ea, ← e2] at this
          exact n2 this
        have e3 : r3 = w.1 167 (atM w a.toInt.toNat).toNat := by
          rcases hr3 with ⟨_, un⟩ | ⟨n3, k3, hk3, e3⟩
          · exact absurd un nun
          · rw [ea] at e3
            rw [e3] at n3
            rw [e3]
            exact hp k3 _ hk3 (by omega) n3 (by omega)
        refine ⟨fun z2 => k0 (no (Or.inr (fun o => ?_))) (g3.1 z2), fun z2 => ?_⟩
        · rcases o with o | o
          · exact nun o
          · exact z2 (by rw [e3, o])
        · have z3 : r3 = r := ti_inj (Classical.not_not.mp z2)
          have rz : ¬ r.toInt = -1 := by
            rw [← z3]
            rcases hr3 with ⟨_, un⟩ | ⟨n3, _⟩
            · exact absurd un nun
            · exact n3
          exact k1 r (rn1 r rfl rz (Or.inr (by rw [← z3, e3]))) rz (g3.2 z2)
    · have c5' := Classical.not_not.mp c5
      have H4 := H3.2.2 c5
      have no : (¬ (w.1 171 a.toInt.toNat).toInt = 0 ∨ ¬ unH w (atM w a.toInt.toNat)) → ∀ n, ¬ AL w a.toInt.toNat b.toInt.toNat n := fun o n q => by
        obtain ⟨_, _, _, _, _, q⟩ := q
        rcases q with q | q
        · rcases o with o | o
          · exact o q.2.1
          · exact o q.2.2.1
        · exact q.1 c5'
      refine ⟨H4.1, fun c6 => k0 (no (Or.inl c6)) (H4.2.1 c6), fun c6 => hd_x (H4.2.2 c6) (by omega) (by omega) h26 (fun r2 hr2 g2 => ?_)⟩
      have c6' := Classical.not_not.mp c6
      rcases hr2 with ⟨e2, un⟩ | ⟨n2, k', hk', e2⟩
      · exact ⟨fun z => absurd (show r2.toInt = -1 by rw [e2, m1_i]) z, fun z => k1 0 ⟨base.1, base.2.1, base.2.2.1, base.2.2.2.1, base.2.2.2.2, Or.inl ⟨c5', c6', un, rfl⟩⟩ n0 (g2.2 z)⟩
      · refine ⟨fun z => k0 (no (Or.inr (fun un => ?_))) (g2.1 z), fun z => absurd n2 z⟩
        have := un k' hk'
        rw [← ea, ← e2] at this
        exact n2 this
  · have b2 : (b / (2 : Int32)).toInt = b.toInt / 2 := nb_div b0 (by decide) (by decide)
    have bb := H.1
    refine (lb_bit (w.2.1 127 40) (a := b / (2 : Int32)) (by omega) (by omega)).mpr ?_
    have := q.2.2.2.2.1
    unfold frM at this
    rw [show (b / (2 : Int32)).toInt.toNat = b.toInt.toNat / 2 by omega]
    exact this
