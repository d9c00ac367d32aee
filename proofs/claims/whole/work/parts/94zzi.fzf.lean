/-! both sides go on alike -/
def lsR (f : Nat → Bool) : Nat → Nat → Int32
  | 0, _ => -1
  | n + 1, i => if f i = true then nI i else lsR f n (i + 1)
theorem lsR_s {f : Nat → Bool} : ∀ n i : Nat, (lsR f n i = -1 ∧ ∀ p, i ≤ p → p < i + n → f p = false) ∨ ∃ p, i ≤ p ∧ p < i + n ∧ lsR f n i = nI p ∧ f p = true ∧ ∀ p', i ≤ p' → p' < p → f p' = false := by
  intro n
  induction n with
  | zero => exact fun i => Or.inl ⟨rfl, fun p h1 h2 => by omega⟩
  | succ n ih =>
    intro i
    have e : lsR f (n + 1) i = if f i = true then nI i else lsR f n (i + 1) := rfl
    rw [e]
    by_cases c : f i = true
    · rw [if_pos c]
      exact Or.inr ⟨i, Nat.le_refl _, by omega, rfl, c, fun p' h1 h2 => by omega⟩
    · have c' : f i = false := by
        cases z : f i with
        | false => rfl
        | true => exact absurd z c
      rw [if_neg c]
      rcases ih (i + 1) with ⟨h1, h2⟩ | ⟨p, h1, h2, h3, h4, h5⟩
      · refine Or.inl ⟨h1, fun p p1 p2 => ?_⟩
        by_cases q : p = i
        · rw [q]
          exact c'
        · exact h2 p (by omega) (by omega)
      · refine Or.inr ⟨p, by omega, by omega, h3, h4, fun p' p1 p2 => ?_⟩
        by_cases q : p' = i
        · rw [q]
          exact c'
        · exact h5 p' (by omega) p2
def psN (k a b p : Nat) : Bool := !(decide ((f_Mo_passes (nI k) (nI p) (nI a) (nI b)).toInt = 0))
theorem lsS_t (k a b : Nat) : LsS (nI k) (nI a) (nI b) (lsR (psN k a b) 10 0) := by
  have f0 : ∀ p, psN k a b p = false → (f_Mo_passes (nI k) (nI p) (nI a) (nI b)).toInt = 0 := fun p h => by
    unfold psN at h
    by_cases c : (f_Mo_passes (nI k) (nI p) (nI a) (nI b)).toInt = 0
    · exact c
    · rw [decide_eq_false c] at h
      cases h
  have f1 : ∀ p, psN k a b p = true → ¬ (f_Mo_passes (nI k) (nI p) (nI a) (nI b)).toInt = 0 := fun p h c => by
    unfold psN at h
    rw [decide_eq_true c] at h
    cases h
  rcases lsR_s (f := psN k a b) 10 0 with ⟨h1, h2⟩ | ⟨p, _, h2, h3, h4, h5⟩
  · exact Or.inl ⟨h1, fun p hp => f0 p (h2 p (by omega) (by omega))⟩
  · exact Or.inr ⟨p, by omega, h3, f1 p h4, fun p' hp' => f0 p' (h5 p' (by omega) hp')⟩
theorem ndt_b : ∀ k, k < 8 → ∀ a, a < 4 → ∀ b, b < 4 → ((a == b) || !(decide (a < pcx k)) || !(decide (b < pcx k)) || decide (ndO 160 (16 * k + 4 * a + b) = lsR (psN k a b) 10 0)) = true := by decide +kernel
theorem ndt_v {k a b : Nat} (hk : k < 8) (ha : a < 4) (hb : b < 4) (ne : a ≠ b) (h1 : a < pcx k) (h2 : b < pcx k) : LsS (nI k) (nI a) (nI b) (ndO 160 (16 * k + 4 * a + b)) := by
  have h := ndt_b k hk a ha b hb
  rw [beq_false_of_ne ne, decide_eq_true h1, decide_eq_true h2] at h
  have e : ndO 160 (16 * k + 4 * a + b) = lsR (psN k a b) 10 0 := of_decide_eq_true h
  rw [e]
  exact lsS_t k a b
theorem ndt_p : ∀ a, a < 2 → ∀ b, b < 2 → ((a == b) || decide (ndO 160 (128 + 4 * a + b) = if a = 0 then 0 else -1)) = true := by decide +kernel
theorem ndt_9 : ∀ a, a < 4 → ∀ b, b < 4 → ndO 160 (144 + 4 * a + b) = -1 := by decide +kernel
theorem ndt_d : ∀ k, k < 10 → ∀ a, a < 4 → ndO 160 (16 * k + 4 * a + a) = -1 := by decide +kernel
/-- the class's table of needs -/
def NDt (w : MW) : Prop := ∀ i, i < 160 → w.1 41 i = ndO 160 i
/-- things that open ways go over are those that are held -/
def OVq (w : MW) : Prop := ∀ t : Nat, (t : Int) < tM w → ((w.1 37 t).toInt = 0 ↔ unH w t)
/-- ports grow with the ends -/
def PMq (w : MW) : Prop := ∀ e g : Nat, e < g → (g : Int) < 2 * pC w → atC w e = atC w g → 0 ≤ atC w e → ¬ tkC w (atC w e) → poC w e < poC w g
theorem ca_g {z : MW} (hx : PX z) (hb : PB z) {o j g : Nat} (ho : (o : Int) < 2 * pC z) (hj : j < 4) (ca : CAj z o j g) : (g : Int) < 2 * pC z ∧ atC z g = atC z o ∧ poC z g = j := by
  have al := (hx.1 o ho).1
  have q := hx.2 (atC z o).toNat j (by have := ca.1; omega) hj ca.2.1
  have a0 := ca.1
  rw [ca.2.2.1]
  have q1 := q.1
  have q0 := ca.2.1
  exact ⟨by omega, by rw [q.2.1]; omega, q.2.2⟩
/-- the class goes on where the reference does -/
theorem ca_al {z : MW} {fr : Nat → Prop} (h : PLq z) (hx : PX z) (hb : PB z) (nd : NDt z) (ov : OVq z) {o g : Nat} (ho : (o : Int) < 2 * pC z) : (∃ j, j < 4 ∧ CAj z o j g) ∧ fr g ↔ (g : Int) < 2 * pC z ∧ ∃ n, ALf fr z o g n := by
  have oM' : (o : Int) < 2 * pM z := by rw [← h.2.1]; exact ho
  have aO := (h.2.2.2 o oM').1
  have al := (hx.1 o ho).1
  have T := hb.1
  have alM : atM z o < tM z := by rw [← aO, ← h.1]; exact al
  have po4 : 0 ≤ (z.1 14 o).toInt ∧ (z.1 14 o).toInt ≤ 3 := hb.2.2.2.2 o
  have poO : poC z o < 4 := by unfold poC; omega
  constructor
  · intro q
    obtain ⟨⟨j, hj, ca⟩, fg⟩ := q
    have G := ca_g hx hb ho hj ca
    refine ⟨G.1, ?_⟩
    obtain ⟨a0, c1, c2, c3, c4⟩ := ca
    have gM : (g : Int) < 2 * pM z := by rw [← h.2.1]; exact G.1
    have aG := (h.2.2.2 g gM).1
    have kb := hb.2.2.1 (atC z o).toNat (by omega)
    have kk : kC z (atC z o).toNat = (z.1 9 (atC z o).toNat).toInt := rfl
    unfold nee at c3 c4
    rw [nd _ (by omega)] at c3 c4
    have n9 : ¬ kC z (atC z o).toNat = 9 := fun z9 => by
      rw [z9] at c3
      have e := ndt_9 (poC z o) poO j hj
      rw [show 16 * (9 : Int).toNat + 4 * poC z o + j = 144 + 4 * poC z o + j by rfl, e, m1_i] at c3
      omega
    have ntC : ¬ tkC z (atC z o) := n9
    have ntM : ¬ tkM z (atM z o) := by
      rw [← tk_e h (by omega) alM, ← aO]
      exact ntC
    have ngo : ¬ g = o := fun e => by
      have pj := G.2.2
      rw [e] at pj
      rw [← pj] at c3
      have e2 := ndt_d (kC z (atC z o).toNat).toNat (by omega) (poC z o) poO
      rw [e2, m1_i] at c3
      omega
    have pO := (h.2.2.2 o oM').2 (by omega) ntM
    have pG := (h.2.2.2 g gM).2 (by rw [← aG, G.2.1]; exact a0) (by rw [← aG, G.2.1, aO]; exact ntM)
    have eg : atM z g = atM z o := by rw [← aG, G.2.1, aO]
    rw [eg] at pG
    have K := h.2.2.1 (atM z o).toNat (by omega)
    have km := K.2.1
    have nK0 : ¬ (z.1 163 (atM z o).toNat).toInt = 0 := ntM
    unfold kmp at km
    rw [if_neg nK0] at km
    rw [aO] at c3 c4 kb kk n9
    have ovt := ov (atM z o).toNat (by omega)
    rw [show (((atM z o).toNat : Nat) : Int) = atM z o by omega] at ovt
    have npo : ¬ poC z o = j := fun e => ngo (px_inj hx hb ho G.1 a0 ntC G.2.1 (by rw [G.2.2, e]))
    by_cases k1 : (z.1 163 (atM z o).toNat).toInt = 1
    · rw [if_pos k1] at km
      rw [km] at c3 c4
      have px8 : pcx (8 : Int).toNat = 2 := by decide
      have pO2 := pO.2
      have pG2 := pG.2
      rw [km, px8] at pO2 pG2
      rw [G.2.2] at pG2
      have t := ndt_p (poC z o) pO2 j pG2
      rw [beq_false_of_ne npo] at t
      have t2 : ndO 160 (128 + 4 * poC z o + j) = if poC z o = 0 then 0 else -1 := of_decide_eq_true t
      rw [show 16 * (8 : Int).toNat + 4 * poC z o + j = 128 + 4 * poC z o + j by rfl, t2] at c3
      have p0 : poC z o = 0 := by
        by_cases e : poC z o = 0
        · exact e
        · rw [if_neg e, m1_i] at c3
          omega
      refine ⟨0, by omega, eg, ngo, ntM, fg, Or.inl ⟨k1, ?_, ?_, rfl⟩⟩
      · rw [← pO.1]
        unfold poC at p0
        omega
      · rcases c4 with c4 | c4
        · exact ovt.mp c4
        · exact absurd rfl c4.1
    · rw [if_neg k1] at km
      have kN : (kC z (atM z o).toNat).toNat < 8 := by have := K.1.2; omega
      have pO2 := pO.2
      have pG2 := pG.2
      rw [G.2.2] at pG2
      have t := ndt_v kN poO hj npo pO2 pG2
      have eK : nI (kC z (atM z o).toNat).toNat = (z.1 163 (atM z o).toNat) - (2 : Int32) := by
        apply ti_inj
        rw [nI_toInt (by omega), ti_sub2 rfl (by decide : ((2 : Int32)).toInt = 2) (by have := K.1; omega) (by have := K.1; omega)]
        omega
      have e1 : nI (poC z o) = z.1 171 o := by
        rw [← pO.1]
        exact nI_tn po4.1
      have e2 : nI j = z.1 171 g := by
        rw [← pG.1, ← G.2.2]
        exact nI_tn (hb.2.2.2.2 g).1
      rw [eK, e1, e2] at t
      refine ⟨_, by omega, eg, ngo, ntM, fg, Or.inr ⟨k1, t, fun e => by rw [e] at c3; omega, ?_⟩⟩
      rcases c4 with c4 | c4
      · exact Or.inl (ovt.mp c4)
      · refine Or.inr ?_
        rw [← K.2.2]
        exact c4.2
  · intro q
    obtain ⟨gN, n, a0, eg, ngo, ntM, fg, q⟩ := q
    refine ⟨?_, fg⟩
    have gM : (g : Int) < 2 * pM z := by rw [← h.2.1]; exact gN
    have aG := (h.2.2.2 g gM).1
    have ntC : ¬ tkC z (atC z o) := by
      rw [aO, tk_e h a0 alM]
      exact ntM
    have eC : atC z g = atC z o := by rw [aG, eg, aO]
    have X := (hx.1 g gN).2 (by rw [eC, aO]; exact a0) (by rw [eC]; exact ntC)
    rw [eC] at X
    have ng : (nI g).toInt = (g : Int) := nI_toInt (by have := hb.2.1.2; omega)
    have pO := (h.2.2.2 o oM').2 a0 ntM
    have pG := (h.2.2.2 g gM).2 (by rw [eg]; exact a0) (by rw [eg]; exact ntM)
    rw [eg] at pG
    have K := h.2.2.1 (atM z o).toNat (by omega)
    have km := K.2.1
    have nK0 : ¬ (z.1 163 (atM z o).toNat).toInt = 0 := ntM
    unfold kmp at km
    rw [if_neg nK0] at km
    have ovt := ov (atM z o).toNat (by omega)
    rw [show (((atM z o).toNat : Nat) : Int) = atM z o by omega] at ovt
    have npo : ¬ poC z o = poC z g := fun e => ngo (px_inj hx hb ho gN (by rw [aO]; exact a0) ntC eC e.symm)
    refine ⟨poC z g, X.1, by rw [aO]; exact a0, by rw [X.2]; omega, by rw [X.2, ng]; rfl, ?_⟩
    unfold nee
    rw [nd _ (by have := hb.2.2.1 (atC z o).toNat (by rw [aO]; omega); have k2 : kC z (atC z o).toNat = (z.1 9 (atC z o).toNat).toInt := rfl; have := X.1; omega), aO]
    rcases q with ⟨k1, p0, un, en⟩ | ⟨k1, ls, nn, un⟩
    · rw [if_pos k1] at km
      rw [km]
      have px8 : pcx (8 : Int).toNat = 2 := by decide
      have pO2 := pO.2
      have pG2 := pG.2
      rw [km, px8] at pO2 pG2
      have t := ndt_p (poC z o) pO2 (poC z g) pG2
      rw [beq_false_of_ne npo] at t
      have t2 : ndO 160 (128 + 4 * poC z o + poC z g) = if poC z o = 0 then 0 else -1 := of_decide_eq_true t
      have p00 : poC z o = 0 := by
        rw [← pO.1] at p0
        unfold poC
        omega
      rw [show 16 * (8 : Int).toNat + 4 * poC z o + poC z g = 128 + 4 * poC z o + poC z g by rfl, t2, if_pos p00]
      exact ⟨by decide, Or.inl (ovt.mpr un)⟩
    · rw [if_neg k1] at km
      have kN : (kC z (atM z o).toNat).toNat < 8 := by have := K.1.2; omega
      have t := ndt_v kN poO X.1 npo pO.2 pG.2
      have eK : nI (kC z (atM z o).toNat).toNat = (z.1 163 (atM z o).toNat) - (2 : Int32) := by
        apply ti_inj
        rw [nI_toInt (by omega), ti_sub2 rfl (by decide : ((2 : Int32)).toInt = 2) (by have := K.1; omega) (by have := K.1; omega)]
        omega
      have e1 : nI (poC z o) = z.1 171 o := by
        rw [← pO.1]
        exact nI_tn po4.1
      have e2 : nI (poC z g) = z.1 171 g := by
        rw [← pG.1]
        exact nI_tn (hb.2.2.2.2 g).1
      rw [eK, e1, e2] at t
      have en := LsS_u t ls
      rw [en]
      have n0 : 0 ≤ n.toInt := by
        rcases ls with ⟨e, _⟩ | ⟨p, hp, e, _⟩
        · rw [e, m1_i] at nn
          exact absurd rfl nn
        · rw [e, nI_toInt (by omega)]
          omega
      refine ⟨n0, ?_⟩
      rcases un with un | un
      · exact Or.inl (ovt.mpr un)
      · refine Or.inr ⟨by have := K.1.2; omega, ?_⟩
        rw [K.2.2]
        exact un
/-- the class's steps, by the reference's words -/
def ADc (z : MW) (e g : Nat) : Prop := frC z e ∧ (g : Int) < 2 * pC z ∧ ∃ n, ALf (frC z) z (xo e) g n
theorem fzf_x {z : MW} (h : PLq z) (hx : PX z) (hb : PB z) (nd : NDt z) (ov : OVq z) (pm : PMq z) (sz : ∀ p : Nat, (p : Int) < pC z → 1 ≤ (z.1 12 p).toInt ∧ (z.1 12 p).toInt ≤ 200) : FZf z (2 * pC z).toNat (ADc z) := by
  have P := hb.2.1
  have T := hb.1
  have xoN : ∀ e, e < (2 * pC z).toNat → ((xo e : Nat) : Int) < 2 * pC z := fun e he => by
    have := xo_lt (e := e) (N := (pC z).toNat) (by omega)
    omega
  refine ⟨by omega, by omega, fun e he => ?_, fun e he a0 => ?_, hb.2.2.2.2, fun e he => sz (e / 2) (by omega), fun e g he => ?_, fun e j g he hj ca => ?_, fun e j g j' g' he hj hj' ca ca' l => ?_⟩
  · have := (hx.1 e (by omega)).1
    omega
  · have := (hx.1 e (by omega)).1
    exact hb.2.2.1 (atC z e).toNat (by omega)
  · have q := ca_al (fr := frC z) (g := g) h hx hb nd ov (xoN e he)
    constructor
    · intro a
      have r := q.mpr ⟨a.2.1, a.2.2⟩
      exact ⟨a.1, r.2, r.1⟩
    · intro a
      exact ⟨a.1, q.mp ⟨a.2.2, a.2.1⟩⟩
  · have := (ca_g hx hb (xoN e he) hj ca).1
    omega
  · have G := ca_g hx hb (xoN e he) hj ca
    have G' := ca_g hx hb (xoN e he) hj' ca'
    by_cases c : g ≤ g'
    · exact c
    · have kb := hb.2.2.1 (atC z (xo e)).toNat (by have := (hx.1 _ (xoN e he)).1; have := ca.1; omega)
      have nt : ¬ tkC z (atC z g') := fun t => by
        rw [G'.2.1] at t
        have c3 := ca.2.2.2.1
        have po4 := hb.2.2.2.2 (xo e)
        have t' : kC z (atC z (xo e)).toNat = 9 := t
        unfold nee at c3
        rw [t', show 16 * (9 : Int).toNat + 4 * poC z (xo e) + j = 144 + 4 * poC z (xo e) + j by rfl, nd _ (by unfold poC; omega), ndt_9 (poC z (xo e)) (by unfold poC; omega) j hj, m1_i] at c3
        omega
      have m := pm g' g (by omega) G.1 (by rw [G.2.1, G'.2.1]) (by rw [G'.2.1]; exact ca.1) nt
      omega
