/-! the class's link: what each space lets flood next -/
def tC (w : MW) : Int := (w.1 8 0).toInt
def pC (w : MW) : Int := (w.1 8 1).toInt
def atC (w : MW) (e : Nat) : Int := (w.1 13 e).toInt
def poC (w : MW) (e : Nat) : Nat := (w.1 14 e).toInt.toNat
def tkC (w : MW) (t : Int) : Prop := (w.1 9 t.toNat).toInt = 9
/-- what a thing passes, with one that passes otherwise -/
def sgC (w : MW) (v ps : Int32) (t : Int) : Int32 := if t = v.toInt then ps else (stT 1001).getD ((((w.1 9 t.toNat) * (10 : Int32)) + (w.1 16 t.toNat)).toInt.toNat) 0
def psC (w : MW) (v ps : Int32) (e g : Nat) : Prop := mb (sgC w v ps (atC w e)) (4 * poC w e + poC w g) = true
def EdC (w : MW) (v ps : Int32) : Nat → Nat → Prop := Edg (tC w) (pC w) (atC w) (tkC w) (psC w v ps)
/-- the class's plant hangs together: ports and ends -/
def PX (w : MW) : Prop := (∀ e : Nat, (e : Int) < 2 * pC w → atC w e < tC w ∧ (0 ≤ atC w e → ¬ tkC w (atC w e) → poC w e < 4 ∧ w.1 15 (4 * (atC w e).toNat + poC w e) = nI e)) ∧ (∀ t j : Nat, (t : Int) < tC w → j < 4 → 0 ≤ (w.1 15 (4 * t + j)).toInt → (w.1 15 (4 * t + j)).toInt < 2 * pC w ∧ atC w (w.1 15 (4 * t + j)).toInt.toNat = t ∧ poC w (w.1 15 (4 * t + j)).toInt.toNat = j)
theorem opo_s : ∀ p, p < 4 → ((((4 : Int32) * nI p) &&& 31).toBitVec.smod 32).toNat = 4 * p := by decide
theorem op_15 : ∀ j, j < 4 → ((15 : Int32)).toBitVec.getLsbD j = true := by decide
theorem op_b (s : Int32) {a : Int32} {j : Nat} (a0 : 0 ≤ a.toInt) (a1 : a.toInt < 4) (hj : j < 4) : mb ((s >>> (((4 : Int32) * a) &&& 31)) &&& (15 : Int32)) j = mb s (4 * a.toInt.toNat + j) := by
  have e := opo_s a.toInt.toNat (by omega)
  rw [nI_tn a0] at e
  unfold mb
  rw [Int32.toBitVec_and, BitVec.getLsbD_and, op_15 j hj, Bool.and_true, Int32.toBitVec_shiftRight]
  show (s.toBitVec.sshiftRight ((((4 : Int32) * a) &&& 31).toBitVec.smod 32).toNat).getLsbD j = _
  rw [e, BitVec.getLsbD_sshiftRight, if_pos (show 4 * a.toInt.toNat + j < 32 by omega), decide_eq_false (show ¬ 32 ≤ j by omega)]
  rfl
/-- what the ports below b give -/
def Epn (w : MW) (t : Int) (op : Int32) (x : Int) (b : Int) (z y : Nat) : Prop := (z : Int) = x ∧ ∃ j : Nat, (j : Int) < b ∧ j < 4 ∧ mb op j = true ∧ 0 ≤ (w.1 15 (4 * t.toNat + j)).toInt ∧ (y : Int) = tC w + (w.1 15 (4 * t.toNat + j)).toInt / 2
theorem ln_160 {w0 w1 : MW} {v ps e t x op : Int32} {E E' : MW → Prop} {Q Q' : MW → Prop} (t0 : 0 ≤ t.toInt) (t1 : t.toInt < tC w0) (T1 : tC w0 ≤ 20) (P1 : pC w0 ≤ 24) (hx : PX w0) (o1 : oJ 46 w0 w1) (k : ∀ w', oJ 46 w1 w' → (∀ z y : Nat, lb (w'.2.1 46 z) y = true ↔ lb (w1.2.1 46 z) y = true ∨ Epn w0 t.toInt op x.toInt 4 z y) → E w' → E' w') : ∀ (m : Nat) (j : Int32) (w : MW), q_Sf_link_160 v ps e t x op E Q m j w → 0 ≤ j.toInt → j.toInt ≤ 4 → oJ 46 w1 w → (∀ z y : Nat, lb (w.2.1 46 z) y = true ↔ lb (w1.2.1 46 z) y = true ∨ Epn w0 t.toInt op x.toInt j.toInt z y) → q_Sf_link_160 v ps e t x op E' Q' m j w := by
  intro m
  induction m with
  | zero => exact fun _ _ h _ _ _ _ => False.elim h
  | succ m ih =>
    intro j w h j0 j4 o inv
    have ow := (oJ_t o1 o).1
    rw [q_Sf_link_160.eq_2, ow] at h ⊢
    refine ⟨fun c => k w o (by rw [show j.toInt = 4 by omega] at inv; exact inv) (h.1 c), fun c => ?_⟩
    have H := h.2 c
    have ej := ti_add2 (Eq.refl j.toInt) i_1 (by omega) (by omega)
    have e1 := ti_mul2 (Eq.refl t.toInt) (by decide : ((4 : Int32)).toInt = 4) (by omega) (by omega)
    have e2 := ti_add2 e1 (Eq.refl j.toInt) (by omega) (by omega)
    have e3 : ((t * (4 : Int32)) + j).toInt.toNat = 4 * t.toInt.toNat + j.toInt.toNat := by omega
    have tb := mb_bit op (n := j.toInt.toNat) (by omega)
    rw [nI_tn j0] at tb
    rw [e3] at H ⊢
    have skip : ¬ (mb op j.toInt.toNat = true ∧ 0 ≤ (w0.1 15 (4 * t.toInt.toNat + j.toInt.toNat)).toInt) → q_Sf_link_160 v ps e t x op E Q m (j + (1 : Int32)) w → q_Sf_link_160 v ps e t x op E' Q' m (j + (1 : Int32)) w := fun nn g => by
      refine ih _ _ g (by omega) (by omega) o (fun z y => ?_)
      rw [inv z y]
      constructor
      · intro q
        rcases q with q | ⟨q1, i, hi, q2⟩
        · exact Or.inl q
        · exact Or.inr ⟨q1, i, by omega, q2⟩
      · intro q
        rcases q with q | ⟨q1, i, hi, q2, q3, q4, q5⟩
        · exact Or.inl q
        · by_cases qq : (i : Int) = j.toInt
          · rw [show i = j.toInt.toNat by omega] at q3 q4
            exact absurd ⟨q3, q4⟩ nn
          · exact Or.inr ⟨q1, i, by omega, q2, q3, q4, q5⟩
    refine ⟨H.1, fun a => skip (fun q => ?_) (H.2.1 a), fun a => ⟨fun b => skip (fun q => by have := q.2; omega) ((H.2.2 a).1 b), fun b => ?_⟩⟩
    · rw [tb.mp a] at q
      cases q.1
    · have B := (H.2.2 a).2 b
      have bt' : mb op j.toInt.toNat = true := by
        cases f : mb op j.toInt.toNat with
        | true => rfl
        | false => exact absurd (tb.mpr f) a
      have pg := hx.2 t.toInt.toNat j.toInt.toNat (by omega) (by omega) (by omega)
      have sh := nb_shr (w0.1 15 (4 * t.toInt.toNat + j.toInt.toNat)) ((1 : Int32) &&& 31) 1 2 (by decide) (by decide)
      have es : ((w0.1 8 0) + ((w0.1 15 (4 * t.toInt.toNat + j.toInt.toNat)) >>> ((1 : Int32) &&& 31))).toInt = tC w0 + (w0.1 15 (4 * t.toInt.toNat + j.toInt.toNat)).toInt / 2 := ti_add2 rfl sh (by have := pg.1; unfold tC at *; omega) (by have := pg.1; unfold tC at *; omega)
      have pg1 := pg.1
      have B1 := B.1
      refine ⟨B.1, B.2.1, ih _ _ B.2.2 (by omega) (by omega) (oJ_s o _ _) (fun z y => ?_)⟩
      rw [sJ_if]
      by_cases qz : z = x.toInt.toNat
      · rw [if_pos qz, lb_or, Bool.or_eq_true, lb_set (by omega) (by omega), decide_eq_true_iff, ← qz, inv z y]
        constructor
        · intro q
          rcases q with (q | ⟨q1, i, hi, q2⟩) | q
          · exact Or.inl q
          · exact Or.inr ⟨q1, i, by omega, q2⟩
          · exact Or.inr ⟨by omega, j.toInt.toNat, by omega, by omega, bt', by omega, by omega⟩
        · intro q
          rcases q with q | ⟨q1, i, hi, q2, q3, q4, q5⟩
          · exact Or.inl (Or.inl q)
          · by_cases qq : (i : Int) = j.toInt
            · rw [show i = j.toInt.toNat by omega] at q5
              exact Or.inr (by omega)
            · exact Or.inl (Or.inr ⟨q1, i, by omega, q2, q3, q4, q5⟩)
      · rw [if_neg qz, inv z y]
        constructor
        · intro q
          rcases q with q | ⟨q1, i, hi, q2⟩
          · exact Or.inl q
          · exact Or.inr ⟨q1, i, by omega, q2⟩
        · intro q
          rcases q with q | ⟨q1, _⟩
          · exact Or.inl q
          · omega
/-- no thing passes from a port to itself -/
def dgo (s : Int32) : Prop := ∀ a, a < 4 → mb s (4 * a + a) = false
theorem dgo_t : ∀ n, n < 100 → ∀ a, a < 4 → mb ((stT 1001).getD n 0) (4 * a + a) = false := by decide +kernel
theorem dgo_0 : dgo 0 := by
  intro a _
  show (0#32).getLsbD (4 * a + a) = false
  rw [BitVec.getLsbD_zero]
/-- the ports of a thing are the ends at it -/
theorem epn_e {w : MW} {v ps : Int32} {e : Nat} {z y : Nat} {op : Int32} {x : Int} (hx : PX w) (P0 : 0 ≤ pC w) (P1 : pC w ≤ 24) (T1 : tC w ≤ 20) (he : (e : Int) < 2 * pC w) (a0 : 0 ≤ atC w e) (nt : ¬ tkC w (atC w e)) (ex : x = tC w + (e : Int) / 2) (eo : ∀ j, j < 4 → mb op j = mb (sgC w v ps (atC w e)) (4 * poC w e + j)) (dg : dgo (sgC w v ps (atC w e))) : Epn w (atC w e) op x 4 z y ↔ (z : Int) = tC w + (e : Int) / 2 ∧ ∃ g : Nat, (g : Int) < 2 * pC w ∧ atC w g = atC w e ∧ ¬ g = e ∧ psC w v ps e g ∧ (y : Int) = tC w + (g : Int) / 2 := by
  have at1 := (hx.1 e he).1
  have pe := ((hx.1 e he).2 a0 nt).1
  constructor
  · intro h
    obtain ⟨h1, j, _, j4, h2, h3, h4⟩ := h
    have pg := hx.2 (atC w e).toNat j (by omega) j4 h3
    have psj : psC w v ps e (w.1 15 (4 * (atC w e).toNat + j)).toInt.toNat := by
      unfold psC
      rw [pg.2.2, ← eo j j4]
      exact h2
    refine ⟨by omega, (w.1 15 (4 * (atC w e).toNat + j)).toInt.toNat, by have := pg.1; omega, by have := pg.2.1; omega, fun q => ?_, psj, by omega⟩
    have q2 := pg.2.2
    rw [q] at q2
    have q3 := dg (poC w e) pe
    rw [← q2, eo (poC w e) pe, q3] at h2
    cases h2
  · intro h
    obtain ⟨h1, g, hg, h2, h3, h4, h5⟩ := h
    have gg := (hx.1 g hg).2 (by omega) (by rw [h2]; exact nt)
    have pg := gg.1
    have e15 := gg.2
    rw [h2] at e15
    have ng : (nI g).toInt = (g : Int) := nI_toInt (by omega)
    refine ⟨by omega, poC w g, by omega, pg, ?_, ?_, ?_⟩
    · rw [eo _ pg]
      exact h4
    · rw [e15]
      omega
    · rw [e15, ng]
      exact h5
theorem ln_19 {w0 : MW} {v ps : Int32} {E E' : MW → Prop} {Q Q' : MW → Prop} (hx : PX w0) (T0 : 0 ≤ tC w0) (T1 : tC w0 ≤ 20) (P0 : 0 ≤ pC w0) (P1 : pC w0 ≤ 24) (dp : dgo ps) (hk : ∀ t : Nat, (t : Int) < tC w0 → 0 ≤ (w0.1 9 t).toInt ∧ (w0.1 9 t).toInt ≤ 9) (hp : ∀ t : Nat, (t : Int) < tC w0 → 0 ≤ (w0.1 16 t).toInt ∧ (w0.1 16 t).toInt ≤ 9) (h14 : ∀ e : Nat, 0 ≤ (w0.1 14 e).toInt ∧ (w0.1 14 e).toInt ≤ 3) (k : ∀ w', oJ 46 w0 w' → (∀ z y : Nat, z < 44 → (lb (w'.2.1 46 z) y = true ↔ EdC w0 v ps z y)) → E w' → E' w') : ∀ (m : Nat) (e : Int32) (w : MW), q_Sf_link_19 v ps E Q m e w → 0 ≤ e.toInt → e.toInt ≤ 2 * pC w0 → oJ 46 w0 w → (∀ z y : Nat, z < 44 → (lb (w.2.1 46 z) y = true ↔ Edb (tC w0) (pC w0) (atC w0) (tkC w0) (psC w0 v ps) e.toInt z y)) → q_Sf_link_19 v ps E' Q' m e w := by
  intro m
  induction m with
  | zero => exact fun _ _ h _ _ _ _ => False.elim h
  | succ m ih =>
    intro e w h e0 eP o inv
    have ow := o.1
    have e2P : ((2 : Int32) * (w0.1 8 1)).toInt = 2 * pC w0 := ti_mul2 (by decide) rfl (by unfold pC at *; omega) (by unfold pC at *; omega)
    have ee := ti_add2 (Eq.refl e.toInt) i_1 (by omega) (by omega)
    have he2 := nb_shr e ((1 : Int32) &&& 31) 1 2 (by decide) (by decide)
    have es : ((w0.1 8 0) + (e >>> ((1 : Int32) &&& 31))).toInt = tC w0 + e.toInt / 2 := ti_add2 rfl he2 (by unfold tC at *; omega) (by unfold tC at *; omega)
    have nn : ((e.toInt.toNat : Nat) : Int) = e.toInt := by omega
    have sk : (∀ z y : Nat, ¬ Edc (tC w0) (pC w0) (atC w0) (tkC w0) (psC w0 v ps) e.toInt.toNat z y) → ∀ z y : Nat, z < 44 → (lb (w.2.1 46 z) y = true ↔ Edb (tC w0) (pC w0) (atC w0) (tkC w0) (psC w0 v ps) (e + (1 : Int32)).toInt z y) := fun n z y hz => by
      rw [inv z y hz, ee, edb_s e0]
      exact ⟨fun q => Or.inl q, fun q => q.elim id (fun q => absurd q (n z y))⟩
    have thing : 0 ≤ atC w0 e.toInt.toNat → ¬ tkC w0 (atC w0 e.toInt.toNat) → e.toInt < 2 * pC w0 → q_Sf_link_98 v ps e (w0.1 13 e.toInt.toNat) ((w0.1 8 0) + (e >>> ((1 : Int32) &&& 31))) w (fun (x19_4 : Int32) (w : MW) => q_Sf_link_19 v ps E Q m x19_4 w) E Q → q_Sf_link_98 v ps e (w0.1 13 e.toInt.toNat) ((w0.1 8 0) + (e >>> ((1 : Int32) &&& 31))) w (fun (x19_4 : Int32) (w : MW) => q_Sf_link_19 v ps E' Q' m x19_4 w) E' Q' := fun a0 nt eb g => by
      have at1 := (hx.1 e.toInt.toNat (by omega)).1
      have ea : (w0.1 13 e.toInt.toNat).toInt = atC w0 e.toInt.toNat := rfl
      have k9 := hk (atC w0 e.toInt.toNat).toNat (by omega)
      have k16 := hp (atC w0 e.toInt.toNat).toNat (by omega)
      have k14 := h14 e.toInt.toNat
      have m1 := ti_mul2 (Eq.refl (w0.1 9 (atC w0 e.toInt.toNat).toNat).toInt) (by decide : ((10 : Int32)).toInt = 10) (by omega) (by omega)
      have m2 := ti_add2 m1 (Eq.refl (w0.1 16 (atC w0 e.toInt.toNat).toNat).toInt) (by omega) (by omega)
      have body : ∀ s : Int32, s = sgC w0 v ps (atC w0 e.toInt.toNat) → dgo s → q_Sf_link_142 v ps e (w0.1 13 e.toInt.toNat) ((w0.1 8 0) + (e >>> ((1 : Int32) &&& 31))) s w (fun (x19_4 : Int32) (w : MW) => q_Sf_link_19 v ps E Q m x19_4 w) E Q → q_Sf_link_142 v ps e (w0.1 13 e.toInt.toNat) ((w0.1 8 0) + (e >>> ((1 : Int32) &&& 31))) s w (fun (x19_4 : Int32) (w : MW) => q_Sf_link_19 v ps E' Q' m x19_4 w) E' Q' := fun s hs ds r => by
        rw [q_Sf_link_142.eq_1, ow] at r ⊢
        refine ⟨r.1, ln_160 (w0 := w0) (by omega) (by omega) T1 P1 hx o (fun w' o' b' g' => ih _ _ g' (by omega) (by omega) (oJ_t o o') (fun z y hz => ?_)) _ _ _ r.2 (by decide) (by decide) (oJ_r _ _) (fun z y => ⟨fun q => Or.inl q, fun q => ?_⟩)⟩
        · have eo : ∀ j, j < 4 → mb ((s >>> (((4 : Int32) * (w0.1 14 e.toInt.toNat)) &&& 31)) &&& (15 : Int32)) j = mb (sgC w0 v ps (atC w0 e.toInt.toNat)) (4 * poC w0 e.toInt.toNat + j) := fun j hj => by
            rw [op_b s k14.1 (by omega) hj, hs]
            rfl
          have ep := epn_e (v := v) (ps := ps) (z := z) (y := y) (x := ((w0.1 8 0) + (e >>> ((1 : Int32) &&& 31))).toInt) hx P0 P1 T1 (show ((e.toInt.toNat : Nat) : Int) < 2 * pC w0 by omega) a0 nt (by omega) eo (by rw [← hs]; exact ds)
          rw [b' z y, inv z y hz, ee, edb_s e0, ea, ep]
          constructor
          · intro q
            rcases q with q | q
            · exact Or.inl q
            · exact Or.inr ⟨a0, Or.inr ⟨nt, q⟩⟩
          · intro q
            rcases q with q | ⟨_, ⟨q, _⟩ | ⟨_, q⟩⟩
            · exact Or.inl q
            · exact absurd q nt
            · exact Or.inr q
        · rcases q with q | ⟨_, i, hi, _⟩
          · exact q
          · rw [i_0] at hi
            omega
      rw [q_Sf_link_98.eq_1, ow] at g ⊢
      refine ⟨fun z => by omega, fun z => ?_⟩
      have G := g.2 z
      refine ⟨G.1, G.2.1, G.2.2.1, fun d => body _ ?_ ?_ (G.2.2.2.1 d), fun d => body _ ?_ ?_ (G.2.2.2.2 d)⟩
      · unfold sgC
        rw [if_neg (show ¬ atC w0 e.toInt.toNat = v.toInt from d)]
        rfl
      · exact dgo_t _ (by have := G.2.2.1; omega)
      · unfold sgC
        rw [if_pos (show atC w0 e.toInt.toNat = v.toInt from Classical.not_not.mp d)]
      · exact dp
    rw [q_Sf_link_19.eq_2, ow] at h ⊢
    refine ⟨fun c => k w o (fun z y hz => ?_) (h.1 c), fun c => ⟨(h.2 c).1, fun d => ?_, fun d => ⟨((h.2 c).2.2 d).1, fun d2 => ?_, fun d2 => ?_⟩⟩⟩
    · rw [inv z y hz]
      unfold EdC Edg Edb
      rw [show e.toInt = 2 * pC w0 by omega]
    · have H := (h.2 c).2.1 d
      rw [q_Sf_link_98.eq_1] at H ⊢
      refine ⟨fun z => ih _ _ (H.1 z) (by omega) (by omega) o (sk (fun z y q => ?_)), fun z => absurd d z⟩
      have := q.1
      unfold atC at this
      omega
    · exact thing (by unfold atC; omega) d2 (by omega) (((h.2 c).2.2 d).2.1 d2)
    · have H := ((h.2 c).2.2 d).2.2 d2
      have d2' := Classical.not_not.mp d2
      have a0 : 0 ≤ atC w0 e.toInt.toNat := by unfold atC; omega
      have a1 : atC w0 e.toInt.toNat < 44 := by have := H.1; unfold atC; omega
      have aN : ((w0.1 13 e.toInt.toNat).toInt.toNat : Int) = atC w0 e.toInt.toNat := by unfold atC; omega
      refine ⟨H.1, H.2.1, H.2.2.1, H.2.2.2.1, ih _ _ H.2.2.2.2 (by omega) (by omega) (oJ_s (oJ_s o _ _) _ _) (fun z y hz => ?_)⟩
      rw [ee, edb_s e0, ← inv z y hz]
      have L1 := lb_set (a := w0.1 13 e.toInt.toNat) (by unfold atC at a0; exact a0) (by unfold atC at a1; omega) y
      have L2 := lb_set (a := (w0.1 8 0) + (e >>> ((1 : Int32) &&& 31))) (by omega) (by omega) y
      have X : Edc (tC w0) (pC w0) (atC w0) (tkC w0) (psC w0 v ps) e.toInt.toNat z y ↔ (((z : Int) = tC w0 + e.toInt / 2 ∧ (y : Int) = atC w0 e.toInt.toNat) ∨ ((z : Int) = atC w0 e.toInt.toNat ∧ (y : Int) = tC w0 + e.toInt / 2)) := by
        constructor
        · intro q
          rcases q with ⟨_, ⟨_, q⟩ | ⟨q, _⟩⟩
          · rw [nn] at q
            exact q
          · exact absurd d2' q
        · intro q
          refine ⟨a0, Or.inl ⟨d2', ?_⟩⟩
          rw [nn]
          exact q
      rw [X, sJ_if, sJ_if, sJ_if]
      by_cases z1 : z = ((w0.1 8 0) + (e >>> ((1 : Int32) &&& 31))).toInt.toNat
      · rw [if_pos z1]
        by_cases z2 : ((w0.1 8 0) + (e >>> ((1 : Int32) &&& 31))).toInt.toNat = (w0.1 13 e.toInt.toNat).toInt.toNat
        · rw [if_pos z2, lb_or, lb_or, L1, L2, Bool.or_eq_true, Bool.or_eq_true, decide_eq_true_iff, decide_eq_true_iff, ← z2, ← z1]
          constructor
          · intro q
            rcases q with (q | q) | q
            · exact Or.inl q
            · exact Or.inr (Or.inr ⟨by omega, by omega⟩)
            · exact Or.inr (Or.inl ⟨by omega, by omega⟩)
          · intro q
            rcases q with q | q | q
            · exact Or.inl (Or.inl q)
            · exact Or.inr (by omega)
            · exact Or.inl (Or.inr (by omega))
        · rw [if_neg z2, lb_or, L1, Bool.or_eq_true, decide_eq_true_iff, ← z1]
          constructor
          · intro q
            rcases q with q | q
            · exact Or.inl q
            · exact Or.inr (Or.inl ⟨by omega, by omega⟩)
          · intro q
            rcases q with q | q | q
            · exact Or.inl q
            · exact Or.inr (by omega)
            · omega
      · rw [if_neg z1]
        by_cases z2 : z = (w0.1 13 e.toInt.toNat).toInt.toNat
        · rw [if_pos z2, lb_or, L2, Bool.or_eq_true, decide_eq_true_iff, ← z2]
          constructor
          · intro q
            rcases q with q | q
            · exact Or.inl q
            · exact Or.inr (Or.inr ⟨by omega, by omega⟩)
          · intro q
            rcases q with q | q | q
            · exact Or.inl q
            · omega
            · exact Or.inr (by omega)
        · rw [if_neg z2]
          constructor
          · intro q
            exact Or.inl q
          · intro q
            rcases q with q | q | q
            · exact q
            · omega
            · omega
theorem f46 {w0 : MW} {v : Int64} {E E' Q Q' : MW → Prop} (k : ∀ w', oJ 46 w0 w' → (∀ j, j < 44 → w'.2.1 46 j = v) → E w' → E' w') : ∀ (m : Nat) (i : Int32) (w : MW), q_Ar_fill1_46_6 v 44 E Q m i w → 0 ≤ i.toInt → oJ 46 w0 w → (∀ j : Nat, (j : Int) < i.toInt → w.2.1 46 j = v) → q_Ar_fill1_46_6 v 44 E' Q' m i w := by
  intro m
  induction m with
  | zero => exact fun _ _ h _ _ _ => False.elim h
  | succ m ih =>
    intro i w h i0 o inv
    have e44 : (44 : Int32).toInt = 44 := by decide
    rw [q_Ar_fill1_46_6.eq_2] at h ⊢
    refine ⟨fun c => k w o (fun j hj => inv j (by omega)) (h.1 c), fun c => ⟨(h.2 c).1, ?_⟩⟩
    have e := ti_add2 (Eq.refl i.toInt) i_1 (by omega) (by omega)
    refine ih _ _ (h.2 c).2 (by omega) (oJ_s o _ _) (fun j hj => ?_)
    rw [sJ_if]
    by_cases q : j = i.toInt.toNat
    · rw [if_pos q]
    · rw [if_neg q]
      exact inv j (by omega)
/-- link -/
theorem ln_x {w : MW} {v ps : Int32} {Q Q' : MW → Prop} (h : p_Sf_link w v ps Q) (hx : PX w) (T0 : 0 ≤ tC w) (T1 : tC w ≤ 20) (P0 : 0 ≤ pC w) (P1 : pC w ≤ 24) (dp : dgo ps) (hk : ∀ t : Nat, (t : Int) < tC w → 0 ≤ (w.1 9 t).toInt ∧ (w.1 9 t).toInt ≤ 9) (hp : ∀ t : Nat, (t : Int) < tC w → 0 ≤ (w.1 16 t).toInt ∧ (w.1 16 t).toInt ≤ 9) (h14 : ∀ e : Nat, 0 ≤ (w.1 14 e).toInt ∧ (w.1 14 e).toInt ≤ 3) (k : ∀ w', oJ 46 w w' → (∀ z y : Nat, z < 44 → (lb (w'.2.1 46 z) y = true ↔ EdC w v ps z y)) → Q w' → Q' w') : p_Sf_link w v ps Q' := by
  rw [p_Sf_link.eq_1, p_Ar_fill1_46.eq_1] at h ⊢
  refine ⟨h.1, f46 (fun w1 o1 z1 g1 => ?_) _ _ _ h.2 (by decide) (oJ_r _ _) (fun j hj => by rw [i_0] at hj; omega)⟩
  refine ln_19 hx T0 T1 P0 P1 dp hk hp h14 (fun w' o' b' g' => k w' o' b' g') _ _ _ g1 (by decide) (by rw [i_0]; omega) o1 (fun z y hz => ?_)
  rw [z1 z hz, lb_0]
  constructor
  · intro q
    cases q
  · intro q
    obtain ⟨e, he, _⟩ := q
    rw [i_0] at he
    omega
