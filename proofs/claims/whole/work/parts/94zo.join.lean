/-! what a thing passes, by the reference, and its join -/
def f_Mo_passes_122 (y122_1 : Int32) (y122_4 : Int32) (y122_5 : Int32) : Int32 := (if ¬ y122_1.toInt = 1 then (if ¬ y122_1.toInt = 3 then 0 else (if ¬ y122_4.toInt = 1 then 0 else 1)) else (if y122_5.toInt = 2 then 1 else (if ¬ y122_1.toInt = 3 then 0 else (if ¬ y122_4.toInt = 1 then 0 else 1))))
theorem ft_Mo_passes_122 (y122_1 : Int32) (y122_4 : Int32) (y122_5 : Int32) (w : MW) (Q : Int32 → MW → Prop) : q_Mo_passes_122 y122_1 y122_4 y122_5 w Q ↔ Q (f_Mo_passes_122 y122_1 y122_4 y122_5) w := by
  rw [q_Mo_passes_122.eq_1]
  exact (pif (P := fun r => Q r w) (pif (P := fun r => Q r w) Iff.rfl (pif (P := fun r => Q r w) Iff.rfl Iff.rfl)) (pif (P := fun r => Q r w) Iff.rfl (pif (P := fun r => Q r w) Iff.rfl (pif (P := fun r => Q r w) Iff.rfl Iff.rfl))))
def f_Mo_passes_166 (y166_1 : Int32) (y166_4 : Int32) (y166_5 : Int32) : Int32 := (if ¬ y166_1.toInt = 2 then (if ¬ y166_1.toInt = 3 then 0 else (if ¬ y166_4.toInt = 1 then 0 else 1)) else (if ¬ y166_4.toInt = 0 then (if ¬ y166_1.toInt = 3 then 0 else (if ¬ y166_4.toInt = 1 then 0 else 1)) else (if y166_5.toInt = 2 then 1 else (if ¬ y166_1.toInt = 3 then 0 else (if ¬ y166_4.toInt = 1 then 0 else 1)))))
theorem ft_Mo_passes_166 (y166_1 : Int32) (y166_4 : Int32) (y166_5 : Int32) (w : MW) (Q : Int32 → MW → Prop) : q_Mo_passes_166 y166_1 y166_4 y166_5 w Q ↔ Q (f_Mo_passes_166 y166_1 y166_4 y166_5) w := by
  rw [q_Mo_passes_166.eq_1]
  exact (pif (P := fun r => Q r w) (pif (P := fun r => Q r w) Iff.rfl (pif (P := fun r => Q r w) Iff.rfl Iff.rfl)) (pif (P := fun r => Q r w) (pif (P := fun r => Q r w) Iff.rfl (pif (P := fun r => Q r w) Iff.rfl Iff.rfl)) (pif (P := fun r => Q r w) Iff.rfl (pif (P := fun r => Q r w) Iff.rfl (pif (P := fun r => Q r w) Iff.rfl Iff.rfl)))))
def f_Mo_passes_45 (y45_0 : Int32) (y45_1 : Int32) (y45_2 : Int32) (y45_4 : Int32) (y45_5 : Int32) (ys45_0 : Int32) : Int32 := (if y45_0.toInt = 0 then (if ¬ y45_1.toInt = 1 then 0 else 1) else (if y45_0.toInt = 1 then (if ¬ y45_4.toInt = 0 then (if ¬ y45_1.toInt = 3 then 0 else (if ¬ y45_4.toInt = 1 then 0 else 1)) else (if ¬ y45_1.toInt = 0 then (f_Mo_passes_122 y45_1 y45_4 y45_5) else (if y45_5.toInt = 1 then 1 else (f_Mo_passes_122 y45_1 y45_4 y45_5)))) else (if y45_0.toInt = 2 then (if y45_1.toInt = 4 then 1 else (if ¬ y45_1.toInt = 1 then (f_Mo_passes_166 y45_1 y45_4 y45_5) else (if y45_5.toInt = 1 then 1 else (f_Mo_passes_166 y45_1 y45_4 y45_5)))) else (if y45_0.toInt = 3 then (if ¬ y45_2.toInt = 0 then 0 else 1) else (if y45_0.toInt = 4 then (if ¬ y45_1.toInt = 0 then (if ¬ y45_1.toInt = 1 then 0 else 1) else (if ¬ ys45_0.toInt = 0 then 1 else (if ¬ y45_1.toInt = 1 then 0 else 1))) else (if y45_0.toInt = 5 then 0 else (if y45_0.toInt = 6 then (if y45_1.toInt ≤ 0 then 0 else 1) else (if y45_0.toInt = 7 then (if ¬ y45_1.toInt = 1 then 0 else (if ¬ y45_2.toInt = 0 then 0 else 1)) else 0))))))))
theorem ft_Mo_passes_45 (y45_0 : Int32) (y45_1 : Int32) (y45_2 : Int32) (y45_4 : Int32) (y45_5 : Int32) (ys45_0 : Int32) (w : MW) (Q : Int32 → MW → Prop) : q_Mo_passes_45 y45_0 y45_1 y45_2 y45_4 y45_5 ys45_0 w Q ↔ Q (f_Mo_passes_45 y45_0 y45_1 y45_2 y45_4 y45_5 ys45_0) w := by
  rw [q_Mo_passes_45.eq_1]
  exact (pif (P := fun r => Q r w) (pif (P := fun r => Q r w) Iff.rfl Iff.rfl) (pif (P := fun r => Q r w) (pif (P := fun r => Q r w) (pif (P := fun r => Q r w) Iff.rfl (pif (P := fun r => Q r w) Iff.rfl Iff.rfl)) (pif (P := fun r => Q r w) (ft_Mo_passes_122 _ _ _ _ _) (pif (P := fun r => Q r w) Iff.rfl (ft_Mo_passes_122 _ _ _ _ _)))) (pif (P := fun r => Q r w) (pif (P := fun r => Q r w) Iff.rfl (pif (P := fun r => Q r w) (ft_Mo_passes_166 _ _ _ _ _) (pif (P := fun r => Q r w) Iff.rfl (ft_Mo_passes_166 _ _ _ _ _)))) (pif (P := fun r => Q r w) (pif (P := fun r => Q r w) Iff.rfl Iff.rfl) (pif (P := fun r => Q r w) (pif (P := fun r => Q r w) (pif (P := fun r => Q r w) Iff.rfl Iff.rfl) (pif (P := fun r => Q r w) Iff.rfl (pif (P := fun r => Q r w) Iff.rfl Iff.rfl))) (pif (P := fun r => Q r w) Iff.rfl (pif (P := fun r => Q r w) (pif (P := fun r => Q r w) Iff.rfl Iff.rfl) (pif (P := fun r => Q r w) (pif (P := fun r => Q r w) Iff.rfl (pif (P := fun r => Q r w) Iff.rfl Iff.rfl)) Iff.rfl))))))))
def f_Mo_passes_22 (y22_0 : Int32) (y22_1 : Int32) (y22_2 : Int32) (y22_4 : Int32) (ys22_0 : Int32) : Int32 := (if ¬ ys22_0.toInt = (y22_4 + (1 : Int32)).toInt then (f_Mo_passes_45 y22_0 y22_1 y22_2 y22_4 ys22_0 0) else (if ¬ (y22_4 - y22_4 / (2 : Int32) * (2 : Int32)).toInt = 0 then (f_Mo_passes_45 y22_0 y22_1 y22_2 y22_4 ys22_0 0) else (f_Mo_passes_45 y22_0 y22_1 y22_2 y22_4 ys22_0 1)))
theorem ft_Mo_passes_22 (y22_0 : Int32) (y22_1 : Int32) (y22_2 : Int32) (y22_4 : Int32) (ys22_0 : Int32) (w : MW) (Q : Int32 → MW → Prop) : q_Mo_passes_22 y22_0 y22_1 y22_2 y22_4 ys22_0 w Q ↔ Q (f_Mo_passes_22 y22_0 y22_1 y22_2 y22_4 ys22_0) w := by
  rw [q_Mo_passes_22.eq_1]
  exact (pif (P := fun r => Q r w) (ft_Mo_passes_45 _ _ _ _ _ _ _ _) (pif (P := fun r => Q r w) (ft_Mo_passes_45 _ _ _ _ _ _ _ _) (ft_Mo_passes_45 _ _ _ _ _ _ _ _)))
def f_Mo_passes (a0 : Int32) (b0 : Int32) (c0 : Int32) (e0 : Int32) : Int32 := (if e0.toInt ≤ c0.toInt then (f_Mo_passes_22 a0 b0 c0 e0 c0) else (f_Mo_passes_22 a0 b0 c0 c0 e0))
theorem ft_Mo_passes (a0 : Int32) (b0 : Int32) (c0 : Int32) (e0 : Int32) (w : MW) (Q : Int32 → MW → Prop) : p_Mo_passes w a0 b0 c0 e0 Q ↔ Q (f_Mo_passes a0 b0 c0 e0) w := by
  rw [p_Mo_passes.eq_1]
  exact (pif (P := fun r => Q r w) (ft_Mo_passes_22 _ _ _ _ _ _ _) (ft_Mo_passes_22 _ _ _ _ _ _ _))
/-- edges that end e of a pipe gives: T things, at' what stands at an end, tk the tanks, ps what is passed from end e to end g -/
def Edc (T P : Int) (at' : Nat → Int) (tk : Int → Prop) (ps : Nat → Nat → Prop) (e z y : Nat) : Prop := 0 ≤ at' e ∧ ((tk (at' e) ∧ (((z : Int) = T + e / 2 ∧ (y : Int) = at' e) ∨ ((z : Int) = at' e ∧ (y : Int) = T + e / 2))) ∨ (¬ tk (at' e) ∧ (z : Int) = T + e / 2 ∧ ∃ g : Nat, (g : Int) < 2 * P ∧ at' g = at' e ∧ ¬ g = e ∧ ps e g ∧ (y : Int) = T + g / 2))
def Edg (T P : Int) (at' : Nat → Int) (tk : Int → Prop) (ps : Nat → Nat → Prop) (z y : Nat) : Prop := ∃ e : Nat, (e : Int) < 2 * P ∧ Edc T P at' tk ps e z y
/-- the reference's -/
def atM (w : MW) (e : Nat) : Int := (w.1 170 e).toInt
def tkM (w : MW) (t : Int) : Prop := (w.1 163 t.toNat).toInt = 0
def psM (w : MW) (e g : Nat) : Prop := ((w.1 163 (atM w e).toNat).toInt = 1 ∧ (w.1 171 e).toInt = 0) ∨ (¬ (w.1 163 (atM w e).toNat).toInt = 1 ∧ ¬ (f_Mo_passes ((w.1 163 (atM w e).toNat) - (2 : Int32)) (w.1 167 (atM w e).toNat) (w.1 171 e) (w.1 171 g)).toInt = 0)
def tM (w : MW) : Int := (w.1 127 4).toInt
def pM (w : MW) : Int := (w.1 127 11).toInt
def EdM (w : MW) : Nat → Nat → Prop := Edg (tM w) (pM w) (atM w) (tkM w) (psM w)
/-- a world that differs in longs alone, of cell c -/
def oJ (c : Nat) (w0 w : MW) : Prop := w.1 = w0.1 ∧ w.2.2 = w0.2.2 ∧ ∀ k j, ¬ k = c → w.2.1 k j = w0.2.1 k j
theorem oJ_r (c : Nat) (w : MW) : oJ c w w := ⟨rfl, rfl, fun _ _ _ => rfl⟩
theorem oJ_s {c : Nat} {w0 w : MW} (h : oJ c w0 w) (j : Nat) (v : Int64) : oJ c w0 (sJ w c j v) := ⟨h.1, h.2.1, fun k i hk => by
  rw [sJ_at, if_neg (fun q => hk q.1)]
  exact h.2.2 k i hk⟩
theorem oJ_t {c : Nat} {w0 w w' : MW} (h : oJ c w0 w) (h' : oJ c w w') : oJ c w0 w' := ⟨h'.1.trans h.1, h'.2.1.trans h.2.1, fun k j hk => (h'.2.2 k j hk).trans (h.2.2 k j hk)⟩
theorem jn_2 {w0 : MW} {E E' : MW → Prop} {Q Q' : MW → Prop} (n44 : nsp w0 ≤ 44) (k : ∀ w', oJ 195 w0 w' → (∀ z : Nat, (z : Int) < nsp w0 → w'.2.1 195 z = 0) → E w' → E' w') : ∀ (m : Nat) (x : Int32) (w : MW), q_Mo_join_2 E Q m x w → 0 ≤ x.toInt → oJ 195 w0 w → (∀ z : Nat, (z : Int) < x.toInt → w.2.1 195 z = 0) → q_Mo_join_2 E' Q' m x w := by
  intro m
  induction m with
  | zero => exact fun _ _ h _ _ _ => False.elim h
  | succ m ih =>
    intro x w h x0 o inv
    rw [q_Mo_join_2.eq_2, o.1] at h ⊢
    refine ⟨fun c => k w o (fun z hz => inv z (by unfold nsp at hz; omega)) (h.1 c), fun c => ?_⟩
    have g := h.2 c
    have g1 := g.1
    have e := ti_add2 (Eq.refl x.toInt) i_1 (by omega) (by omega)
    refine ⟨g.1, ih _ _ g.2 (by omega) (oJ_s o _ _) (fun z hz => ?_)⟩
    rw [sJ_if]
    by_cases q : z = x.toInt.toNat
    · rw [if_pos q]
    · rw [if_neg q]
      exact inv z (by omega)
/-- what the ends below b of the things at end e give -/
def Edn (T P : Int) (at' : Nat → Int) (ps : Nat → Nat → Prop) (e : Nat) (b : Int) (z y : Nat) : Prop := (z : Int) = T + e / 2 ∧ ∃ g : Nat, (g : Int) < b ∧ (g : Int) < 2 * P ∧ at' g = at' e ∧ ¬ g = e ∧ ps e g ∧ (y : Int) = T + g / 2
theorem jn_96 {w0 w1 : MW} {e t x : Int32} {E E' : MW → Prop} {Q Q' : MW → Prop} (e0 : 0 ≤ e.toInt) (et : t = w0.1 170 e.toInt.toNat) (ex : x.toInt = tM w0 + e.toInt / 2) (T0 : 0 ≤ tM w0) (T1 : tM w0 ≤ 20) (P0 : 0 ≤ pM w0) (P1 : pM w0 ≤ 24) (k : ∀ w', oJ 195 w1 w' → (∀ z y : Nat, lb (w'.2.1 195 z) y = true ↔ lb (w1.2.1 195 z) y = true ∨ (0 ≤ atM w0 e.toInt.toNat ∧ ¬ tkM w0 (atM w0 e.toInt.toNat) ∧ Edn (tM w0) (pM w0) (atM w0) (psM w0) e.toInt.toNat (2 * pM w0) z y)) → E w' → E' w') (o1 : oJ 195 w0 w1) : ∀ (m : Nat) (g : Int32) (w : MW), q_Mo_join_96 e t x E Q m g w → 0 ≤ g.toInt → g.toInt ≤ 2 * pM w0 → oJ 195 w1 w → (g.toInt = 0 ∨ (0 ≤ atM w0 e.toInt.toNat ∧ ¬ tkM w0 (atM w0 e.toInt.toNat))) → (∀ z y : Nat, lb (w.2.1 195 z) y = true ↔ lb (w1.2.1 195 z) y = true ∨ Edn (tM w0) (pM w0) (atM w0) (psM w0) e.toInt.toNat g.toInt z y) → q_Mo_join_96 e t x E' Q' m g w := by
  intro m
  induction m with
  | zero => exact fun _ _ h _ _ _ _ _ => False.elim h
  | succ m ih =>
    intro g w h g0 gP o st inv
    have ow := (oJ_t o1 o).1
    have eP : ((2 : Int32) * (w0.1 127 11)).toInt = 2 * pM w0 := ti_mul2 (by decide) rfl (by omega) (by omega)
    have fin0 : (g.toInt = 0 ∧ ¬ (0 ≤ atM w0 e.toInt.toNat ∧ ¬ tkM w0 (atM w0 e.toInt.toNat))) ∨ g.toInt = 2 * pM w0 → ∀ z y : Nat, lb (w.2.1 195 z) y = true ↔ lb (w1.2.1 195 z) y = true ∨ (0 ≤ atM w0 e.toInt.toNat ∧ ¬ tkM w0 (atM w0 e.toInt.toNat) ∧ Edn (tM w0) (pM w0) (atM w0) (psM w0) e.toInt.toNat (2 * pM w0) z y) := fun q z y => by
      rw [inv z y]
      constructor
      · intro r
        rcases r with r | r
        · exact Or.inl r
        · rcases st with s | s
          · obtain ⟨_, gg, hg, _⟩ := r
            omega
          · rcases q with q | q
            · exact absurd s q.2
            · rw [q] at r
              exact Or.inr ⟨s.1, s.2, r⟩
      · intro r
        rcases r with r | r
        · exact Or.inl r
        · rcases q with q | q
          · exact absurd ⟨r.1, r.2.1⟩ q.2
          · rw [q]
            exact Or.inr r.2.2
    rw [q_Mo_join_96.eq_2, ow] at h ⊢
    refine ⟨fun c => k w o (fin0 (Or.inr (by omega))) (h.1 c), fun c => ⟨fun d => ?_, fun d => ⟨((h.2 c).2 d).1, fun d2 => ?_, fun d2 => ?_⟩⟩⟩
    · refine k w o (fin0 ?_) ((h.2 c).1 d)
      rw [et] at d
      have dn : ¬ (0 ≤ atM w0 e.toInt.toNat ∧ ¬ tkM w0 (atM w0 e.toInt.toNat)) := fun s => by
        have := s.1
        unfold atM at this
        omega
      rcases st with s | s
      · exact Or.inl ⟨s, dn⟩
      · exact absurd s dn
    · refine k w o (fin0 ?_) (((h.2 c).2 d).2.1 d2)
      rw [et] at d2
      have dn : ¬ (0 ≤ atM w0 e.toInt.toNat ∧ ¬ tkM w0 (atM w0 e.toInt.toNat)) := fun s => s.2 d2
      rcases st with s | s
      · exact Or.inl ⟨s, dn⟩
      · exact absurd s dn
    · have H := ((h.2 c).2 d).2.2 d2
      have H1 := H.1
      have ee := ti_add2 (Eq.refl g.toInt) i_1 (by omega) (by omega)
      have at0 : 0 ≤ atM w0 e.toInt.toNat := by
        unfold atM
        rw [← et]
        omega
      have tk0 : ¬ tkM w0 (atM w0 e.toInt.toNat) := by
        unfold tkM atM
        rw [← et]
        exact d2
      have st2 : (g + (1 : Int32)).toInt = 0 ∨ (0 ≤ atM w0 e.toInt.toNat ∧ ¬ tkM w0 (atM w0 e.toInt.toNat)) := Or.inr ⟨at0, tk0⟩
      have no : (¬ atM w0 g.toInt.toNat = atM w0 e.toInt.toNat ∨ g.toInt.toNat = e.toInt.toNat ∨ ¬ psM w0 e.toInt.toNat g.toInt.toNat) → q_Mo_join_197 e t x g 0 w (fun (x96_4 : Int32) (w : MW) => q_Mo_join_96 e t x E Q m x96_4 w) E Q → q_Mo_join_197 e t x g 0 w (fun (x96_4 : Int32) (w : MW) => q_Mo_join_96 e t x E' Q' m x96_4 w) E' Q' := fun nn r => by
        rw [q_Mo_join_197.eq_1] at r ⊢
        refine ⟨fun z => ih _ _ (r.1 z) (by omega) (by omega) o st2 (fun z y => ?_), fun z => absurd i_0 z⟩
        rw [inv z y]
        constructor
        · intro q
          rcases q with q | ⟨q1, gg, hg, q2⟩
          · exact Or.inl q
          · exact Or.inr ⟨q1, gg, by omega, q2⟩
        · intro q
          rcases q with q | ⟨q1, gg, hg, q2, q3, q4, q5, q6⟩
          · exact Or.inl q
          · by_cases qq : (gg : Int) = g.toInt
            · have qz : gg = g.toInt.toNat := by omega
              rw [qz] at q3 q4 q5
              rcases nn with nn | nn | nn
              · exact absurd q3 nn
              · exact absurd nn q4
              · exact absurd q5 nn
            · exact Or.inr ⟨q1, gg, by omega, q2, q3, q4, q5, q6⟩
      have yes : atM w0 g.toInt.toNat = atM w0 e.toInt.toNat → ¬ g.toInt.toNat = e.toInt.toNat → psM w0 e.toInt.toNat g.toInt.toNat → q_Mo_join_197 e t x g 1 w (fun (x96_4 : Int32) (w : MW) => q_Mo_join_96 e t x E Q m x96_4 w) E Q → q_Mo_join_197 e t x g 1 w (fun (x96_4 : Int32) (w : MW) => q_Mo_join_96 e t x E' Q' m x96_4 w) E' Q' := fun y1 y2 y3 r => by
        rw [q_Mo_join_197.eq_1, ow] at r ⊢
        have R := r.2 (by decide)
        refine ⟨fun z => absurd z (by decide), fun z => ⟨R.1, R.2.1, ih _ _ R.2.2 (by omega) (by omega) (oJ_s o _ _) st2 (fun z y => ?_)⟩⟩
        have hg2 : (g / (2 : Int32)).toInt = g.toInt / 2 := nb_div g0 (by decide) (by decide)
        have es : ((w0.1 127 4) + (g / (2 : Int32))).toInt = tM w0 + g.toInt / 2 := ti_add2 rfl hg2 (by omega) (by omega)
        rw [sJ_if]
        by_cases qz : z = x.toInt.toNat
        · rw [if_pos qz, lb_or, Bool.or_eq_true, lb_set (by omega) (by omega), decide_eq_true_iff, ← qz, inv z y]
          constructor
          · intro q
            rcases q with (q | ⟨q1, gg, hg, q2⟩) | q
            · exact Or.inl q
            · exact Or.inr ⟨q1, gg, by omega, q2⟩
            · exact Or.inr ⟨by omega, g.toInt.toNat, by omega, by omega, y1, y2, y3, by omega⟩
          · intro q
            rcases q with q | ⟨q1, gg, hg, q2, q3, q4, q5, q6⟩
            · exact Or.inl (Or.inl q)
            · by_cases qq : (gg : Int) = g.toInt
              · exact Or.inr (by omega)
              · exact Or.inl (Or.inr ⟨q1, gg, by omega, q2, q3, q4, q5, q6⟩)
        · rw [if_neg qz, inv z y]
          constructor
          · intro q
            rcases q with q | ⟨q1, gg, hg, q2⟩
            · exact Or.inl q
            · exact Or.inr ⟨q1, gg, by omega, q2⟩
          · intro q
            rcases q with q | ⟨q1, _⟩
            · exact Or.inl q
            · omega
      have ae : atM w0 e.toInt.toNat = t.toInt := by
        unfold atM
        rw [← et]
      refine ⟨H.1, fun a => no (Or.inl ?_) (H.2.1 a), fun a => ⟨fun b => no (Or.inr (Or.inl (by omega))) ((H.2.2 a).1 b), fun b => ?_⟩⟩
      · rw [ae]
        exact a
      · have B := (H.2.2 a).2 b
        have a' := Classical.not_not.mp a
        have y1 : atM w0 g.toInt.toNat = atM w0 e.toInt.toNat := by
          rw [ae]
          exact a'
        have y2 : ¬ g.toInt.toNat = e.toInt.toNat := by omega
        refine ⟨B.1, fun c1 => ?_, fun c1 => ?_⟩
        · have C := B.2.1 c1
          refine ⟨C.1, C.2.1, C.2.2.1, C.2.2.2.1, ?_⟩
          have D := C.2.2.2.2
          rw [ft_Mo_passes] at D ⊢
          have pe : psM w0 e.toInt.toNat g.toInt.toNat ↔ ¬ (f_Mo_passes ((w0.1 163 t.toInt.toNat) - (2 : Int32)) (w0.1 167 t.toInt.toNat) (w0.1 171 e.toInt.toNat) (w0.1 171 g.toInt.toNat)).toInt = 0 := by
            unfold psM
            rw [ae]
            constructor
            · intro q
              rcases q with q | q
              · exact absurd q.1 c1
              · exact q.2
            · intro q
              exact Or.inr ⟨c1, q⟩
          exact ⟨fun z => no (Or.inr (Or.inr (fun q => pe.mp q z))) (D.1 z), fun z => yes y1 y2 (pe.mpr z) (D.2 z)⟩
        · have C := B.2.2 c1
          have c1' := Classical.not_not.mp c1
          have pe : psM w0 e.toInt.toNat g.toInt.toNat ↔ (w0.1 171 e.toInt.toNat).toInt = 0 := by
            unfold psM
            rw [ae]
            constructor
            · intro q
              rcases q with q | q
              · exact q.2
              · exact absurd c1' q.1
            · intro q
              exact Or.inl ⟨c1', q⟩
          exact ⟨C.1, fun z => no (Or.inr (Or.inr (fun q => z (pe.mp q)))) (C.2.1 z), fun z => yes y1 y2 (pe.mpr (Classical.not_not.mp z)) (C.2.2 z)⟩
/-- what the ends below b give -/
def Edb (T P : Int) (at' : Nat → Int) (tk : Int → Prop) (ps : Nat → Nat → Prop) (b : Int) (z y : Nat) : Prop := ∃ e : Nat, (e : Int) < b ∧ Edc T P at' tk ps e z y
theorem edb_s {T P : Int} {at' : Nat → Int} {tk : Int → Prop} {ps : Nat → Nat → Prop} {b : Int} {z y : Nat} (b0 : 0 ≤ b) : Edb T P at' tk ps (b + 1) z y ↔ Edb T P at' tk ps b z y ∨ Edc T P at' tk ps b.toNat z y := by
  constructor
  · intro h
    obtain ⟨e, he, c⟩ := h
    by_cases q : (e : Int) = b
    · rw [show e = b.toNat by omega] at c
      exact Or.inr c
    · exact Or.inl ⟨e, by omega, c⟩
  · intro h
    rcases h with ⟨e, he, c⟩ | c
    · exact ⟨e, by omega, c⟩
    · exact ⟨b.toNat, by omega, c⟩
theorem jn_30 {w0 : MW} {E E' : MW → Prop} {Q Q' : MW → Prop} (T0 : 0 ≤ tM w0) (T1 : tM w0 ≤ 20) (P0 : 0 ≤ pM w0) (P1 : pM w0 ≤ 24) (k : ∀ w', oJ 195 w0 w' → (∀ z y : Nat, (z : Int) < tM w0 + pM w0 → (lb (w'.2.1 195 z) y = true ↔ EdM w0 z y)) → E w' → E' w') : ∀ (m : Nat) (e : Int32) (w : MW), q_Mo_join_30 E Q m e w → 0 ≤ e.toInt → e.toInt ≤ 2 * pM w0 → oJ 195 w0 w → (∀ z y : Nat, (z : Int) < tM w0 + pM w0 → (lb (w.2.1 195 z) y = true ↔ Edb (tM w0) (pM w0) (atM w0) (tkM w0) (psM w0) e.toInt z y)) → q_Mo_join_30 E' Q' m e w := by
  intro m
  induction m with
  | zero => exact fun _ _ h _ _ _ _ => False.elim h
  | succ m ih =>
    intro e w h e0 eP o inv
    have ow := o.1
    have e2P : ((2 : Int32) * (w0.1 127 11)).toInt = 2 * pM w0 := ti_mul2 (by decide) rfl (by omega) (by omega)
    have ee := ti_add2 (Eq.refl e.toInt) i_1 (by omega) (by omega)
    have he2 : (e / (2 : Int32)).toInt = e.toInt / 2 := nb_div e0 (by decide) (by decide)
    have es : ((w0.1 127 4) + (e / (2 : Int32))).toInt = tM w0 + e.toInt / 2 := ti_add2 rfl he2 (by omega) (by omega)
    have nn : ((e.toInt.toNat : Nat) : Int) = e.toInt := by omega
    rw [q_Mo_join_30.eq_2, ow] at h ⊢
    refine ⟨fun c => k w o (fun z y hz => ?_) (h.1 c), fun c => ⟨(h.2 c).1, fun d => ?_, fun d => ⟨((h.2 c).2.2 d).1, fun d2 => ?_, fun d2 => ?_⟩⟩⟩
    · rw [inv z y hz]
      unfold EdM Edg Edb
      rw [show e.toInt = 2 * pM w0 by omega]
    · have H := (h.2 c).2.1 d
      refine jn_96 e0 rfl es T0 T1 P0 P1 (fun w' o' b' g' => ih _ _ g' (by omega) (by omega) (oJ_t o o') (fun z y hz => ?_)) o _ _ _ H (by decide) (by rw [i_0]; omega) (oJ_r _ _) (Or.inl i_0) (fun z y => ⟨fun q => Or.inl q, fun q => ?_⟩)
      · rw [b' z y, inv z y hz, ee, edb_s e0]
        constructor
        · intro q
          rcases q with q | q
          · exact Or.inl q
          · have := q.1
            unfold atM at this
            omega
        · intro q
          rcases q with q | q
          · exact Or.inl q
          · have := q.1
            unfold atM at this
            omega
      · rcases q with q | ⟨_, gg, hg, _⟩
        · exact q
        · rw [i_0] at hg
          omega
    · have H := ((h.2 c).2.2 d).2.1 d2
      refine jn_96 e0 rfl es T0 T1 P0 P1 (fun w' o' b' g' => ih _ _ g' (by omega) (by omega) (oJ_t o o') (fun z y hz => ?_)) o _ _ _ H (by decide) (by rw [i_0]; omega) (oJ_r _ _) (Or.inl i_0) (fun z y => ⟨fun q => Or.inl q, fun q => ?_⟩)
      · rw [b' z y, inv z y hz, ee, edb_s e0]
        constructor
        · intro q
          rcases q with q | ⟨q0, q1, q2, gg, _, q3, q4, q5, q6, q7⟩
          · exact Or.inl q
          · exact Or.inr ⟨q0, Or.inr ⟨q1, q2, gg, q3, q4, q5, q6, q7⟩⟩
        · intro q
          rcases q with q | ⟨q0, ⟨q1, _⟩ | ⟨q1, q2, gg, q3, q4, q5, q6, q7⟩⟩
          · exact Or.inl q
          · exact absurd q1 d2
          · exact Or.inr ⟨q0, q1, q2, gg, q3, q3, q4, q5, q6, q7⟩
      · rcases q with q | ⟨_, gg, hg, _⟩
        · exact q
        · rw [i_0] at hg
          omega
    · have H := ((h.2 c).2.2 d).2.2 d2
      have d2' := Classical.not_not.mp d2
      refine ⟨H.1, H.2.1, H.2.2.1, H.2.2.2.1, ?_⟩
      have K := H.2.2.2.2
      have a0 : 0 ≤ atM w0 e.toInt.toNat := by unfold atM; omega
      have a1 : atM w0 e.toInt.toNat < 44 := by have := H.2.2.1; unfold atM; omega
      have aN : ((w0.1 170 e.toInt.toNat).toInt.toNat : Int) = atM w0 e.toInt.toNat := by unfold atM; omega
      refine jn_96 e0 rfl es T0 T1 P0 P1 (fun w' o' b' g' => ih _ _ g' (by omega) (by omega) (oJ_t (oJ_s (oJ_s o _ _) _ _) o') (fun z y hz => ?_)) (oJ_s (oJ_s o _ _) _ _) _ _ _ K (by decide) (by rw [i_0]; omega) (oJ_r _ _) (Or.inl i_0) (fun z y => ⟨fun q => Or.inl q, fun q => ?_⟩)
      · rw [b' z y, ee, edb_s e0, ← inv z y hz]
        have S : lb ((sJ (sJ w 195 (((w0.1 127 4) + (e / (2 : Int32))).toInt.toNat) ((w.2.1 195 (((w0.1 127 4) + (e / (2 : Int32))).toInt.toNat)) ||| ((1 : Int64) <<< ((w0.1 170 e.toInt.toNat).toInt64 &&& 63)))) 195 ((w0.1 170 e.toInt.toNat).toInt.toNat) (((sJ w 195 (((w0.1 127 4) + (e / (2 : Int32))).toInt.toNat) ((w.2.1 195 (((w0.1 127 4) + (e / (2 : Int32))).toInt.toNat)) ||| ((1 : Int64) <<< ((w0.1 170 e.toInt.toNat).toInt64 &&& 63)))).2.1 195 ((w0.1 170 e.toInt.toNat).toInt.toNat)) ||| ((1 : Int64) <<< (((w0.1 127 4) + (e / (2 : Int32))).toInt64 &&& 63)))).2.1 195 z) y = true ↔ lb (w.2.1 195 z) y = true ∨ (((z : Int) = tM w0 + e.toInt / 2 ∧ (y : Int) = atM w0 e.toInt.toNat) ∨ ((z : Int) = atM w0 e.toInt.toNat ∧ (y : Int) = tM w0 + e.toInt / 2)) := by
          have L1 := lb_set (a := w0.1 170 e.toInt.toNat) (by unfold atM at a0; exact a0) (by unfold atM at a1; omega) y
          have L2 := lb_set (a := (w0.1 127 4) + (e / (2 : Int32))) (by omega) (by omega) y
          rw [sJ_if, sJ_if, sJ_if]
          by_cases z1 : z = (w0.1 170 e.toInt.toNat).toInt.toNat
          · rw [if_pos z1]
            by_cases z2 : (w0.1 170 e.toInt.toNat).toInt.toNat = ((w0.1 127 4) + (e / (2 : Int32))).toInt.toNat
            · rw [if_pos z2, lb_or, lb_or, L1, L2, Bool.or_eq_true, Bool.or_eq_true, decide_eq_true_iff, decide_eq_true_iff, ← z2, ← z1]
              constructor
              · intro q
                rcases q with (q | q) | q
                · exact Or.inl q
                · exact Or.inr (Or.inl ⟨by omega, by omega⟩)
                · exact Or.inr (Or.inr ⟨by omega, by omega⟩)
              · intro q
                rcases q with q | q | q
                · exact Or.inl (Or.inl q)
                · exact Or.inl (Or.inr (by omega))
                · exact Or.inr (by omega)
            · rw [if_neg z2, lb_or, L2, Bool.or_eq_true, decide_eq_true_iff, ← z1]
              constructor
              · intro q
                rcases q with q | q
                · exact Or.inl q
                · exact Or.inr (Or.inr ⟨by omega, by omega⟩)
              · intro q
                rcases q with q | q | q
                · exact Or.inl q
                · omega
                · exact Or.inr (by omega)
          · rw [if_neg z1]
            by_cases z2 : z = ((w0.1 127 4) + (e / (2 : Int32))).toInt.toNat
            · rw [if_pos z2, lb_or, L1, Bool.or_eq_true, decide_eq_true_iff, ← z2]
              constructor
              · intro q
                rcases q with q | q
                · exact Or.inl q
                · exact Or.inr (Or.inl ⟨by omega, by omega⟩)
              · intro q
                rcases q with q | q | q
                · exact Or.inl q
                · exact Or.inr (by omega)
                · omega
            · rw [if_neg z2]
              constructor
              · intro q
                exact Or.inl q
              · intro q
                rcases q with q | q | q
                · exact q
                · omega
                · omega
        rw [S]
        constructor
        · intro q
          rcases q with (q | q) | q
          · exact Or.inl q
          · refine Or.inr ⟨a0, Or.inl ⟨d2', ?_⟩⟩
            rw [nn]
            exact q
          · exact absurd d2' q.2.1
        · intro q
          rcases q with q | ⟨_, ⟨_, q⟩ | ⟨q, _⟩⟩
          · exact Or.inl (Or.inl q)
          · rw [nn] at q
            exact Or.inl (Or.inr q)
          · exact absurd d2' q
      · rcases q with q | ⟨_, gg, hg, _⟩
        · exact q
        · rw [i_0] at hg
          omega
/-- join: next is the edges -/
theorem jn_x {w : MW} {Q Q' : MW → Prop} (h : p_Mo_join w Q) (T0 : 0 ≤ tM w) (T1 : tM w ≤ 20) (P0 : 0 ≤ pM w) (P1 : pM w ≤ 24) (k : ∀ w', oJ 195 w w' → (∀ z y : Nat, (z : Int) < tM w + pM w → (lb (w'.2.1 195 z) y = true ↔ EdM w z y)) → Q w' → Q' w') : p_Mo_join w Q' := by
  have en : nsp w = tM w + pM w := ti_add2 rfl rfl (by unfold tM pM at *; omega) (by unfold tM pM at *; omega)
  rw [p_Mo_join.eq_1] at h ⊢
  refine jn_2 (by omega) (fun w' o z0 g => ?_) _ _ _ h (by decide) (oJ_r _ _) (fun z hz => by rw [i_0] at hz; omega)
  refine jn_30 T0 T1 P0 P1 (fun w2 o2 b2 g2 => k w2 o2 b2 g2) _ _ _ g (by decide) (by rw [i_0]; omega) o (fun z y hz => ?_)
  rw [z0 z (by omega), lb_0]
  constructor
  · intro q
    cases q
  · intro q
    obtain ⟨e, he, _⟩ := q
    rw [i_0] at he
    omega
