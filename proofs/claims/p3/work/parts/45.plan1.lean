/-! the reference's reader of plants: a line read twice is the same line -/
def AG (t w : MW) : Prop := (∀ j, w.1 128 j = t.1 128 j) ∧ w.1 127 22 = t.1 127 22
theorem ag_refl (t : MW) : AG t t := ⟨fun _ => rfl, rfl⟩
theorem ag_21 {t w : MW} {v : Int32} (h : AG t w) : AG t (sI w 127 21 v) := ⟨fun j => (sI_oth _ _ _ _ _ _ (by decide)).trans (h.1 j), by rw [sI_at, if_neg (fun q => absurd q.2 (by decide))]; exact h.2⟩
theorem ag_178 {t w : MW} {j : Nat} {v : Int32} (h : AG t w) : AG t (sI w 178 j v) := ⟨fun j => (sI_oth _ _ _ _ _ _ (by decide)).trans (h.1 j), (sI_oth _ _ _ _ _ _ (by decide)).trans h.2⟩
def SW (s w : MW) : Prop := ∀ j, w.1 178 j = s.1 178 j
theorem sw_21 {w w' : MW} {v : Int32} (h : SW (sI w 127 21 v) w') : SW w w' := fun j => (h j).trans (sI_oth _ _ _ _ _ _ (by decide))
theorem sw_tr {a b c : MW} (h : SW a b) (h2 : SW b c) : SW a c := fun j => (h2 j).trans (h j)
def hv (t : MW) (p : Int32) : Int32 := if (t.1 127 22).toInt ≤ p.toInt then 0 else t.1 128 p.toInt.toNat
theorem here_at {t w : MW} {Q Q' : Int32 → MW → Prop} (hA : AG t w) (h : p_Mo_here w Q) (hQ : Q (hv t (w.1 127 21)) w → Q' (hv t (w.1 127 21)) w) : p_Mo_here w Q' := by
  have h := Eq.mp (p_Mo_here.eq_1 _ _) h
  refine Eq.mpr (p_Mo_here.eq_1 _ _) ⟨fun c => ?_, fun c => ⟨(h.2 c).1, ?_⟩⟩
  · have e : hv t (w.1 127 21) = 0 := by unfold hv; rw [← hA.2, if_pos c]
    rw [e] at hQ
    exact hQ (h.1 c)
  · have e : hv t (w.1 127 21) = w.1 128 ((w.1 127 21).toInt.toNat) := by unfold hv; rw [← hA.2, if_neg c, hA.1]
    rw [e] at hQ
    exact hQ (h.2 c).2
def nx8 (l : Int64) : Int64 := (l.toUInt64 >>> ((8 : Int32).toInt64.toUInt64 &&& Int64.toUInt64 63)).toInt64
def OVn : Nat → Int64 → MW → Int32 → Int32 → Int32 → Prop
  | 0, _, _, _, _, _ => False
  | n + 1, l, t, p, r, q => ((lg_cmp l (0 : Int64)).toInt = 0 ∧ r = 1 ∧ q = p) ∨ (¬ (lg_cmp l (0 : Int64)).toInt = 0 ∧ (hv t p).toInt = (Int64.toInt32 (l &&& (255 : Int64))).toInt ∧ OVn n (nx8 l) t (p + (1 : Int32)) r q) ∨ (¬ (lg_cmp l (0 : Int64)).toInt = 0 ∧ ¬ (hv t p).toInt = (Int64.toInt32 (l &&& (255 : Int64))).toInt ∧ r = 0 ∧ q = p)
theorem ov_detn {t : MW} : ∀ (n m : Nat) (l : Int64) (p r1 q1 r2 q2 : Int32), OVn n l t p r1 q1 → OVn m l t p r2 q2 → r1 = r2 ∧ q1 = q2 := by
  intro n
  induction n with
  | zero => intro m l p r1 q1 r2 q2 h; exact h.elim
  | succ n ih =>
    intro m l p r1 q1 r2 q2 h h2
    cases m with
    | zero => exact h2.elim
    | succ m =>
      rcases h with ⟨a1, a2, a3⟩ | ⟨a1, a2, a3⟩ | ⟨a1, a2, a3, a4⟩ <;> rcases h2 with ⟨b1, b2, b3⟩ | ⟨b1, b2, b3⟩ | ⟨b1, b2, b3, b4⟩
      · exact ⟨a2.trans b2.symm, a3.trans b3.symm⟩
      · exact absurd a1 b1
      · exact absurd a1 b1
      · exact absurd b1 a1
      · exact ih m _ _ _ _ _ _ a3 b3
      · exact absurd a2 b2
      · exact absurd b1 a1
      · exact absurd b2 a2
      · exact ⟨a3.trans b3.symm, a4.trans b4.symm⟩
def OV (l : Int64) (t : MW) (p r q : Int32) : Prop := ∃ n, OVn n l t p r q
theorem ov_det {t : MW} {l : Int64} {p r1 q1 r2 q2 : Int32} (h : OV l t p r1 q1) (h2 : OV l t p r2 q2) : r1 = r2 ∧ q1 = q2 := by
  obtain ⟨n, h⟩ := h
  obtain ⟨m, h2⟩ := h2
  exact ov_detn n m l p r1 q1 r2 q2 h h2
theorem pc_over2 {t : MW} {E E' : MW → Prop} {Q Q' : Int32 → MW → Prop} (n : Nat) : ∀ (l : Int64) (w : MW), AG t w → q_Mo_over_2 E Q n l w → (∀ w', E w' → AG t w' → SW w w' → OV l t (w.1 127 21) 1 (w'.1 127 21) → E' w') → (∀ r w', Q r w' → AG t w' → SW w w' → OV l t (w.1 127 21) r (w'.1 127 21) → Q' r w') → q_Mo_over_2 E' Q' n l w := by
  induction n with
  | zero => intro l w _ h; exact (Eq.mp (q_Mo_over_2.eq_1 _ _ _ _) h).elim
  | succ n ih =>
    intro l w hA h hE hQ
    rw [q_Mo_over_2.eq_2] at h ⊢
    refine ⟨fun c => hE w (h.1 c) hA (fun _ => rfl) ⟨1, Or.inl ⟨c, rfl, rfl⟩⟩, fun c => here_at hA (h.2 c) (fun h2 => ⟨fun d => ?_, fun d => hQ _ w (h2.2 d) hA (fun _ => rfl) ⟨1, Or.inr (Or.inr ⟨c, d, rfl, rfl⟩)⟩⟩)⟩
    have a : (sI w 127 21 ((w.1 127 21) + (1 : Int32))).1 127 21 = (w.1 127 21) + (1 : Int32) := sI_same _ _ _ _
    refine ih _ _ (ag_21 hA) (h2.1 d) (fun w' e1 e2 e4 e3 => hE w' e1 e2 (sw_21 e4) ?_) (fun r w' e1 e2 e4 e3 => hQ r w' e1 e2 (sw_21 e4) ?_)
    · obtain ⟨m, e3⟩ := e3
      rw [a] at e3
      exact ⟨m + 1, Or.inr (Or.inl ⟨c, d, e3⟩)⟩
    · obtain ⟨m, e3⟩ := e3
      rw [a] at e3
      exact ⟨m + 1, Or.inr (Or.inl ⟨c, d, e3⟩)⟩
theorem pc_over {t w : MW} {l : Int64} {Q Q' : Int32 → MW → Prop} (hA : AG t w) (h : p_Mo_over w l Q) (hQ : ∀ r w', Q r w' → AG t w' → SW w w' → OV l t (w.1 127 21) r (w'.1 127 21) → Q' r w') : p_Mo_over w l Q' := by
  refine Eq.mpr (p_Mo_over.eq_1 _ _ _) ?_
  have h := Eq.mp (p_Mo_over.eq_1 _ _ _) h
  exact pc_over2 FU l w hA h (fun w' e1 e2 e4 e3 => hQ 1 w' e1 e2 e4 e3) hQ
def stopD (t : MW) (o p v : Int32) : Prop := (hv t p).toInt < 48 ∨ 57 < (hv t p).toInt ∨ 7 ≤ (p - o).toInt ∨ ((p - o).toInt = 1 ∧ v.toInt = 0)
def DGn : Nat → Int32 → Int32 → MW → Int32 → Int32 → Int32 → Prop
  | 0, _, _, _, _, _, _ => False
  | n + 1, o, v, t, p, v', q => (stopD t o p v ∧ v' = v ∧ q = p) ∨ (¬ stopD t o p v ∧ DGn n o ((((10 : Int32) * v) + hv t p) - (48 : Int32)) t (p + (1 : Int32)) v' q)
theorem dg_detn {t : MW} {o : Int32} : ∀ (n m : Nat) (v p v1 q1 v2 q2 : Int32), DGn n o v t p v1 q1 → DGn m o v t p v2 q2 → v1 = v2 ∧ q1 = q2 := by
  intro n
  induction n with
  | zero => intro m v p v1 q1 v2 q2 h; exact h.elim
  | succ n ih =>
    intro m v p v1 q1 v2 q2 h h2
    cases m with
    | zero => exact h2.elim
    | succ m =>
      rcases h with ⟨a1, a2, a3⟩ | ⟨a1, a2⟩ <;> rcases h2 with ⟨b1, b2, b3⟩ | ⟨b1, b2⟩
      · exact ⟨a2.trans b2.symm, a3.trans b3.symm⟩
      · exact absurd a1 b1
      · exact absurd b1 a1
      · exact ih m _ _ _ _ _ _ a2 b2
def NM (a : Int32) (t : MW) (p r q : Int32) : Prop := ∃ r1 p1 : Int32, OV 32 t p r1 p1 ∧ ((r1.toInt = 0 ∧ r = -2 ∧ q = p1) ∨ (¬ r1.toInt = 0 ∧ (¬ a.toInt = 0 ∧ (hv t p1).toInt = 45) ∧ r = -1 ∧ q = p1 + (1 : Int32)) ∨ (¬ r1.toInt = 0 ∧ ¬ (¬ a.toInt = 0 ∧ (hv t p1).toInt = 45) ∧ ∃ (n : Nat) (v : Int32), DGn n p1 0 t p1 v q ∧ ((¬ q.toInt = p1.toInt ∧ r = v) ∨ (q.toInt = p1.toInt ∧ r = -2))))
theorem nm_det {t : MW} {a p r1 q1 r2 q2 : Int32} (h : NM a t p r1 q1) (h2 : NM a t p r2 q2) : r1 = r2 ∧ q1 = q2 := by
  obtain ⟨x1, y1, o1, h⟩ := h
  obtain ⟨x2, y2, o2, h2⟩ := h2
  obtain ⟨rfl, rfl⟩ := ov_det o1 o2
  rcases h with ⟨a1, a2, a3⟩ | ⟨a1, a2, a3, a4⟩ | ⟨a1, a2, n, v, a3, a4⟩ <;> rcases h2 with ⟨b1, b2, b3⟩ | ⟨b1, b2, b3, b4⟩ | ⟨b1, b2, m, u, b3, b4⟩
  · exact ⟨a2.trans b2.symm, a3.trans b3.symm⟩
  · exact absurd a1 b1
  · exact absurd a1 b1
  · exact absurd b1 a1
  · exact ⟨a3.trans b3.symm, a4.trans b4.symm⟩
  · exact absurd a2 b2
  · exact absurd b1 a1
  · exact absurd b2 a2
  · obtain ⟨rfl, rfl⟩ := dg_detn n m _ _ _ _ _ _ a3 b3
    refine ⟨?_, rfl⟩
    rcases a4 with ⟨c1, c2⟩ | ⟨c1, c2⟩ <;> rcases b4 with ⟨d1, d2⟩ | ⟨d1, d2⟩
    · exact c2.trans d2.symm
    · exact absurd d1 c1
    · exact absurd c1 d1
    · exact c2.trans d2.symm
theorem pc_45 {t : MW} {o : Int32} {E E' Q Q' : Int32 → MW → Prop} (n : Nat) : ∀ (v : Int32) (w : MW), AG t w → q_Mo_number_45 o E Q n v w → (∀ v' w', E v' w' → AG t w' → SW w w' → (∃ m, DGn m o v t (w.1 127 21) v' (w'.1 127 21)) → E' v' w') → q_Mo_number_45 o E' Q' n v w := by
  induction n with
  | zero => intro v w _ h; exact (Eq.mp (q_Mo_number_45.eq_1 _ _ _ _ _) h).elim
  | succ n ih =>
    intro v w hA h hE
    rw [q_Mo_number_45.eq_2] at h ⊢
    refine here_at hA h (fun h => ⟨fun c => hE v w (h.1 c) hA (fun _ => rfl) ⟨1, Or.inl ⟨Or.inl c, rfl, rfl⟩⟩, fun c => here_at hA (h.2 c) (fun h => ⟨fun c1 => hE v w (h.1 c1) hA (fun _ => rfl) ⟨1, Or.inl ⟨Or.inr (Or.inl c1), rfl, rfl⟩⟩, fun c1 => ⟨fun c2 => hE v w ((h.2 c1).1 c2) hA (fun _ => rfl) ⟨1, Or.inl ⟨Or.inr (Or.inr (Or.inl c2)), rfl, rfl⟩⟩, fun c2 => ?_⟩⟩)⟩)
    have h := (h.2 c1).2 c2
    have go : ∀ (c3 : ¬ (((w.1 127 21) - o).toInt = 1 ∧ v.toInt = 0)), q_Mo_number_88 o v w (fun (x45_3 : Int32) (w : MW) => q_Mo_number_45 o E Q n x45_3 w) E Q → q_Mo_number_88 o v w (fun (x45_3 : Int32) (w : MW) => q_Mo_number_45 o E' Q' n x45_3 w) E' Q' := by
      intro c3 h8
      have h8 := Eq.mp (q_Mo_number_88.eq_1 _ _ _ _ _ _) h8
      refine Eq.mpr (q_Mo_number_88.eq_1 _ _ _ _ _ _) (here_at hA h8 (fun h9 => ?_))
      have a : (sI w 127 21 ((w.1 127 21) + (1 : Int32))).1 127 21 = (w.1 127 21) + (1 : Int32) := sI_same _ _ _ _
      refine ih _ _ (ag_21 hA) h9 (fun v' w' e1 e2 e4 e3 => hE v' w' e1 e2 (sw_21 e4) ?_)
      obtain ⟨m, e3⟩ := e3
      rw [a] at e3
      refine ⟨m + 1, Or.inr ⟨fun q => ?_, e3⟩⟩
      rcases q with q | q | q | q
      · exact c q
      · exact c1 q
      · exact c2 q
      · exact c3 q
    refine ⟨fun c3 => go (fun q => c3 q.1) (h.1 c3), fun c3 => ⟨fun c4 => hE v w ((h.2 c3).1 c4) hA (fun _ => rfl) ⟨1, Or.inl ⟨Or.inr (Or.inr (Or.inr ⟨Classical.not_not.mp c3, c4⟩)), rfl, rfl⟩⟩, fun c4 => go (fun q => c4 q.2) ((h.2 c3).2 c4)⟩⟩
theorem pc_38 {t w : MW} {a p r1 : Int32} {Q Q' : Int32 → MW → Prop} (hA : AG t w) (ho : OV 32 t p r1 (w.1 127 21)) (hr1 : ¬ r1.toInt = 0) (hf : ¬ (¬ a.toInt = 0 ∧ (hv t (w.1 127 21)).toInt = 45)) (h : q_Mo_number_38 w Q) (hQ : ∀ r w', Q r w' → AG t w' → SW w w' → NM a t p r (w'.1 127 21) → Q' r w') : q_Mo_number_38 w Q' := by
  have h := Eq.mp (q_Mo_number_38.eq_1 _ _) h
  refine Eq.mpr (q_Mo_number_38.eq_1 _ _) ?_
  refine pc_45 FU 0 w hA h (fun v' w' e1 e2 e4 e3 => ?_)
  obtain ⟨m, e3⟩ := e3
  exact ⟨fun c => hQ _ _ (e1.1 c) e2 e4 ⟨r1, _, ho, Or.inr (Or.inr ⟨hr1, hf, m, v', e3, Or.inl ⟨c, rfl⟩⟩)⟩, fun c => hQ _ _ (e1.2 c) e2 e4 ⟨r1, _, ho, Or.inr (Or.inr ⟨hr1, hf, m, v', e3, Or.inr ⟨Classical.not_not.mp c, rfl⟩⟩)⟩⟩
theorem pc_number {t w : MW} {a : Int32} {Q Q' : Int32 → MW → Prop} (hA : AG t w) (h : p_Mo_number w a Q) (hQ : ∀ r w', Q r w' → AG t w' → SW w w' → NM a t (w.1 127 21) r (w'.1 127 21) → Q' r w') : p_Mo_number w a Q' := by
  have h := Eq.mp (p_Mo_number.eq_1 _ _ _) h
  refine Eq.mpr (p_Mo_number.eq_1 _ _ _) ?_
  refine pc_over hA h (fun r1 w1 h1 hA1 hS1 ho => ⟨fun c => ?_, fun c => hQ _ _ (h1.2 c) hA1 hS1 ⟨r1, _, ho, Or.inl ⟨Classical.not_not.mp c, rfl, rfl⟩⟩⟩)
  have h1 := h1.1 c
  refine ⟨fun c1 => pc_38 hA1 ho c (fun q => q.1 c1) (h1.1 c1) (fun r w' q1 q2 q3 q4 => hQ r w' q1 q2 (sw_tr hS1 q3) q4), fun c1 => here_at hA1 (h1.2 c1) (fun h2 => ⟨fun c2 => pc_38 hA1 ho c (fun q => c2 q.2) (h2.1 c2) (fun r w' q1 q2 q3 q4 => hQ r w' q1 q2 (sw_tr hS1 q3) q4), fun c2 => ?_⟩)⟩
  have a1 : (sI w1 127 21 ((w1.1 127 21) + (1 : Int32))).1 127 21 = (w1.1 127 21) + (1 : Int32) := sI_same _ _ _ _
  exact hQ _ _ (h2.2 c2) (ag_21 hA1) (fun j => (sI_oth _ _ _ _ _ _ (by decide)).trans (hS1 j)) ⟨r1, _, ho, Or.inr (Or.inl ⟨c, ⟨c1, Classical.not_not.mp c2⟩, rfl, a1⟩)⟩
def aN (k i : Int32) : Int32 := if k.toInt = 3 ∧ ¬ 2 ≤ i.toInt then 1 else 0
def WRn : Nat → Int32 → Int32 → Int32 → MW → Int32 → Int32 → Int32 → (Nat → Int32) → Prop
  | 0, _, _, _, _, _, _, _, _ => False
  | n + 1, k, cnt, i, t, p, f, q, a => (cnt.toInt ≤ i.toInt ∧ f = 1 ∧ q = p) ∨ (¬ cnt.toInt ≤ i.toInt ∧ ∃ p1 : Int32, NM (aN k i) t p (a i.toInt.toNat) p1 ∧ (((a i.toInt.toNat).toInt = -2 ∧ f = 0 ∧ q = p1) ∨ (¬ (a i.toInt.toNat).toInt = -2 ∧ WRn n k cnt (i + (1 : Int32)) t p1 f q a)))
theorem wr_detn {t : MW} {k cnt : Int32} {a b : Nat → Int32} : ∀ (n m : Nat) (i p f1 q1 f2 q2 : Int32), WRn n k cnt i t p f1 q1 a → WRn m k cnt i t p f2 q2 b → f1 = f2 ∧ q1 = q2 := by
  intro n
  induction n with
  | zero => intro m i p f1 q1 f2 q2 h; exact h.elim
  | succ n ih =>
    intro m i p f1 q1 f2 q2 h h2
    cases m with
    | zero => exact h2.elim
    | succ m =>
      rcases h with ⟨a1, a2, a3⟩ | ⟨a1, p1, a2, a3⟩ <;> rcases h2 with ⟨b1, b2, b3⟩ | ⟨b1, p2, b2, b3⟩
      · exact ⟨a2.trans b2.symm, a3.trans b3.symm⟩
      · exact absurd a1 b1
      · exact absurd b1 a1
      · obtain ⟨e1, rfl⟩ := nm_det a2 b2
        rw [e1] at a3
        rcases a3 with ⟨c1, c2, c3⟩ | ⟨c1, c2⟩ <;> rcases b3 with ⟨d1, d2, d3⟩ | ⟨d1, d2⟩
        · exact ⟨c2.trans d2.symm, c3.trans d3.symm⟩
        · exact absurd c1 d1
        · exact absurd d1 c1
        · exact ih m _ _ _ _ _ _ c2 d2
/-- the words that were read are the same too -/
theorem wr_words {t : MW} {k cnt : Int32} {a b : Nat → Int32} (hc : cnt.toInt ≤ 3) : ∀ (n m : Nat) (i p f1 q1 f2 q2 : Int32), 0 ≤ i.toInt → WRn n k cnt i t p f1 q1 a → WRn m k cnt i t p f2 q2 b → f1 = 1 → ∀ j : Nat, i.toInt ≤ (j : Int) → (j : Int) < cnt.toInt → a j = b j := by
  intro n
  induction n with
  | zero => intro m i p f1 q1 f2 q2 _ h; exact h.elim
  | succ n ih =>
    intro m i p f1 q1 f2 q2 i0 h h2 hf j j0 j1
    cases m with
    | zero => exact h2.elim
    | succ m =>
      rcases h with ⟨a1, a2, a3⟩ | ⟨a1, p1, a2, a3⟩ <;> rcases h2 with ⟨b1, b2, b3⟩ | ⟨b1, p2, b2, b3⟩
      · omega
      · exact absurd a1 b1
      · exact absurd b1 a1
      · obtain ⟨e1, rfl⟩ := nm_det a2 b2
        by_cases cj : (j : Int) = i.toInt
        · have e : j = i.toInt.toNat := by omega
          rw [e]
          exact e1
        · have s := ti_add2 (Eq.refl i.toInt) (by decide : ((1 : Int32)).toInt = 1) (by omega) (by omega)
          rcases a3 with ⟨c1, c2, c3⟩ | ⟨c1, c2⟩
          · rw [c2] at hf
            exact absurd hf (by decide)
          · rcases b3 with ⟨d1, d2, d3⟩ | ⟨d1, d2⟩
            · rw [e1] at c1
              exact absurd d1 c1
            · exact ih m _ _ _ _ _ _ (by omega) c2 d2 hf j (by omega) j1
theorem pc_138 {t : MW} {k cnt : Int32} {E E' : MW → Prop} {Q Q' : Int32 → MW → Prop} (n : Nat) : ∀ (i : Int32) (w : MW), AG t w → q_Mo_planLine_138 k cnt E Q n i w → (∀ w', E w' → AG t w' → (∀ j : Nat, (j : Int) < i.toInt → w'.1 178 j = w.1 178 j) → (∃ m, WRn m k cnt i t (w.1 127 21) 1 (w'.1 127 21) (fun j => w'.1 178 j)) → E' w') → (∀ w', Q (-1) w' → AG t w' → (∀ j : Nat, (j : Int) < i.toInt → w'.1 178 j = w.1 178 j) → (∃ m, WRn m k cnt i t (w.1 127 21) 0 (w'.1 127 21) (fun j => w'.1 178 j)) → Q' (-1) w') → q_Mo_planLine_138 k cnt E' Q' n i w := by
  induction n with
  | zero => intro i w _ h; exact (Eq.mp (q_Mo_planLine_138.eq_1 _ _ _ _ _ _) h).elim
  | succ n ih =>
    intro i w hA h hE hQ
    rw [q_Mo_planLine_138.eq_2] at h ⊢
    refine ⟨fun c => hE w (h.1 c) hA (fun _ _ => rfl) ⟨1, Or.inl ⟨c, rfl, rfl⟩⟩, fun c => ?_⟩
    have h := h.2 c
    -- what follows a number
    have fol : ∀ (r : Int32) (w1 : MW), AG t w1 → SW w w1 → NM (aN k i) t (w.1 127 21) r (w1.1 127 21) → (0 ≤ i.toInt ∧ i.toInt < 3) → ((¬ ((sI w1 178 i.toInt.toNat r).1 178 i.toInt.toNat).toInt = (-2) → q_Mo_planLine_138 k cnt E Q n (i + (1 : Int32)) (sI w1 178 i.toInt.toNat r)) ∧ (¬ (¬ ((sI w1 178 i.toInt.toNat r).1 178 i.toInt.toNat).toInt = (-2)) → Q (-1) (sI w1 178 i.toInt.toNat r))) → ((¬ ((sI w1 178 i.toInt.toNat r).1 178 i.toInt.toNat).toInt = (-2) → q_Mo_planLine_138 k cnt E' Q' n (i + (1 : Int32)) (sI w1 178 i.toInt.toNat r)) ∧ (¬ (¬ ((sI w1 178 i.toInt.toNat r).1 178 i.toInt.toNat).toInt = (-2)) → Q' (-1) (sI w1 178 i.toInt.toNat r))) := by
      intro r w1 hA1 hS1 hN hi hh
      have s := ti_add2 (Eq.refl i.toInt) (by decide : ((1 : Int32)).toInt = 1) (by omega) (by omega)
      have p1 : (sI w1 178 i.toInt.toNat r).1 127 21 = w1.1 127 21 := sI_oth _ _ _ _ _ _ (by decide)
      have low : ∀ j : Nat, (j : Int) < i.toInt → (sI w1 178 i.toInt.toNat r).1 178 j = w.1 178 j := fun j hj => (sI_ne _ _ _ _ _ (by omega)).trans (hS1 j)
      have at_ : (sI w1 178 i.toInt.toNat r).1 178 i.toInt.toNat = r := sI_same _ _ _ _
      refine ⟨fun d => ih _ _ (ag_178 hA1) (hh.1 d) (fun w' e1 e2 e3 e4 => hE w' e1 e2 (fun j hj => (e3 j (by omega)).trans (low j hj)) ?_) (fun w' e1 e2 e3 e4 => hQ w' e1 e2 (fun j hj => (e3 j (by omega)).trans (low j hj)) ?_), fun d => hQ _ (hh.2 d) (ag_178 hA1) low ⟨1, Or.inr ⟨c, (sI w1 178 i.toInt.toNat r).1 127 21, by show NM (aN k i) t (w.1 127 21) ((sI w1 178 i.toInt.toNat r).1 178 i.toInt.toNat) ((sI w1 178 i.toInt.toNat r).1 127 21); rw [at_, p1]; exact hN, Or.inl ⟨Classical.not_not.mp d, rfl, rfl⟩⟩⟩⟩
      · obtain ⟨m, e4⟩ := e4
        rw [p1] at e4
        have ew : w'.1 178 i.toInt.toNat = r := (e3 i.toInt.toNat (by omega)).trans at_
        rw [at_] at d
        exact ⟨m + 1, Or.inr ⟨c, _, by show NM (aN k i) t (w.1 127 21) (w'.1 178 i.toInt.toNat) (w1.1 127 21); rw [ew]; exact hN, Or.inr ⟨by show ¬ (w'.1 178 i.toInt.toNat).toInt = -2; rw [ew]; exact d, e4⟩⟩⟩
      · obtain ⟨m, e4⟩ := e4
        rw [p1] at e4
        have ew : w'.1 178 i.toInt.toNat = r := (e3 i.toInt.toNat (by omega)).trans at_
        rw [at_] at d
        exact ⟨m + 1, Or.inr ⟨c, _, by show NM (aN k i) t (w.1 127 21) (w'.1 178 i.toInt.toNat) (w1.1 127 21); rw [ew]; exact hN, Or.inr ⟨by show ¬ (w'.1 178 i.toInt.toNat).toInt = -2; rw [ew]; exact d, e4⟩⟩⟩
    have g163 : aN k i = 0 → q_Mo_planLine_163 k cnt i i w (fun (x138_3 : Int32) (w : MW) => q_Mo_planLine_138 k cnt E Q n x138_3 w) E Q → q_Mo_planLine_163 k cnt i i w (fun (x138_3 : Int32) (w : MW) => q_Mo_planLine_138 k cnt E' Q' n x138_3 w) E' Q' := by
      intro ea h1
      have h1 := Eq.mp (q_Mo_planLine_163.eq_1 _ _ _ _ _ _ _ _) h1
      refine Eq.mpr (q_Mo_planLine_163.eq_1 _ _ _ _ _ _ _ _) (pc_number hA h1 (fun r w1 h2 hA1 hS1 hN => ⟨h2.1, h2.2.1, fol r w1 hA1 hS1 (by rw [ea]; exact hN) h2.1 h2.2.2⟩))
    refine ⟨fun c1 => g163 (if_neg (fun q => c1 q.1)) (h.1 c1), fun c1 => ⟨fun c2 => g163 (if_neg (fun q => q.2 c2)) ((h.2 c1).1 c2), fun c2 => ?_⟩⟩
    have ea : aN k i = 1 := if_pos ⟨Classical.not_not.mp c1, c2⟩
    exact pc_number hA ((h.2 c1).2 c2) (fun r w1 h2 hA1 hS1 hN => ⟨h2.1, h2.2.1, fol r w1 hA1 hS1 (by rw [ea]; exact hN) h2.1 h2.2.2⟩)
/-- what kind of line it is -/
def KD (t : MW) (p k q : Int32) : Prop := ((hv t p).toInt = 116 ∧ ∃ r : Int32, OV 1802396020 t p r q ∧ ((r.toInt = 0 ∧ k = -1) ∨ (¬ r.toInt = 0 ∧ k = 0))) ∨ (¬ (hv t p).toInt = 116 ∧ (hv t p).toInt = 118 ∧ ∃ r : Int32, OV 435778511222 t p r q ∧ ((r.toInt = 0 ∧ k = -1) ∨ (¬ r.toInt = 0 ∧ k = 2))) ∨ (¬ (hv t p).toInt = 116 ∧ ¬ (hv t p).toInt = 118 ∧ ∃ r p0 : Int32, OV 112 t p r p0 ∧ ((r.toInt = 0 ∧ k = -1 ∧ q = p0) ∨ (¬ r.toInt = 0 ∧ (hv t p0).toInt = 117 ∧ ∃ s : Int32, OV 7368053 t p0 s q ∧ ((s.toInt = 0 ∧ k = -1) ∨ (¬ s.toInt = 0 ∧ k = 1))) ∨ (¬ r.toInt = 0 ∧ ¬ (hv t p0).toInt = 117 ∧ ∃ s : Int32, OV 6647913 t p0 s q ∧ ((s.toInt = 0 ∧ k = -1) ∨ (¬ s.toInt = 0 ∧ k = 3)))))
theorem kd_two {r s k l : Int32} {c : Int32} (e : r = s) (h : (r.toInt = 0 ∧ k = -1) ∨ (¬ r.toInt = 0 ∧ k = c)) (h2 : (s.toInt = 0 ∧ l = -1) ∨ (¬ s.toInt = 0 ∧ l = c)) : k = l := by
  subst e
  rcases h with ⟨a, b⟩ | ⟨a, b⟩ <;> rcases h2 with ⟨c, d⟩ | ⟨c, d⟩
  · exact b.trans d.symm
  · exact absurd a c
  · exact absurd c a
  · exact b.trans d.symm
theorem kd_det {t : MW} {p k1 q1 k2 q2 : Int32} (h : KD t p k1 q1) (h2 : KD t p k2 q2) : k1 = k2 ∧ q1 = q2 := by
  rcases h with ⟨a1, r, a2, a3⟩ | ⟨a1, a0, r, a2, a3⟩ | ⟨a1, a0, r, p0, a2, a3⟩ <;> rcases h2 with ⟨b1, s, b2, b3⟩ | ⟨b1, b0, s, b2, b3⟩ | ⟨b1, b0, s, p1, b2, b3⟩
  · have e := ov_det a2 b2
    exact ⟨kd_two e.1 a3 b3, e.2⟩
  · exact absurd a1 b1
  · exact absurd a1 b1
  · exact absurd b1 a1
  · have e := ov_det a2 b2
    exact ⟨kd_two e.1 a3 b3, e.2⟩
  · exact absurd a0 b0
  · exact absurd b1 a1
  · exact absurd b0 a0
  · obtain ⟨rfl, rfl⟩ := ov_det a2 b2
    rcases a3 with ⟨c1, c2, c3⟩ | ⟨c1, c2, u, c3, c4⟩ | ⟨c1, c2, u, c3, c4⟩ <;> rcases b3 with ⟨d1, d2, d3⟩ | ⟨d1, d2, v, d3, d4⟩ | ⟨d1, d2, v, d3, d4⟩
    · exact ⟨c2.trans d2.symm, c3.trans d3.symm⟩
    · exact absurd c1 d1
    · exact absurd c1 d1
    · exact absurd d1 c1
    · have e := ov_det c3 d3
      exact ⟨kd_two e.1 c4 d4, e.2⟩
    · exact absurd c2 d2
    · exact absurd d1 c1
    · exact absurd d2 c2
    · have e := ov_det c3 d3
      exact ⟨kd_two e.1 c4 d4, e.2⟩
def cnt_ (k : Int32) : Int32 := if k.toInt = -1 then 0 else if k.toInt = 1 then 0 else if k.toInt = 3 then 3 else 1
/-- a line as it is read: r the answer, q where it ends, a its words -/
def PLR (t : MW) (p r q : Int32) (a : Nat → Int32) : Prop := ∃ k p1 : Int32, KD t p k p1 ∧ ((∃ m, WRn m k (cnt_ k) 0 t p1 0 q a) ∧ r = -1 ∨ (∃ m, WRn m k (cnt_ k) 0 t p1 1 q a) ∧ ((k.toInt = -1 ∧ r = -1) ∨ (¬ k.toInt = -1 ∧ ¬ (hv t q).toInt = 10 ∧ r = -1) ∨ (¬ k.toInt = -1 ∧ (hv t q).toInt = 10 ∧ r = k)))
theorem cnt_le (k : Int32) : (cnt_ k).toInt ≤ 3 := by
  unfold cnt_
  split
  · decide
  · split
    · decide
    · split <;> decide
theorem pl_det {t : MW} {p r1 q1 r2 q2 : Int32} {a b : Nat → Int32} (h : PLR t p r1 q1 a) (h2 : PLR t p r2 q2 b) : r1 = r2 ∧ q1 = q2 ∧ (¬ r1.toInt = -1 → ∀ j : Nat, (j : Int) < (cnt_ r1).toInt → a j = b j) := by
  obtain ⟨k, p1, k1, h⟩ := h
  obtain ⟨l, p2, k2, h2⟩ := h2
  obtain ⟨rfl, rfl⟩ := kd_det k1 k2
  have f01 : ¬ (0 : Int32) = 1 := by decide
  rcases h with ⟨⟨n, a1⟩, a2⟩ | ⟨⟨n, a1⟩, a2⟩ <;> rcases h2 with ⟨⟨m, b1⟩, b2⟩ | ⟨⟨m, b1⟩, b2⟩
  · exact ⟨a2.trans b2.symm, (wr_detn n m _ _ _ _ _ _ a1 b1).2, fun q => absurd (by rw [a2]; exact i_m1) q⟩
  · exact absurd (wr_detn n m _ _ _ _ _ _ a1 b1).1 f01
  · exact absurd (wr_detn n m _ _ _ _ _ _ a1 b1).1.symm f01
  · have e := (wr_detn n m _ _ _ _ _ _ a1 b1).2
    subst e
    rcases a2 with ⟨c1, c2⟩ | ⟨c1, c2, c3⟩ | ⟨c1, c2, c3⟩ <;> rcases b2 with ⟨d1, d2⟩ | ⟨d1, d2, d3⟩ | ⟨d1, d2, d3⟩
    · exact ⟨c2.trans d2.symm, rfl, fun q => absurd (by rw [c2]; exact i_m1) q⟩
    · exact absurd c1 d1
    · exact absurd c1 d1
    · exact absurd d1 c1
    · exact ⟨c3.trans d3.symm, rfl, fun q => absurd (by rw [c3]; exact i_m1) q⟩
    · exact absurd d2 c2
    · exact absurd d1 c1
    · exact absurd c2 d2
    · refine ⟨c3.trans d3.symm, rfl, fun _ j hj => ?_⟩
      rw [c3] at hj
      exact wr_words (cnt_le k) n m 0 _ _ _ _ _ (by decide) a1 b1 rfl j (by rw [i_0]; omega) hj
theorem pc_111 {t w : MW} {p k : Int32} {Q Q' : Int32 → MW → Prop} (hA : AG t w) (hk : KD t p k (w.1 127 21)) (h : q_Mo_planLine_111 k w Q) (hQ : ∀ r w', Q r w' → AG t w' → PLR t p r (w'.1 127 21) (fun j => w'.1 178 j) → Q' r w') : q_Mo_planLine_111 k w Q' := by
  have h := Eq.mp (q_Mo_planLine_111.eq_1 _ _ _) h
  refine Eq.mpr (q_Mo_planLine_111.eq_1 _ _ _) ?_
  have g : ∀ c : Int32, c = cnt_ k → q_Mo_planLine_135 k c w Q → q_Mo_planLine_135 k c w Q' := by
    intro c ec h1
    subst ec
    have h1 := Eq.mp (q_Mo_planLine_135.eq_1 _ _ _ _) h1
    refine Eq.mpr (q_Mo_planLine_135.eq_1 _ _ _ _) ?_
    refine pc_138 FU 0 w hA h1 (fun w' e1 e2 _ e4 => ⟨fun c1 => hQ _ _ (e1.1 c1) e2 ⟨k, _, hk, Or.inr ⟨e4, Or.inl ⟨c1, rfl⟩⟩⟩, fun c1 => here_at e2 (e1.2 c1) (fun h2 => ⟨fun c2 => hQ _ _ (h2.1 c2) e2 ⟨k, _, hk, Or.inr ⟨e4, Or.inr (Or.inl ⟨c1, c2, rfl⟩)⟩⟩, fun c2 => hQ _ _ (h2.2 c2) e2 ⟨k, _, hk, Or.inr ⟨e4, Or.inr (Or.inr ⟨c1, Classical.not_not.mp c2, rfl⟩)⟩⟩⟩)⟩) (fun w' e1 e2 _ e4 => hQ _ _ e1 e2 ⟨k, _, hk, Or.inl ⟨e4, rfl⟩⟩)
  refine ⟨fun c => g 0 (by unfold cnt_; rw [if_pos c]) (h.1 c), fun c => ⟨fun c1 => ⟨fun c2 => g 1 (by unfold cnt_; rw [if_neg c, if_neg c1, if_neg c2]) (((h.2 c).1 c1).1 c2), fun c2 => g 3 (by unfold cnt_; rw [if_neg c, if_neg c1, if_pos (Classical.not_not.mp c2)]) (((h.2 c).1 c1).2 c2)⟩, fun c1 => g 0 (by unfold cnt_; rw [if_neg c, if_pos (Classical.not_not.mp c1)]) ((h.2 c).2 c1)⟩⟩
theorem pc_planLine {t w : MW} {Q Q' : Int32 → MW → Prop} (hA : AG t w) (h : p_Mo_planLine w Q) (hQ : ∀ r w', Q r w' → AG t w' → PLR t (w.1 127 21) r (w'.1 127 21) (fun j => w'.1 178 j) → Q' r w') : p_Mo_planLine w Q' := by
  have h := Eq.mp (p_Mo_planLine.eq_1 _ _) h
  refine Eq.mpr (p_Mo_planLine.eq_1 _ _) ?_
  refine here_at hA h (fun h => ⟨fun c => here_at hA (h.1 c) (fun h => ⟨fun c1 => ?_, fun c1 => pc_over hA (h.2 c1) (fun r w' h2 hA2 _ ho => ⟨fun d => pc_111 hA2 (Or.inr (Or.inl ⟨c, Classical.not_not.mp c1, r, ho, Or.inl ⟨d, rfl⟩⟩)) (h2.1 d) hQ, fun d => pc_111 hA2 (Or.inr (Or.inl ⟨c, Classical.not_not.mp c1, r, ho, Or.inr ⟨d, rfl⟩⟩)) (h2.2 d) hQ⟩)⟩), fun c => pc_over hA (h.2 c) (fun r w' h2 hA2 _ ho => ⟨fun d => pc_111 hA2 (Or.inl ⟨Classical.not_not.mp c, r, ho, Or.inl ⟨d, rfl⟩⟩) (h2.1 d) hQ, fun d => pc_111 hA2 (Or.inl ⟨Classical.not_not.mp c, r, ho, Or.inr ⟨d, rfl⟩⟩) (h2.2 d) hQ⟩)⟩)
  refine pc_over hA (h.1 c1) (fun r w5 h2 hA5 _ ho => ⟨fun d => pc_111 hA5 (Or.inr (Or.inr ⟨c, c1, r, _, ho, Or.inl ⟨d, rfl, rfl⟩⟩)) (h2.1 d) hQ, fun d => here_at hA5 (h2.2 d) (fun h3 => ⟨fun c2 => ?_, fun c2 => ?_⟩)⟩)
  · exact pc_over hA5 (h3.1 c2) (fun s w' h4 hA6 _ ho2 => ⟨fun d2 => pc_111 hA6 (Or.inr (Or.inr ⟨c, c1, r, _, ho, Or.inr (Or.inr ⟨d, c2, s, ho2, Or.inl ⟨d2, rfl⟩⟩)⟩)) (h4.1 d2) hQ, fun d2 => pc_111 hA6 (Or.inr (Or.inr ⟨c, c1, r, _, ho, Or.inr (Or.inr ⟨d, c2, s, ho2, Or.inr ⟨d2, rfl⟩⟩)⟩)) (h4.2 d2) hQ⟩)
  · exact pc_over hA5 (h3.2 c2) (fun s w' h4 hA6 _ ho2 => ⟨fun d2 => pc_111 hA6 (Or.inr (Or.inr ⟨c, c1, r, _, ho, Or.inr (Or.inl ⟨d, Classical.not_not.mp c2, s, ho2, Or.inl ⟨d2, rfl⟩⟩)⟩)) (h4.1 d2) hQ, fun d2 => pc_111 hA6 (Or.inr (Or.inr ⟨c, c1, r, _, ho, Or.inr (Or.inl ⟨d, Classical.not_not.mp c2, s, ho2, Or.inr ⟨d2, rfl⟩⟩)⟩)) (h4.2 d2) hQ⟩)
