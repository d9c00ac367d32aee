/-! what may come into a space -/
/-- liquid b may come into space x -/
def McO (w : MW) (x : Nat) (b : Int32) : Prop := (¬ (w.1 17 x).toInt = 0 ∧ w.1 17 x = b) ∨ ((w.1 17 x).toInt = 0 ∧ ((w.1 19 x).toInt = 0 ∨ (¬ (w.1 19 x).toInt = 0 ∧ ((w.1 24 (15 * (w.1 19 x).toInt.toNat + b.toInt.toNat)).toInt = 0 ∨ (w.1 24 (15 * (w.1 19 x).toInt.toNat + b.toInt.toNat)).toInt ≤ (hlC w x).toInt))))
theorem mc_x {w : MW} {a b : Int32} {Q Q' : Int32 → MW → Prop} (h : p_St_mayCome w a b Q) (b0 : 1 ≤ b.toInt) (b1 : b.toInt ≤ 14) (h19 : 0 ≤ (w.1 19 a.toInt.toNat).toInt ∧ (w.1 19 a.toInt.toNat).toInt ≤ 14) (k : ∀ r : Int32, (r = 1 ∧ McO w a.toInt.toNat b) ∨ (r = 0 ∧ ¬ McO w a.toInt.toNat b) → Q r w → Q' r w) : p_St_mayCome w a b Q' := by
  rw [p_St_mayCome.eq_1] at h ⊢
  have yes : McO w a.toInt.toNat b → Q 1 w → Q' 1 w := fun m => k 1 (Or.inl ⟨rfl, m⟩)
  have no : ¬ McO w a.toInt.toNat b → Q 0 w → Q' 0 w := fun m => k 0 (Or.inr ⟨rfl, m⟩)
  have m1 := ti_mul2 (Eq.refl (w.1 19 a.toInt.toNat).toInt) (by decide : ((15 : Int32)).toInt = 15) (by omega) (by omega)
  have m2 := ti_add2 m1 (Eq.refl b.toInt) (by omega) (by omega)
  have m3 : (((w.1 19 a.toInt.toNat) * (15 : Int32)) + b).toInt.toNat = 15 * (w.1 19 a.toInt.toNat).toInt.toNat + b.toInt.toNat := by omega
  rw [m3] at h ⊢
  have hh := h.1
  refine ⟨h.1, fun c => ?_, fun c => ?_⟩
  · have H := h.2.1 c
    refine ⟨H.1, fun d => ?_, fun d => yes (Or.inr ⟨c, Or.inl (Classical.not_not.mp d)⟩) (H.2.2 d)⟩
    have H2 := H.2.1 d
    refine ⟨H2.1, H2.2.1, fun e => yes (Or.inr ⟨c, Or.inr ⟨d, Or.inl e⟩⟩) (H2.2.2.1 e), fun e => hc_x (H2.2.2.2 e) (by omega) (by omega) (fun g => ⟨fun f => no (fun m => ?_) (g.1 f), fun f => yes (Or.inr ⟨c, Or.inr ⟨d, Or.inr (by omega)⟩⟩) (g.2 f)⟩)⟩
    rcases m with m | ⟨_, m | ⟨_, m | m⟩⟩
    · exact m.1 c
    · exact d m
    · exact e m
    · omega
  · have H := h.2.2 c
    refine ⟨H.1, fun d => no (fun m => ?_) (H.2.1 d), fun d => yes (Or.inl ⟨c, ti_inj (Classical.not_not.mp d)⟩) (H.2.2 d)⟩
    rcases m with m | m
    · exact d (by rw [m.2])
    · exact c m.1
/-- lasts, cleanings, tables, the second: both sides -/
def SKv (v w : MW) : Prop := (∀ x : Nat, (x : Int) < tM w + pM w → ((v.1 17 x).toInt = 0 → w.1 173 x = v.1 19 x) ∧ (¬ (v.1 17 x).toInt = 0 → w.1 173 x = v.1 17 x)) ∧ (∀ x l : Nat, (x : Int) < tM w + pM w → 1 ≤ l → l ≤ 5 → v.1 23 (6 * x + l) = w.1 174 (6 * x + l)) ∧ v.1 7 1 = w.1 127 78
/-- needs and what lasts: both sides -/
def TBv (v w : MW) : Prop := (∀ i j : Nat, 1 ≤ i → i ≤ 14 → 1 ≤ j → j ≤ 14 → v.1 24 (15 * i + j) = w.1 176 (16 * i + j)) ∧ ∀ l : Nat, 1 ≤ l → l ≤ 5 → v.1 25 l = w.1 177 l
theorem hl_e {v w : MW} (sv : SKv v w) (tb : TBv v w) {x : Nat} (hx : (x : Int) < tM w + pM w) : hlC v x = hlM w x := by
  unfold hlC hlM
  exact hlF_c sv.2.2 5 (-1) (fun l h1 h2 => ⟨sv.2.1 x l hx h1 h2, tb.2 l h1 h2⟩)
theorem lev_x {v w : MW} {x : Int32} {Q Q' : Int32 → MW → Prop} (h : p_Mo_level w x Q) (sk : SKl v w) (x0 : 0 ≤ x.toInt) (x1 : x.toInt < tM w + pM w) (T : 0 ≤ tM w ∧ tM w ≤ 20) (P : 0 ≤ pM w ∧ pM w ≤ 24) (s200 : ∀ p : Nat, (p : Int) < pM w → (w.1 169 p).toInt ≤ 200) (b17 : ∀ x : Nat, 0 ≤ (v.1 17 x).toInt) (k : ∀ r, r = (if ¬ (v.1 17 x.toInt.toNat).toInt = 0 ∨ (w.1 173 x.toInt.toNat).toInt = 0 then 0 else hlM w x.toInt.toNat) → Q r w → Q' r w) : p_Mo_level w x Q' := by
  rw [p_Mo_level.eq_1] at h ⊢
  have b := b17 x.toInt.toNat
  refine li_x h sk x0 x1 T P s200 (fun g => ⟨fun c => k 0 (by rw [if_pos (Or.inl (by omega))]) (g.1 c), fun c => ?_⟩)
  have H := g.2 c
  refine ⟨H.1, fun d => ?_, fun d => k 0 (by rw [if_pos (Or.inr (Classical.not_not.mp d))]) (H.2.2 d)⟩
  have ei : ¬ (¬ (v.1 17 x.toInt.toNat).toInt = 0 ∨ (w.1 173 x.toInt.toNat).toInt = 0) := fun z => by
    rcases z with z | z
    · omega
    · exact d z
  rw [if_neg ei] at k
  exact hm_23 (R := hlM w x.toInt.toNat) x0 (by omega) (fun e g' => by rw [e] at k; exact k 0 rfl g') (fun r e g' => k r e g') _ 5 _ _ (by decide) (Nat.le_refl _) rfl (H.2.1 d)
theorem mr_x {v w : MW} {a b : Int32} {Q Q' : Int32 → MW → Prop} (h : p_Mo_mayCome w b a Q) (sk : SKl v w) (sv : SKv v w) (tb : TBv v w) (a0 : 0 ≤ a.toInt) (a1 : a.toInt < tM w + pM w) (T : 0 ≤ tM w ∧ tM w ≤ 20) (P : 0 ≤ pM w ∧ pM w ≤ 24) (s200 : ∀ p : Nat, (p : Int) < pM w → (w.1 169 p).toInt ≤ 200) (b17 : ∀ x : Nat, 0 ≤ (v.1 17 x).toInt) (b0 : 1 ≤ b.toInt) (b1 : b.toInt ≤ 14) (h19 : 0 ≤ (v.1 19 a.toInt.toNat).toInt ∧ (v.1 19 a.toInt.toNat).toInt ≤ 14) (k : ∀ r : Int32, (r = 1 ∧ McO v a.toInt.toNat b) ∨ (r = 0 ∧ ¬ McO v a.toInt.toNat b) → Q r w → Q' r w) : p_Mo_mayCome w b a Q' := by
  rw [p_Mo_mayCome.eq_1] at h ⊢
  have yes : McO v a.toInt.toNat b → Q 1 w → Q' 1 w := fun m => k 1 (Or.inl ⟨rfl, m⟩)
  have no : ¬ McO v a.toInt.toNat b → Q 0 w → Q' 0 w := fun m => k 0 (Or.inr ⟨rfl, m⟩)
  have bb := b17 a.toInt.toNat
  have V := sv.1 a.toInt.toNat (by omega)
  have he := hl_e sv tb (x := a.toInt.toNat) (by omega)
  refine li_x h sk a0 a1 T P s200 (fun g => ⟨fun c => ?_, fun c => ?_⟩)
  · have c0 : (v.1 17 a.toInt.toNat).toInt = 0 := by omega
    have eV := V.1 c0
    have H := g.1 c
    rw [eV] at H ⊢
    refine ⟨H.1, fun d => ?_, fun d => yes (Or.inr ⟨c0, Or.inl (Classical.not_not.mp d)⟩) (H.2.2 d)⟩
    have H2 := H.2.1 d
    refine ⟨H2.1, fun e => by omega, fun e => ⟨fun e2 => ?_, fun e2 => absurd (Classical.not_not.mp e2) (by omega)⟩⟩
    have H3 := (H2.2.2 e).1 e2
    have m1 := ti_mul2 (by decide : ((16 : Int32)).toInt = 16) (Eq.refl (v.1 19 a.toInt.toNat).toInt) (by omega) (by omega)
    have m2 := ti_add2 m1 (Eq.refl b.toInt) (by omega) (by omega)
    have m3 : (((16 : Int32) * (v.1 19 a.toInt.toNat)) + b).toInt.toNat = 16 * (v.1 19 a.toInt.toNat).toInt.toNat + b.toInt.toNat := by omega
    have et := tb.1 (v.1 19 a.toInt.toNat).toInt.toNat b.toInt.toNat (by omega) (by omega) (by omega) (by omega)
    rw [m3, ← et, q_Mo_mayCome_69.eq_1] at H3
    rw [m3, ← et, q_Mo_mayCome_69.eq_1]
    refine ⟨H3.1, H3.2.1, fun f => yes (Or.inr ⟨c0, Or.inr ⟨d, Or.inl f⟩⟩) (H3.2.2.1 f), fun f => lev_x (H3.2.2.2 f) sk a0 a1 T P s200 b17 (fun r er g2 => ?_)⟩
    rw [if_neg (fun z => by rcases z with z | z; exact z c0; rw [eV] at z; exact d z), ← he] at er
    rw [er] at g2 ⊢
    refine ⟨fun f2 => no (fun m => ?_) (g2.1 f2), fun f2 => yes (Or.inr ⟨c0, Or.inr ⟨d, Or.inr (by omega)⟩⟩) (g2.2 f2)⟩
    rcases m with m | ⟨_, m | ⟨_, m | m⟩⟩
    · exact m.1 c0
    · exact d m
    · exact f m
    · omega
  · have H := g.2 c
    have c0 : ¬ (v.1 17 a.toInt.toNat).toInt = 0 := by omega
    refine ⟨fun d => no (fun m => ?_) (H.1 d), fun d => yes (Or.inl ⟨c0, ti_inj (Classical.not_not.mp d)⟩) (H.2 d)⟩
    rcases m with m | m
    · exact d (by rw [m.2])
    · exact c0 m.1
/-! look: what each space has or is to have -/
theorem ca_x {w : MW} {a b : Int32} {Q Q' : MW → Prop} (h : p_Mo_carry w a b Q) (k : ∀ w', oI 194 w w' → (∀ x, w'.1 194 x = if x = a.toInt.toNat ∧ (w.1 194 x).toInt = 0 then b else w.1 194 x) → Q w' → Q' w') : p_Mo_carry w a b Q' := by
  rw [p_Mo_carry.eq_1] at h ⊢
  have o : ∀ v, oI 194 w (sI w 194 a.toInt.toNat v) := fun v => ⟨rfl, fun c j hc => sI_oth _ _ _ _ _ _ hc⟩
  refine ⟨h.1, fun c => ⟨(h.2.1 c).1, (h.2.1 c).2.1, k _ (o _) (fun x => ?_) (h.2.1 c).2.2⟩, fun c => ⟨(h.2.2 c).1, k _ (o _) (fun x => ?_) (h.2.2 c).2⟩⟩
  · rw [sI_if]
    by_cases q : x = a.toInt.toNat
    · rw [if_pos q, if_neg (fun z => c (by rw [← q]; exact z.2)), q]
    · rw [if_neg q, if_neg (fun z => q z.1)]
  · rw [sI_if]
    by_cases q : x = a.toInt.toNat
    · rw [if_pos q, if_pos ⟨q, by rw [q]; exact Classical.not_not.mp c⟩]
    · rw [if_neg q, if_neg (fun z => q z.1)]
theorem oI_t {c : Nat} {w w' w'' : MW} (h : oI c w w') (h' : oI c w' w'') : oI c w w'' := ⟨h'.1.trans h.1, fun k j hk => (h'.2 k j hk).trans (h.2 k j hk)⟩
/-- space x is wanted by way k of the reference -/
def wnt (w : MW) (k x : Nat) : Prop := (x : Int) = (w.1 182 k).toInt ∨ ∃ i : Nat, (i : Int) < (w.1 185 k).toInt ∧ (x : Int) = tM w + (w.1 186 (24 * k + i)).toInt / 2
/-- the insides: what is there, or what a way that wants the space carries -/
def LkP (v z : MW) (W : Nat → Nat → Prop) (w : MW) : Prop := oI 194 z w ∧ ∀ x : Nat, (x : Int) < tM z + pM z → (¬ (v.1 17 x).toInt = 0 ∧ w.1 194 x = v.1 17 x) ∨ ((v.1 17 x).toInt = 0 ∧ ((w.1 194 x = 0 ∧ ∀ k, ¬ W k x) ∨ ∃ k, W k x ∧ w.1 194 x = z.1 183 k))
theorem lkp_c {v z w w' : MW} {W : Nat → Nat → Prop} {k a : Nat} {b : Int32} (h : LkP v z W w) (o : oI 194 w w') (e : ∀ x, w'.1 194 x = if x = a ∧ (w.1 194 x).toInt = 0 then b else w.1 194 x) (eb : b = z.1 183 k) (nz : ∀ k x, W k x → ¬ (z.1 183 k).toInt = 0) : LkP v z (fun k' x => W k' x ∨ (k' = k ∧ x = a)) w' := by
  refine ⟨oI_t h.1 o, fun x hx => ?_⟩
  rw [e x]
  rcases h.2 x hx with ⟨h1, h2⟩ | ⟨h1, ⟨h2, h3⟩ | ⟨k', h2, h3⟩⟩
  · refine Or.inl ⟨h1, ?_⟩
    rw [if_neg (fun q => h1 (by rw [← h2]; exact q.2))]
    exact h2
  · refine Or.inr ⟨h1, ?_⟩
    by_cases q : x = a
    · rw [if_pos ⟨q, by rw [h2]; exact i_0⟩]
      exact Or.inr ⟨k, Or.inr ⟨rfl, q⟩, eb⟩
    · rw [if_neg (fun z2 => q z2.1)]
      refine Or.inl ⟨h2, fun k2 z2 => ?_⟩
      rcases z2 with z2 | z2
      · exact h3 k2 z2
      · exact q z2.2
  · refine Or.inr ⟨h1, Or.inr ⟨k', Or.inl h2, ?_⟩⟩
    rw [if_neg (fun q => nz k' x h2 (by rw [← h3]; exact q.2))]
    exact h3
theorem lkp_m {v z w : MW} {W W' : Nat → Nat → Prop} (h : LkP v z W w) (e : ∀ k x, W k x ↔ W' k x) : LkP v z W' w := by
  have ew : W = W' := by
    funext k x
    exact propext (e k x)
  rw [← ew]
  exact h
/-- what is known of the world when it is looked at -/
def LkZ (v z : MW) : Prop := (0 ≤ tM z ∧ tM z ≤ 20) ∧ (0 ≤ pM z ∧ pM z ≤ 24) ∧ (z.1 127 26).toInt ≤ 24 ∧ (∀ p : Nat, (p : Int) < pM z → (z.1 169 p).toInt ≤ 200) ∧ (∀ k : Nat, (k : Int) < (z.1 127 26).toInt → ¬ (z.1 183 k).toInt = 0 ∧ (z.1 185 k).toInt ≤ 24) ∧ (∀ j, 0 ≤ (z.1 186 j).toInt ∧ (z.1 186 j).toInt < 48) ∧ SKl v z
theorem SKl_o {c : Nat} {v z w : MW} (h : oI c z w) (hc : c = 194) (s : SKl v z) : SKl v w := by
  have r : ∀ k j, ¬ k = 194 → w.1 k j = z.1 k j := fun k j hk => h.2 k j (by rw [hc]; exact hk)
  have e1 : tM w = tM z := by
    unfold tM
    rw [r 127 4 (by decide)]
  have e2 : pM w = pM z := by
    unfold pM
    rw [r 127 11 (by decide)]
  have e3 : tkM w = tkM z := by
    funext t
    unfold tkM
    rw [r 163 _ (by decide)]
  unfold SKl
  rw [e1, e2, e3]
  refine ⟨fun t ht => ?_, fun p hp => ?_⟩
  · rw [r 165 _ (by decide), r 166 _ (by decide)]
    exact s.1 t ht
  · rw [r 169 _ (by decide)]
    rcases s.2 p hp with ⟨a, b⟩ | ⟨a, b, k, hk, c'⟩
    · exact Or.inl ⟨a, fun k hk => by rw [r 172 _ (by decide)]; exact b k hk⟩
    · exact Or.inr ⟨a, fun k hk => by rw [r 172 _ (by decide)]; exact b k hk, k, hk, by rw [r 172 _ (by decide)]; exact c'⟩
theorem lo_2 {v z : MW} {E E' : MW → Prop} {Q Q' : MW → Prop} (hz : LkZ v z) (k : ∀ w, LkP v z (fun _ _ => False) w → E w → E' w) : ∀ (m : Nat) (x : Int32) (w : MW), q_Mo_look_2 E Q m x w → 0 ≤ x.toInt → oI 194 z w → (∀ x' : Nat, (x' : Int) < x.toInt → (x' : Int) < tM z + pM z → w.1 194 x' = v.1 17 x') → q_Mo_look_2 E' Q' m x w := by
  have T := hz.1
  have P := hz.2.1
  have en : ((z.1 127 4) + (z.1 127 11)).toInt = tM z + pM z := ti_add2 rfl rfl (by unfold tM pM at *; omega) (by unfold tM pM at *; omega)
  intro m
  induction m with
  | zero => exact fun _ _ h _ _ _ => False.elim h
  | succ m ih =>
    intro x w h x0 o inv
    have r : ∀ k j, ¬ k = 194 → w.1 k j = z.1 k j := o.2
    have e1 : tM w = tM z := by
      unfold tM
      rw [r 127 4 (by decide)]
    have e2 : pM w = pM z := by
      unfold pM
      rw [r 127 11 (by decide)]
    rw [q_Mo_look_2.eq_2, r 127 4 (by decide), r 127 11 (by decide)] at h ⊢
    refine ⟨fun c => k w ⟨o, fun x' hx' => ?_⟩ (h.1 c), fun c => ?_⟩
    · have e := inv x' (by omega) hx'
      by_cases q : (v.1 17 x').toInt = 0
      · refine Or.inr ⟨q, Or.inl ⟨?_, fun _ z2 => z2⟩⟩
        rw [e]
        exact ti_inj (by rw [q, i_0])
      · exact Or.inl ⟨q, e⟩
    · have ex := ti_add2 (Eq.refl x.toInt) i_1 (by omega) (by omega)
      refine li_x (h.2 c) (SKl_o o rfl hz.2.2.2.2.2.2) x0 (by omega) (by rw [e1]; exact T) (by rw [e2]; exact P) (fun p hp => by rw [r 169 _ (by decide)]; exact hz.2.2.2.1 p (by rw [← e2]; exact hp)) (fun g => ⟨g.1, ih _ _ g.2 (by omega) (oI_t o ⟨rfl, fun k j hk => sI_oth _ _ _ _ _ _ hk⟩) (fun x' h1 h2 => ?_)⟩)
      rw [sI_if]
      by_cases q : x' = x.toInt.toNat
      · rw [if_pos q, q]
      · rw [if_neg q]
        exact inv x' (by omega) h2
theorem lo_60 {v z : MW} {k : Int32} {W0 : Nat → Nat → Prop} {E E' : MW → Prop} {Q Q' : MW → Prop} (hz : LkZ v z) (k0 : 0 ≤ k.toInt) (k1 : k.toInt < (z.1 127 26).toInt) (nz : ∀ k' x, W0 k' x → ¬ (z.1 183 k').toInt = 0) (kE : ∀ w, LkP v z (fun k' x => W0 k' x ∨ (k' = k.toInt.toNat ∧ ∃ i : Nat, (i : Int) < (z.1 185 k.toInt.toNat).toInt ∧ (x : Int) = tM z + (z.1 186 (24 * k.toInt.toNat + i)).toInt / 2)) w → E w → E' w) : ∀ (m : Nat) (i : Int32) (w : MW), q_Mo_look_60 k E Q m i w → 0 ≤ i.toInt → i.toInt ≤ (z.1 185 k.toInt.toNat).toInt ∨ i.toInt = 0 → LkP v z (fun k' x => W0 k' x ∨ (k' = k.toInt.toNat ∧ ∃ i' : Nat, (i' : Int) < i.toInt ∧ (i' : Int) < (z.1 185 k.toInt.toNat).toInt ∧ (x : Int) = tM z + (z.1 186 (24 * k.toInt.toNat + i')).toInt / 2)) w → q_Mo_look_60 k E' Q' m i w := by
  have T := hz.1
  have P := hz.2.1
  have n26 := hz.2.2.1
  have K := hz.2.2.2.2.1 k.toInt.toNat (by omega)
  intro m
  induction m with
  | zero => exact fun _ _ h _ _ _ => False.elim h
  | succ m ih =>
    intro i w h i0 i1 lk
    have r : ∀ k j, ¬ k = 194 → w.1 k j = z.1 k j := lk.1.2
    rw [q_Mo_look_60.eq_2, r 185 _ (by decide), r 127 4 (by decide), r 186 _ (by decide), r 183 _ (by decide)] at h ⊢
    refine ⟨h.1, fun c => kE w (lkp_m lk (fun k' x => ?_)) (h.2.1 c), fun c => ?_⟩
    · constructor
      · intro q
        rcases q with q | ⟨q, i', _, q2⟩
        · exact Or.inl q
        · exact Or.inr ⟨q, i', q2⟩
      · intro q
        rcases q with q | ⟨q, i', q1, q2⟩
        · exact Or.inl q
        · exact Or.inr ⟨q, i', by omega, q1, q2⟩
    · have H := h.2.2 c
      have ei := ti_add2 (Eq.refl i.toInt) i_1 (by omega) (by omega)
      have m1 := ti_mul2 (by decide : ((24 : Int32)).toInt = 24) (Eq.refl k.toInt) (by omega) (by omega)
      have m2 := ti_add2 m1 (Eq.refl i.toInt) (by omega) (by omega)
      have m3 : (((24 : Int32) * k) + i).toInt.toNat = 24 * k.toInt.toNat + i.toInt.toNat := by omega
      rw [m3] at H ⊢
      have b := hz.2.2.2.2.2.1 (24 * k.toInt.toNat + i.toInt.toNat)
      have d2 : ((z.1 186 (24 * k.toInt.toNat + i.toInt.toNat)) / (2 : Int32)).toInt = (z.1 186 (24 * k.toInt.toNat + i.toInt.toNat)).toInt / 2 := nb_div b.1 (by decide) (by decide)
      have ea : ((z.1 127 4) + ((z.1 186 (24 * k.toInt.toNat + i.toInt.toNat)) / (2 : Int32))).toInt = tM z + (z.1 186 (24 * k.toInt.toNat + i.toInt.toNat)).toInt / 2 := ti_add2 rfl d2 (by omega) (by omega)
      refine ⟨H.1, H.2.1, ca_x H.2.2 (fun w' o' e' g' => ih _ _ g' (by omega) (Or.inl (by omega)) (lkp_m (lkp_c (k := k.toInt.toNat) lk o' e' rfl (fun k' x q => ?_)) (fun k' x => ?_)))⟩
      · rcases q with q | q
        · exact nz k' x q
        · rw [q.1]
          exact K.1
      · constructor
        · intro q
          rcases q with (q | ⟨q, i', q1, q2⟩) | ⟨q, q2⟩
          · exact Or.inl q
          · exact Or.inr ⟨q, i', by omega, q2⟩
          · exact Or.inr ⟨q, i.toInt.toNat, by omega, by omega, by omega⟩
        · intro q
          rcases q with q | ⟨q, i', q1, q2, q3⟩
          · exact Or.inl (Or.inl q)
          · by_cases z2 : (i' : Int) = i.toInt
            · rw [show i' = i.toInt.toNat by omega] at q3
              exact Or.inr ⟨q, by omega⟩
            · exact Or.inl (Or.inr ⟨q, i', by omega, q2, q3⟩)
theorem lo_34 {v z : MW} {E E' : MW → Prop} {Q Q' : MW → Prop} (hz : LkZ v z) (k182 : ∀ k : Nat, (k : Int) < (z.1 127 26).toInt → 0 ≤ (z.1 182 k).toInt) (kE : ∀ w, LkP v z (fun k x => (k : Int) < (z.1 127 26).toInt ∧ wnt z k x) w → E w → E' w) : ∀ (m : Nat) (k : Int32) (w : MW), q_Mo_look_34 E Q m k w → 0 ≤ k.toInt → LkP v z (fun k' x => (k' : Int) < k.toInt ∧ (k' : Int) < (z.1 127 26).toInt ∧ wnt z k' x) w → q_Mo_look_34 E' Q' m k w := by
  have n26 := hz.2.2.1
  intro m
  induction m with
  | zero => exact fun _ _ h _ _ => False.elim h
  | succ m ih =>
    intro k w h k0 lk
    have r : ∀ k j, ¬ k = 194 → w.1 k j = z.1 k j := lk.1.2
    rw [q_Mo_look_34.eq_2, r 127 26 (by decide), r 182 _ (by decide), r 183 _ (by decide)] at h ⊢
    refine ⟨fun c => kE w (lkp_m lk (fun k' x => ⟨fun q => q.2, fun q => ⟨by have := q.1; omega, q⟩⟩)) (h.1 c), fun c => ?_⟩
    have H := h.2 c
    have ek := ti_add2 (Eq.refl k.toInt) i_1 (by omega) (by omega)
    have nz : ∀ k' x : Nat, ((k' : Int) < k.toInt ∧ (k' : Int) < (z.1 127 26).toInt ∧ wnt z k' x) → ¬ (z.1 183 k').toInt = 0 := fun k' x q => (hz.2.2.2.2.1 k' q.2.1).1
    have t0 := k182 k.toInt.toNat (by omega)
    refine ⟨H.1, H.2.1, ca_x H.2.2 (fun w' o' e' g' => ?_)⟩
    refine lo_60 (W0 := fun k' x => ((k' : Int) < k.toInt ∧ (k' : Int) < (z.1 127 26).toInt ∧ wnt z k' x) ∨ (k' = k.toInt.toNat ∧ x = (z.1 182 k.toInt.toNat).toInt.toNat)) hz k0 (by omega) (fun k' x q => ?_) (fun w2 lk2 g2 => ih _ _ g2 (by omega) (lkp_m lk2 (fun k' x => ?_))) _ _ _ g' (by decide) (Or.inr i_0) (lkp_m (lkp_c (k := k.toInt.toNat) lk o' e' rfl nz) (fun k' x => ⟨fun q => Or.inl q, fun q => ?_⟩))
    · rcases q with q | q
      · exact nz k' x q
      · rw [q.1]
        exact (hz.2.2.2.2.1 k.toInt.toNat (by omega)).1
    · constructor
      · intro q
        rcases q with (q | ⟨q, q2⟩) | ⟨q, i, q1, q2⟩
        · exact ⟨by omega, q.2⟩
        · exact ⟨by omega, by omega, Or.inl (by rw [q]; omega)⟩
        · exact ⟨by omega, by omega, Or.inr ⟨i, by rw [q]; exact q1, by rw [q]; exact q2⟩⟩
      · intro q
        obtain ⟨q1, q2, q3⟩ := q
        by_cases z2 : (k' : Int) = k.toInt
        · have e : k' = k.toInt.toNat := by omega
          rw [e] at q3
          rcases q3 with q3 | ⟨i, q3, q4⟩
          · exact Or.inl (Or.inr ⟨e, by omega⟩)
          · exact Or.inr ⟨e, i, q3, q4⟩
        · exact Or.inl (Or.inl ⟨by omega, q2, q3⟩)
    · rcases q with q | ⟨_, i', q, _⟩
      · exact q
      · rw [i_0] at q
        omega
theorem lo_x {v z : MW} {Q Q' : MW → Prop} (h : p_Mo_look z Q) (hz : LkZ v z) (k182 : ∀ k : Nat, (k : Int) < (z.1 127 26).toInt → 0 ≤ (z.1 182 k).toInt) (k : ∀ w, LkP v z (fun k x => (k : Int) < (z.1 127 26).toInt ∧ wnt z k x) w → Q w → Q' w) : p_Mo_look z Q' := by
  rw [p_Mo_look.eq_1] at h ⊢
  refine lo_2 hz (fun w lk g => lo_34 hz k182 k _ _ _ g (by decide) (lkp_m lk (fun k' x => ⟨fun q => False.elim q, fun q => ?_⟩))) _ _ _ h (by decide) ⟨rfl, fun _ _ _ => rfl⟩ (fun x' hx' => by rw [i_0] at hx'; omega)
  have := q.1
  rw [i_0] at this
  omega
