/-! the reference measures: to the end -/
theorem m_2P {z w : MW} (hz : MZb z) (o : oM z w) : ((2 : Int32) * (w.1 127 11)).toInt = (NNd z : Int) ∧ ((NNd z : Nat) : Int) = 2 * pM z ∧ NNd z ≤ 48 := by
  have p := hz.2.1
  have e : w.1 127 11 = z.1 127 11 := o.2 127 11 rfl
  have m : ((2 : Int32) * (z.1 127 11)).toInt = 2 * pM z := ti_mul2 (by decide) rfl (by unfold pM at *; omega) (by unfold pM at *; omega)
  rw [e, m]
  unfold NNd
  omega
theorem ar1 {a g : Int} {n N : Nat} (e : a = (N : Int)) (c : a ≤ g) (h : n < N) : (n : Int) < g := by omega
theorem ar2 {a g : Int} {N : Nat} (e : a = (N : Int)) (c : ¬ a ≤ g) : g < (N : Int) := by omega
theorem ar3 {g : Int} {N : Nat} (g0 : 0 ≤ g) (g1 : g < (N : Int)) : g.toNat < N := by omega
theorem ar4 {n : Nat} {g x : Int} (e : x = g + 1) (h : (n : Int) < x) (c : ¬ (n : Int) = g) : (n : Int) < g := by omega
theorem ar5 {n : Nat} {g : Int} (c : (n : Int) = g) : n = g.toNat := by omega
theorem ar6 {g x : Int} (e : x = g + 1) (h : 0 ≤ g) : 0 ≤ x := by omega
theorem ar7 {g x : Int} {N : Nat} (e : x = g + 1) (h : g < (N : Int)) : x ≤ (N : Int) := by omega
theorem ar8 {g : Int32} {N : Nat} (hN : N ≤ 48) (g0 : 0 ≤ g.toInt) (g1 : g.toInt < (N : Int)) : (g + (1 : Int32)).toInt = g.toInt + 1 := ti_add2 rfl i_1 (by omega) (by omega)
theorem ar9 {a b : Int} (e : a = b) (h : b = 0) : a = 0 := by omega
theorem ar10 {a b : Int} (e : a = b) (h : b = 0 ∨ b = 1) : a = 0 ∨ a = 1 := by omega
/-- the pipe of an end is free -/
theorem m_fr {z w : MW} {e : Int32} {N : Nat} (o : oM z w) (hN : N ≤ 48) (e0 : 0 ≤ e.toInt) (e1 : e.toInt < (N : Int)) : (lg_cmp (((w.2.1 127 40) >>> ((e / (2 : Int32)).toInt64 &&& 63)) &&& (1 : Int64)) (0 : Int64)).toInt = 0 ↔ frM z e.toInt.toNat := by
  have f2 : (e / (2 : Int32)).toInt = e.toInt / 2 := nb_div e0 (by decide) (by decide)
  have fr := lb_bit (w.2.1 127 40) (a := e / (2 : Int32)) (by omega) (by omega)
  rw [show (e / (2 : Int32)).toInt.toNat = e.toInt.toNat / 2 by omega] at fr
  have ez : lb (w.2.1 127 40) (e.toInt.toNat / 2) = lb (z.2.1 127 40) (e.toInt.toNat / 2) := by rw [o.1]
  rw [ez] at fr
  exact fr
theorem m_xo {e : Int32} (e0 : 0 ≤ e.toInt) : (e ^^^ (1 : Int32)).toInt.toNat = xo e.toInt.toNat ∧ 0 ≤ (e ^^^ (1 : Int32)).toInt := by
  have x1 := xo_i e0
  omega
theorem m_at {z w : MW} {e : Int32} (hz : MZb z) (o : oM z w) (hN : ((NNd z : Nat) : Int) = 2 * pM z) (e0 : 0 ≤ e.toInt) (e1 : e.toInt < NNd z) : atM w (e ^^^ (1 : Int32)).toInt.toNat < tM w := by
  have atw : atM w (e ^^^ (1 : Int32)).toInt.toNat = atM z (e ^^^ (1 : Int32)).toInt.toNat := by
    unfold atM
    rw [o.2 170 _ rfl]
  have tmw : tM w = tM z := by
    unfold tM
    rw [o.2 127 4 rfl]
  rw [atw, tmw, (m_xo e0).1]
  have q := xo_lt (e := e.toInt.toNat) (N := (pM z).toNat) (by omega)
  exact hz.2.2.2.2.1 _ (by omega)
theorem m_kd {z w : MW} (hz : MZb z) (o : oM z w) (y : Nat) (hy : (y : Int) < tM w) : 0 ≤ (w.1 163 y).toInt := by
  have tmw : tM w = tM z := by
    unfold tM
    rw [o.2 127 4 rfl]
  rw [o.2 163 y rfl]
  exact hz.2.2.2.1 y (by rw [← tmw]; exact hy)
theorem m_26 {z w : MW} (hz : MZb z) (o : oM z w) : (w.1 127 26).toInt ≤ 24 := by
  rw [o.2 127 26 rfl]
  exact hz.2.2.1
theorem m_ea {z w : MW} {t : Int} {e g : Int32} (hz : MZb z) (hM : MIx z t w) (hN : ((NNd z : Nat) : Int) = 2 * pM z) (h48 : NNd z ≤ 48) (e0 : 0 ≤ e.toInt) (e1 : e.toInt < NNd z) (gl : g.toInt.toNat < NNd z) (gn : ¬ LLw w g.toInt.toNat = -1) : ((w.1 188 g.toInt.toNat) + (w.1 169 ((e / (2 : Int32)).toInt.toNat))).toInt = LLw w g.toInt.toNat + szM z e.toInt.toNat ∧ ((w.1 189 g.toInt.toNat) + (1 : Int32)).toInt = LPw w g.toInt.toNat + 1 := by
  have f2 : (e / (2 : Int32)).toInt = e.toInt / 2 := nb_div e0 (by decide) (by decide)
  have G := hM.2.2 g.toInt.toNat gl gn
  have G1 := G.1
  have G2 := G.2.1
  have G3 := G.2.2.1
  have cb := ctb_le (hasL w) (NNd z)
  have s1 : 1 ≤ szM z e.toInt.toNat ∧ szM z e.toInt.toNat ≤ 200 := hz.2.2.2.2.2.2 (e.toInt.toNat / 2) (by omega)
  have esz : (w.1 169 ((e / (2 : Int32)).toInt.toNat)).toInt = szM z e.toInt.toNat := by
    unfold szM
    rw [hM.1.2 169 _ rfl, show (e / (2 : Int32)).toInt.toNat = e.toInt.toNat / 2 by omega]
  clear G
  exact ⟨ti_add2 rfl esz (by omega) (by omega), ti_add2 rfl i_1 (by omega) (by omega)⟩
theorem mx_111 {z : MW} {t : Int} {e : Int32} {E E' : Int32 → MW → Prop} {Q Q' : MW → Prop} (tk : ∀ y : Int, y = t → tkM z y) (hz : MZb z) (e0 : 0 ≤ e.toInt) (e1 : e.toInt < NNd z) {P : MW → Prop} (k : ∀ (mo : Int32) (w : MW), (mo.toInt = 0 ∨ mo.toInt = 1) → MIx z t w → (mo.toInt = 0 → P w ∧ ∀ g, g < NNd z → NBt z w e.toInt.toNat g) → E mo w → E' mo w) : ∀ (m : Nat) (mo g : Int32) (w : MW), q_Mo_measure_111 e E Q m mo g w → 0 ≤ g.toInt → g.toInt ≤ NNd z → (mo.toInt = 0 ∨ mo.toInt = 1) → MIx z t w → (mo.toInt = 0 → P w ∧ ∀ g' : Nat, (g' : Int) < g.toInt → NBt z w e.toInt.toNat g') → q_Mo_measure_111 e E' Q' m mo g w := by
  intro m
  induction m with
  | zero => exact fun _ _ _ h _ _ _ _ _ => False.elim h
  | succ m ih =>
    intro mo g w h g0 gN hm hM inv
    have N2 := m_2P hz hM.1
    have fr := m_fr hM.1 N2.2.2 e0 e1
    rw [q_Mo_measure_111.eq_2] at h ⊢
    refine ⟨fun c => k mo w hm hM (fun q => ⟨(inv q).1, fun g' hg' => (inv q).2 g' (ar1 N2.1 c hg')⟩) (h.1 c), fun c => ⟨fun d => k mo w hm hM (fun q => ⟨(inv q).1, fun g' _ ad => absurd (fr.mpr ad.1) d⟩) ((h.2 c).1 d), fun d => ?_⟩⟩
    have H := (h.2 c).2 d
    have frE : frM z e.toInt.toNat := fr.mp (Classical.not_not.mp d)
    have g1 : g.toInt < (NNd z : Int) := ar2 N2.1 c
    have eg := ar8 N2.2.2 g0 g1
    have b0 := ar6 eg g0
    have b1 := ar7 eg g1
    have skip : NBt z w e.toInt.toNat g.toInt.toNat → ∀ mo' : Int32, mo'.toInt = mo.toInt → q_Mo_measure_111 e E Q m mo' (g + (1 : Int32)) w → q_Mo_measure_111 e E' Q' m mo' (g + (1 : Int32)) w := fun nb mo' em r => by
      refine ih mo' _ _ r b0 b1 (ar10 em hm) hM (fun q => ?_)
      have I := inv (ar9 em.symm q)
      refine ⟨I.1, fun g' hg' => ?_⟩
      by_cases c2 : (g' : Int) = g.toInt
      · rw [ar5 c2]
        exact nb
      · exact I.2 g' (ar4 eg hg' c2)
    refine ⟨H.1, fun c1 => skip (fun _ gn => absurd c1 gn) mo rfl (H.2.1 c1), fun c1 => ?_⟩
    have xm := m_xo e0
    refine nd_x (H.2.2 c1) xm.2 g0 (m_26 hz hM.1) (m_kd hz hM.1) (m_at hz hM.1 N2.2.1 e0 e1) (HP_c hM.1 hz.2.2.2.2.2.1) (fun r al rn R => ⟨fun z2 => absurd z2 rn, fun z2 => ?_⟩) (fun no R => ⟨fun z2 => skip (fun ad _ => ?_) mo rfl (R.1 z2), fun z2 => absurd m1_i z2⟩)
    · have S := R.2 z2
      rw [xm.1, AL_c hM.1] at al
      have ad : ADm z e.toInt.toNat g.toInt.toNat := ⟨frE, r, al⟩
      have gn : ¬ LLw w g.toInt.toNat = -1 := c1
      have gl : g.toInt.toNat < NNd z := ar3 g0 g1
      have el : e.toInt.toNat < NNd z := ar3 e0 e1
      have ea := m_ea hz hM N2.2.1 N2.2.2 e0 e1 gl gn
      refine mx_pair hm (fun bt g3 => ih _ _ _ g3 b0 b1 (Or.inr i_1) (mi_step tk hz hM el gl ad gn ea.1 ea.2 bt) (fun q => absurd q (by decide))) (fun nb mo' em g3 => skip (fun _ _ => ⟨nb.1, ?_⟩) mo' em g3) S
      rw [← ea.1, ← ea.2]
      exact nb.2
    · obtain ⟨_, n, al⟩ := ad
      rw [xm.1] at no
      exact absurd ((AL_c hM.1 _ _ _).mpr al) (no n)
theorem mx_98 {z : MW} {t : Int} {E E' : Int32 → MW → Prop} {Q Q' : MW → Prop} (tk : ∀ y : Int, y = t → tkM z y) (hz : MZb z) (k : ∀ (mo : Int32) (w : MW), (mo.toInt = 0 ∨ mo.toInt = 1) → MIx z t w → (mo.toInt = 0 → ∀ e g, e < NNd z → g < NNd z → NBt z w e g) → E mo w → E' mo w) : ∀ (m : Nat) (mo e : Int32) (w : MW), q_Mo_measure_98 E Q m mo e w → 0 ≤ e.toInt → e.toInt ≤ NNd z → (mo.toInt = 0 ∨ mo.toInt = 1) → MIx z t w → (mo.toInt = 0 → ∀ e' g : Nat, (e' : Int) < e.toInt → g < NNd z → NBt z w e' g) → q_Mo_measure_98 E' Q' m mo e w := by
  intro m
  induction m with
  | zero => exact fun _ _ _ h _ _ _ _ _ => False.elim h
  | succ m ih =>
    intro mo e w h e0 eN hm hM inv
    have N2 := m_2P hz hM.1
    rw [q_Mo_measure_98.eq_2] at h ⊢
    refine ⟨fun c => k mo w hm hM (fun q e' g he' hg => inv q e' g (by omega) hg) (h.1 c), fun c => ?_⟩
    have ee := ti_add2 (Eq.refl e.toInt) i_1 (by omega) (by omega)
    refine mx_111 tk hz e0 (by omega) (P := fun w => ∀ e' g : Nat, (e' : Int) < e.toInt → g < NNd z → NBt z w e' g) (fun mo' w' hm' hM' inv' g' => ih _ _ _ g' (by omega) (by omega) hm' hM' (fun q e' g he' hg => ?_)) _ _ _ _ (h.2 c) (by decide) (by rw [i_0]; omega) hm hM (fun q => ⟨inv q, fun g' hg' => by rw [i_0] at hg'; omega⟩)
    by_cases c2 : (e' : Int) = e.toInt
    · rw [show e' = e.toInt.toNat by omega]
      exact (inv' q).2 g hg
    · exact (inv' q).1 e' g (by omega) hg
theorem mx_90 {z : MW} {t : Int} {E E' : MW → Prop} {Q Q' : MW → Prop} (tk : ∀ y : Int, y = t → tkM z y) (hz : MZb z) (k : ∀ w, MIx z t w → (∀ e g, e < NNd z → g < NNd z → NBt z w e g) → E w → E' w) : ∀ (m : Nat) (mo : Int32) (w : MW), q_Mo_measure_90 E Q m mo w → (mo.toInt = 0 ∨ mo.toInt = 1) → MIx z t w → (mo.toInt = 0 → ∀ e g, e < NNd z → g < NNd z → NBt z w e g) → q_Mo_measure_90 E' Q' m mo w := by
  intro m
  induction m with
  | zero => exact fun _ _ h _ _ _ => False.elim h
  | succ m ih =>
    intro mo w h hm hM inv
    rw [q_Mo_measure_90.eq_2] at h ⊢
    exact ⟨fun c => k w hM (inv c) (h.1 c), fun c => mx_98 tk hz (fun mo' w' hm' hM' inv' g' => ih _ _ g' hm' hM' inv') _ _ _ _ (h.2 c) (by decide) (by rw [i_0]; omega) (Or.inl i_0) hM (fun _ e' g he' => by rw [i_0] at he'; omega)⟩
/-- the start: the last pipes -/
theorem mx_2 {z : MW} {t : Int32} {E E' : MW → Prop} {Q Q' : MW → Prop} (hz : MZb z) (k : ∀ w, oM z w → (∀ e, e < NNd z → (BsM z t.toInt e ∧ LLw w e = szM z e ∧ LPw w e = 1) ∨ (¬ BsM z t.toInt e ∧ LLw w e = -1)) → E w → E' w) : ∀ (m : Nat) (e : Int32) (w : MW), q_Mo_measure_2 t E Q m e w → 0 ≤ e.toInt → e.toInt ≤ NNd z → oM z w → (∀ e' : Nat, (e' : Int) < e.toInt → (BsM z t.toInt e' ∧ LLw w e' = szM z e' ∧ LPw w e' = 1) ∨ (¬ BsM z t.toInt e' ∧ LLw w e' = -1)) → q_Mo_measure_2 t E' Q' m e w := by
  intro m
  induction m with
  | zero => exact fun _ _ h _ _ _ _ => False.elim h
  | succ m ih =>
    intro e w h e0 eN o inv
    have N2 := m_2P hz o
    have f2 : (e / (2 : Int32)).toInt = e.toInt / 2 := nb_div e0 (by decide) (by decide)
    have x1 := xo_i e0
    have exn : (e ^^^ (1 : Int32)).toInt.toNat = xo e.toInt.toNat := by omega
    rw [q_Mo_measure_2.eq_2] at h ⊢
    refine ⟨fun c => k w o (fun e' he' => inv e' (by omega)) (h.1 c), fun c => ?_⟩
    have H := h.2 c
    have fr := lb_bit (w.2.1 127 40) (a := e / (2 : Int32)) (by omega) (by omega)
    rw [show (e / (2 : Int32)).toInt.toNat = e.toInt.toNat / 2 by omega, show w.2.1 127 40 = z.2.1 127 40 by rw [o.1]] at fr
    have ez : w.2.1 127 40 = z.2.1 127 40 := by rw [o.1]
    have ee := ti_add2 (Eq.refl e.toInt) i_1 (by omega) (by omega)
    have fin : ∀ (v1 v2 : Int32), ((BsM z t.toInt e.toInt.toNat ∧ v1.toInt = szM z e.toInt.toNat ∧ v2.toInt = 1) ∨ (¬ BsM z t.toInt e.toInt.toNat ∧ v1.toInt = -1)) → q_Mo_measure_2 t E Q m (e + (1 : Int32)) (sI (sI w 188 e.toInt.toNat v1) 189 e.toInt.toNat v2) → q_Mo_measure_2 t E' Q' m (e + (1 : Int32)) (sI (sI w 188 e.toInt.toNat v1) 189 e.toInt.toNat v2) := fun v1 v2 hv g => by
      refine ih _ _ g (by omega) (by omega) (oM_9 (oM_8 o _ _) _ _) (fun e' he' => ?_)
      unfold LLw LPw
      rw [sI_oth _ _ _ _ _ _ (by decide), sI_if, sI_if]
      by_cases q : e' = e.toInt.toNat
      · rw [if_pos q, if_pos q, q]
        exact hv
      · rw [if_neg q, if_neg q, sI_oth _ _ _ _ _ _ (by decide)]
        exact inv e' (by omega)
    have noB : ¬ BsM z t.toInt e.toInt.toNat → q_Mo_measure_44 t e 0 w (fun (x2_2 : Int32) (w : MW) => q_Mo_measure_2 t E Q m x2_2 w) E Q → q_Mo_measure_44 t e 0 w (fun (x2_2 : Int32) (w : MW) => q_Mo_measure_2 t E' Q' m x2_2 w) E' Q' := fun nb g => by
      rw [q_Mo_measure_44.eq_1, q_Mo_measure_66.eq_1] at g ⊢
      have G := g.1 i_0
      exact ⟨fun _ => ⟨G.1, fun _ => ⟨(G.2.1 i_0).1, fin (-1) 0 (Or.inr ⟨nb, m1_i⟩) (G.2.1 i_0).2⟩, fun z2 => absurd i_0 z2⟩, fun z2 => absurd i_0 z2⟩
    rw [exn, o.2 170 _ rfl] at H ⊢
    refine ⟨H.1, fun d => noB (fun b => d b.1) (H.2.1 d), fun d => ⟨fun d2 => noB (fun b => d2 ?_) ((H.2.2 d).1 d2), fun d2 => ?_⟩⟩
    · rw [ez]
      exact fr.mpr b.2
    · have G := (H.2.2 d).2 d2
      have B : BsM z t.toInt e.toInt.toNat := ⟨Classical.not_not.mp d, fr.mp (by rw [← ez]; exact Classical.not_not.mp d2)⟩
      have n1 : ¬ (1 : Int32).toInt = 0 := by decide
      rw [q_Mo_measure_44.eq_1, q_Mo_measure_66.eq_1] at G ⊢
      have G1 := G.2 n1
      refine ⟨fun z2 => absurd z2 n1, fun _ => ⟨G1.1, G1.2.1, fun z2 => absurd z2 n1, fun _ => ⟨(G1.2.2.2 n1).1, fin _ 1 (Or.inl ⟨B, ?_, i_1⟩) (G1.2.2.2 n1).2⟩⟩⟩
      unfold szM
      rw [o.2 169 _ rfl, show (e / (2 : Int32)).toInt.toNat = e.toInt.toNat / 2 by omega]
/-- measure: the least costs -/
theorem mx_x {z : MW} {t : Int32} {Q Q' : MW → Prop} (h : p_Mo_measure z t Q) (tk : tkM z t.toInt) (hz : MZb z) (k : ∀ w, oM z w → LxF (NNd z) (szM z) (ADm z) (BsM z t.toInt) (LLw w) (LPw w) → (∀ e, e < NNd z → LLw w e ≤ 9600) → Q w → Q' w) : p_Mo_measure z t Q' := by
  have N2 := m_2P hz (oM_r z)
  have tk' : ∀ y : Int, y = t.toInt → tkM z y := fun y e => by rw [e]; exact tk
  have sz1 : ∀ e, e < NNd z → 1 ≤ szM z e ∧ szM z e ≤ 200 := fun e he => hz.2.2.2.2.2.2 (e / 2) (by omega)
  rw [p_Mo_measure.eq_1] at h ⊢
  refine mx_2 hz (fun w o ini g => ?_) _ _ _ h (by decide) (by rw [i_0]; omega) (oM_r z) (fun e' he' => by rw [i_0] at he'; omega)
  have M0 : MIx z t.toInt w := by
    refine ⟨o, fun e he b => ?_, fun e he n => ?_⟩
    · rcases ini e he with q | q
      · exact q.2
      · exact absurd b q.1
    · rcases ini e he with q | q
      · have s := sz1 e he
        have c := ctb_lt (f := fun _ => false) (g := hasL w) (k := e) rfl (decide_eq_true n) _ he (fun x _ z2 => by cases z2)
        exact ⟨by omega, by omega, by omega, Or.inl q.1⟩
      · exact absurd q.2 n
  refine mx_90 tk' hz (fun w2 M2 nb g2 => k w2 M2.1 ⟨fun e he => (sz1 e he).1, fun e he b => ?_, fun e g he hg ad gn => nb e g he hg ad gn, fun e he n => ?_⟩ (fun e he => ?_) g2) _ _ _ g (Or.inr i_1) M0 (fun q => absurd q (by decide))
  · have q := M2.2.1 e he b
    have s := sz1 e he
    exact ⟨by omega, Or.inr ⟨q.1, by omega⟩⟩
  · have q := M2.2.2 e he n
    refine ⟨by omega, q.1, ?_⟩
    rcases q.2.2.2 with q4 | ⟨g', hg', ad, gn, lx⟩
    · have b := M2.2.1 e he q4
      exact Or.inl ⟨q4, b.1, b.2⟩
    · have nn := (nb e g' he hg' ad gn).2
      exact Or.inr ⟨g', hg', ad, gn, by omega, by omega⟩
  · by_cases n : LLw w2 e = -1
    · omega
    · have q := (M2.2.2 e he n).2.2.1
      have c := ctb_le (hasL w2) (NNd z)
      omega
