/-! the reference's isCalm and isSafe -/
/-- only longs differ -/
def oL (w w' : MW) : Prop := w'.1 = w.1 ∧ w'.2.2 = w.2.2
theorem cm_6 {w0 : MW} {f : Int32} {E E' : MW → Prop} {Q Q' : Int32 → MW → Prop} (n44 : nsp w0 ≤ 44) (k : ∀ w', oJ 196 w0 w' → (∀ l : Nat, 1 ≤ l → l < 16 → ∀ y, Fl w' l y ↔ Rea (En w0) (Si w0 l) y) → E w' → E' w') : ∀ (m : Nat) (x : Int32) (w : MW), q_Mo_isCalm_6 f E Q m x w → 1 ≤ x.toInt → x.toInt ≤ 16 → oJ 196 w0 w → (∀ l : Nat, 1 ≤ l → (l : Int) < x.toInt → ∀ y, Fl w l y ↔ Rea (En w0) (Si w0 l) y) → q_Mo_isCalm_6 f E' Q' m x w := by
  intro m
  induction m with
  | zero => exact fun _ _ h _ _ _ _ => False.elim h
  | succ m ih =>
    intro x w h x0 x1 o inv
    rw [q_Mo_isCalm_6.eq_2] at h ⊢
    refine ⟨fun c => k w o (fun l l0 l1 => inv l l0 (by omega)) (h.1 c), fun c => ?_⟩
    have g := h.2 c
    have e := ti_add2 (Eq.refl x.toInt) i_1 (by omega) (by omega)
    have en : nsp w = nsp w0 := by
      unfold nsp
      rw [o.1]
    have eE : En w = En w0 := by
      funext z y
      unfold En
      rw [en, o.2.2 195 z (by decide)]
    have eS : Si w = Si w0 := by
      funext a y
      unfold Si
      rw [en, o.1]
    refine fl_x g (by rw [en]; exact n44) (fun v hv gv => ⟨gv.1, ih _ _ gv.2 (by omega) (by omega) (oJ_s o _ _) (fun l l0 l1 y => ?_)⟩)
    unfold Fl
    rw [sJ_if]
    by_cases q : l = x.toInt.toNat
    · rw [if_pos q, hv y, eE, eS, q, show ((x.toInt.toNat : Nat) : Int) = x.toInt by omega]
    · rw [if_neg q]
      exact inv l l0 (by omega) y
def EdN (w : MW) (z y : Nat) : Prop := (z : Int) < nsp w ∧ EdM w z y
/-- what liquid l floods -/
def FlM (w : MW) (l x : Nat) : Prop := Rea (EdN w) (Si w l) x
def BdM (w : MW) (x a b : Nat) : Prop := Bd (FlM w) (Mt w) (nsp w) x a b
def LbM (w : MW) (x a b : Nat) : Prop := LBd (FlM w) (Mt w) (nsp w) x a b
def clM (w : MW) : Prop := ∀ x a b, ¬ BdM w x a b
theorem bd_c {F F' M M' : Nat → Nat → Prop} {n n' : Int} (hF : ∀ l, 1 ≤ l → l < 16 → ∀ y, F l y ↔ F' l y) (hM : M = M') (hn : n = n') (x a b : Nat) : Bd F M n x a b ↔ Bd F' M' n' x a b := by
  unfold Bd
  rw [hM, hn]
  constructor
  · intro h
    exact ⟨h.1, h.2.1, h.2.2.1, h.2.2.2.1, (hF a h.2.1 (by have := h.2.2.1; have := h.2.2.2.1; omega) x).mp h.2.2.2.2.1, (hF b (by have := h.2.1; have := h.2.2.1; omega) h.2.2.2.1 x).mp h.2.2.2.2.2.1, h.2.2.2.2.2.2⟩
  · intro h
    exact ⟨h.1, h.2.1, h.2.2.1, h.2.2.2.1, (hF a h.2.1 (by have := h.2.2.1; have := h.2.2.2.1; omega) x).mpr h.2.2.2.2.1, (hF b (by have := h.2.1; have := h.2.2.1; omega) h.2.2.2.1 x).mpr h.2.2.2.2.2.1, h.2.2.2.2.2.2⟩
theorem lbd_c {F F' M M' : Nat → Nat → Prop} {n n' : Int} (hB : ∀ x a b, Bd F M n x a b ↔ Bd F' M' n' x a b) (x a b : Nat) : LBd F M n x a b ↔ LBd F' M' n' x a b := by
  unfold LBd
  rw [hB x a b]
  constructor
  · intro h
    exact ⟨h.1, fun x' a' b' q => h.2 x' a' b' ((hB x' a' b').mpr q)⟩
  · intro h
    exact ⟨h.1, fun x' a' b' q => h.2 x' a' b' ((hB x' a' b').mp q)⟩
theorem atM_c {w u : MW} (h : w.1 = u.1) : atM w = atM u := by
  funext e
  unfold atM
  rw [h]
theorem tkM_c {w u : MW} (h : w.1 = u.1) : tkM w = tkM u := by
  funext t
  unfold tkM
  rw [h]
theorem psM_c {w u : MW} (h : w.1 = u.1) : psM w = psM u := by
  funext e g
  unfold psM
  rw [atM_c h, h]
theorem nsp_c {w u : MW} (h : w.1 = u.1) : nsp w = nsp u := by
  unfold nsp
  rw [h]
theorem EdM_c {w u : MW} (h : w.1 = u.1) : EdM w = EdM u := by
  have e1 : tM w = tM u := by
    unfold tM
    rw [h]
  have e2 : pM w = pM u := by
    unfold pM
    rw [h]
  unfold EdM
  rw [e1, e2, atM_c h, tkM_c h, psM_c h]
theorem FlM_c {w u : MW} (h : w.1 = u.1) : FlM w = FlM u := by
  have e1 : EdN w = EdN u := by
    funext z y
    unfold EdN
    rw [nsp_c h, EdM_c h]
  have e2 : Si w = Si u := by
    funext a y
    unfold Si
    rw [nsp_c h, h]
  funext l x
  unfold FlM
  rw [e1, e2]
theorem Mt_c {w u : MW} (h : w.1 = u.1) : Mt w = Mt u := by
  funext a b
  unfold Mt
  rw [h]
theorem BdM_c {w u : MW} (h : w.1 = u.1) : BdM w = BdM u := by
  funext x a b
  unfold BdM
  rw [FlM_c h, Mt_c h, nsp_c h]
theorem LbM_c {w u : MW} (h : w.1 = u.1) : LbM w = LbM u := by
  funext x a b
  unfold LbM
  rw [FlM_c h, Mt_c h, nsp_c h]
theorem clM_c {w u : MW} (h : w.1 = u.1) : clM w = clM u := by
  unfold clM
  rw [BdM_c h]
/-- isCalm -/
theorem cm_x {w : MW} {f : Int32} {Q Q' : Int32 → MW → Prop} (h : p_Mo_isCalm w f Q) (T0 : 0 ≤ tM w) (T1 : tM w ≤ 20) (P0 : 0 ≤ pM w) (P1 : pM w ≤ 24) (k1 : ∀ w', oL w w' → clM w → Q 1 w' → Q' 1 w') (k0 : ∀ (w' : MW) (x a b : Int32), oL w w' → LbM w x.toInt.toNat a.toInt.toNat b.toInt.toNat → 0 ≤ x.toInt → 0 ≤ a.toInt → 0 ≤ b.toInt → Q 0 (dgW w' f x a b) → Q' 0 (dgW w' f x a b)) : p_Mo_isCalm w f Q' := by
  have en : nsp w = tM w + pM w := ti_add2 rfl rfl (by unfold tM pM at *; omega) (by unfold tM pM at *; omega)
  rw [p_Mo_isCalm.eq_1] at h ⊢
  refine jn_x h T0 T1 P0 P1 (fun w1 o1 b1 g1 => ?_)
  have n1 : nsp w1 = nsp w := nsp_c o1.1
  refine cm_6 (by omega) (fun w2 o2 f2 g2 => ?_) _ _ _ g1 (by decide) (by decide) (oJ_r _ _) (fun l l0 l1 => by rw [i_1] at l1; omega)
  have e21 : w2.1 = w.1 := o2.1.trans o1.1
  have n2 : nsp w2 = nsp w := nsp_c e21
  have eE : En w1 = EdN w := by
    funext z y
    apply propext
    unfold En EdN
    rw [n1]
    constructor
    · intro q
      exact ⟨q.1, (b1 z y (by omega)).mp q.2⟩
    · intro q
      exact ⟨q.1, (b1 z y (by omega)).mpr q.2⟩
  have eS : Si w1 = Si w := by
    funext a y
    unfold Si
    rw [n1, o1.1]
  rw [eE, eS] at f2
  have eB : ∀ x a b, Bd (Fl w2) (Mt w2) (nsp w2) x a b ↔ Bd (FlM w) (Mt w) (nsp w) x a b := bd_c f2 (Mt_c e21) n2
  exact cm_31 (by omega) (fun nb gE => k1 w2 ⟨e21, o2.2.1.trans o1.2.1⟩ (fun x a b q => nb x a b ((eB x a b).mpr q)) gE) (fun x a b hb x0 a0 b0 gQ => k0 w2 x a b ⟨e21, o2.2.1.trans o1.2.1⟩ ((lbd_c eB _ _ _).mp hb) x0 a0 b0 gQ) _ _ g2 (by decide) (fun x' a' b' hx => by rw [i_0] at hx; omega)
/-- thing t in position p is a failure that the reference tries -/
def vis (w : MW) (t p : Nat) : Prop := (t : Int) < tM w ∧ 2 ≤ (w.1 163 t).toInt ∧ p < 5 ∧ ¬ (p : Int) = (w.1 167 t).toInt ∧ ¬ ((w.1 163 t).toInt = 6 ∧ p = 1)
def Cf (w : MW) (t p : Nat) : MW := sI w 167 t (nI p)
/-- the first failure, and the first meeting in it -/
def FBd (w : MW) (f : Int) (x a b : Nat) : Prop := (f = 1 ∧ LbM w x a b) ∨ (clM w ∧ ∃ t p : Nat, f = 2 + 10 * t + p ∧ vis w t p ∧ (∀ t' p', vis w t' p' → (t' < t ∨ (t' = t ∧ p' < p)) → clM (Cf w t' p')) ∧ LbM (Cf w t p) x a b)
def SfM (w : MW) (r : Int32) (w' : MW) : Prop := w'.2.2 = w.2.2 ∧ ((r = 1 ∧ w'.1 = w.1 ∧ clM w ∧ ∀ t p, vis w t p → clM (Cf w t p)) ∨ (r = 0 ∧ ∃ f x a b : Int32, w'.1 = (dgW w f x a b).1 ∧ FBd w f.toInt x.toInt.toNat a.toInt.toNat b.toInt.toNat ∧ 0 ≤ x.toInt ∧ 0 ≤ a.toInt ∧ 0 ≤ b.toInt))
theorem sI_c {w u : MW} (h : w.1 = u.1) (k j : Nat) (v : Int32) : (sI w k j v).1 = (sI u k j v).1 := by
  funext a b
  rw [sI_at, sI_at, h]
theorem dgW_c {w u : MW} (h : w.1 = u.1) (f x a b : Int32) : (dgW w f x a b).1 = (dgW u f x a b).1 := sI_c (sI_c (sI_c (sI_c h _ _ _) _ _ _) _ _ _) _ _ _
theorem dgW_b (w : MW) (t : Nat) (q f x a b : Int32) : sI (dgW (sI w 167 t q) f x a b) 167 t (w.1 167 t) = dgW w f x a b := by
  unfold dgW
  rw [sI_cm _ 127 48 167 t _ _ (fun z => absurd z.1 (by decide)), sI_cm _ 127 47 167 t _ _ (fun z => absurd z.1 (by decide)), sI_cm _ 127 46 167 t _ _ (fun z => absurd z.1 (by decide)), sI_cm _ 127 45 167 t _ _ (fun z => absurd z.1 (by decide)), sI_sI, sI_eta]
/-- how the tries of one thing stand -/
def T30 (w0 : MW) (t : Nat) (c : Int32) (p : Int) (w : MW) : Prop := w.2.2 = w0.2.2 ∧ ((c = 1 ∧ (∃ q, w.1 = (sI w0 167 t q).1) ∧ ∀ p' : Nat, vis w0 t p' → (p' : Int) < p → clM (Cf w0 t p')) ∨ (c = 0 ∧ ∃ q f x a b : Int32, w.1 = (dgW (sI w0 167 t q) f x a b).1 ∧ FBd w0 f.toInt x.toInt.toNat a.toInt.toNat b.toInt.toNat ∧ 0 ≤ x.toInt ∧ 0 ≤ a.toInt ∧ 0 ≤ b.toInt))
theorem sf_30 {w0 : MW} {t had : Int32} {E E' : Int32 → MW → Prop} {Q Q' : Int32 → MW → Prop} (t0 : 0 ≤ t.toInt) (t1 : t.toInt < tM w0) (T0 : 0 ≤ tM w0) (T1 : tM w0 ≤ 20) (P0 : 0 ≤ pM w0) (P1 : pM w0 ≤ 24) (eh : had = w0.1 167 t.toInt.toNat) (c0 : clM w0) (pre : ∀ t' p' : Nat, vis w0 t' p' → (t' : Int) < t.toInt → clM (Cf w0 t' p')) (k : ∀ c w', T30 w0 t.toInt.toNat c 5 w' → E c w' → E' c w') : ∀ (m : Nat) (c p : Int32) (w : MW), q_Mo_isSafe_30 t had E Q m c p w → 0 ≤ p.toInt → p.toInt ≤ 5 → T30 w0 t.toInt.toNat c p.toInt w → q_Mo_isSafe_30 t had E' Q' m c p w := by
  intro m
  induction m with
  | zero => exact fun _ _ _ h _ _ _ => False.elim h
  | succ m ih =>
    intro c p w h p0 p1 st
    have ep := ti_add2 (Eq.refl p.toInt) i_1 (by omega) (by omega)
    have ek : w.1 163 t.toInt.toNat = w0.1 163 t.toInt.toNat := by
      rcases st.2 with ⟨_, ⟨q, e⟩, _⟩ | ⟨_, q, f, x, a, b, e, _⟩
      · rw [e, sI_oth _ _ _ _ _ _ (by decide)]
      · rw [e]
        unfold dgW
        rw [sI_oth _ _ _ _ _ _ (by decide), sI_oth _ _ _ _ _ _ (by decide), sI_oth _ _ _ _ _ _ (by decide), sI_oth _ _ _ _ _ _ (by decide), sI_oth _ _ _ _ _ _ (by decide)]
    have fin : (5 ≤ p.toInt ∨ (w0.1 163 t.toInt.toNat).toInt < 2 ∨ c.toInt = 0) → T30 w0 t.toInt.toNat c 5 w := fun o => by
      refine ⟨st.1, ?_⟩
      rcases st.2 with ⟨a1, a2, a3⟩ | a
      · refine Or.inl ⟨a1, a2, fun p' v _ => ?_⟩
        rcases o with o | o | o
        · exact a3 p' v (by have := v.2.2.1; omega)
        · have := v.2.1
          omega
        · rw [a1] at o
          exact absurd o (by decide)
      · exact Or.inr a
    rw [q_Mo_isSafe_30.eq_2, ek] at h ⊢
    refine ⟨fun d => k c w (fin (Or.inl d)) (h.1 d), fun d => ⟨(h.2 d).1, fun d2 => k c w (fin (Or.inr (Or.inl d2))) ((h.2 d).2.1 d2), fun d2 => ⟨fun d3 => k c w (fin (Or.inr (Or.inr d3))) (((h.2 d).2.2 d2).1 d3), fun d3 => ?_⟩⟩⟩
    have H := ((h.2 d).2.2 d2).2 d3
    rcases st.2 with ⟨a1, ⟨q, a2⟩, a3⟩ | ⟨a1, _⟩
    case inr => exact absurd (show c.toInt = 0 by rw [a1]; exact i_0) d3
    case inl =>
      have skip : ¬ vis w0 t.toInt.toNat p.toInt.toNat → q_Mo_isSafe_30 t had E Q m c (p + (1 : Int32)) w → q_Mo_isSafe_30 t had E' Q' m c (p + (1 : Int32)) w := fun nv g => by
        refine ih _ _ _ g (by omega) (by omega) ⟨st.1, Or.inl ⟨a1, ⟨q, a2⟩, fun p' v hp => ?_⟩⟩
        by_cases z : (p' : Int) = p.toInt
        · rw [show p' = p.toInt.toNat by omega] at v
          exact absurd v nv
        · exact a3 p' v (by omega)
      have go : vis w0 t.toInt.toNat p.toInt.toNat → q_Mo_isSafe_73 t had p w (fun (x30_1 : Int32) (x30_4 : Int32) (w : MW) => q_Mo_isSafe_30 t had E Q m x30_1 x30_4 w) E Q → q_Mo_isSafe_73 t had p w (fun (x30_1 : Int32) (x30_4 : Int32) (w : MW) => q_Mo_isSafe_30 t had E' Q' m x30_1 x30_4 w) E' Q' := fun v g => by
        rw [q_Mo_isSafe_73.eq_1] at g ⊢
        have eC : (sI w 167 t.toInt.toNat p).1 = (Cf w0 t.toInt.toNat p.toInt.toNat).1 := by
          unfold Cf
          rw [sI_c a2, sI_sI, nI_tn p0]
        have eT : tM (sI w 167 t.toInt.toNat p) = tM w0 := by
          unfold tM
          rw [eC]
          unfold Cf
          rw [sI_oth _ _ _ _ _ _ (by decide)]
        have eP : pM (sI w 167 t.toInt.toNat p) = pM w0 := by
          unfold pM
          rw [eC]
          unfold Cf
          rw [sI_oth _ _ _ _ _ _ (by decide)]
        refine ⟨g.1, cm_x g.2 (by omega) (by omega) (by omega) (by omega) (fun w' o cl g' => ih _ _ _ g' (by omega) (by omega) ⟨o.2.trans st.1, Or.inl ⟨rfl, ⟨p, ?_⟩, fun p' v' hp => ?_⟩⟩) (fun w' x a b o lb x0 a0 b0 g' => ih _ _ _ g' (by omega) (by omega) ⟨o.2.trans st.1, Or.inr ⟨rfl, p, _, x, a, b, dgW_c ?_ _ _ _ _, Or.inr ⟨c0, t.toInt.toNat, p.toInt.toNat, ?_, v, fun t' p' v' hl => ?_, ?_⟩, x0, a0, b0⟩⟩)⟩
        · rw [o.1, eC]
          unfold Cf
          rw [nI_tn p0]
        · by_cases z : (p' : Int) = p.toInt
          · rw [show p' = p.toInt.toNat by omega, ← clM_c eC]
            exact cl
          · exact a3 p' v' (by omega)
        · rw [o.1, eC]
          unfold Cf
          rw [nI_tn p0]
        · have m1 := ti_mul2 (by decide : ((10 : Int32)).toInt = 10) (Eq.refl t.toInt) (by omega) (by omega)
          have m2 := ti_add2 (by decide : ((2 : Int32)).toInt = 2) m1 (by omega) (by omega)
          rw [ti_add2 m2 (Eq.refl p.toInt) (by omega) (by omega)]
          omega
        · rcases hl with hl | ⟨hl, hp⟩
          · exact pre t' p' v' (by omega)
          · rw [hl] at v' ⊢
            exact a3 p' v' (by omega)
        · rw [← LbM_c eC]
          exact lb
      have k2 : 2 ≤ (w0.1 163 t.toInt.toNat).toInt := by omega
      have tn : ((t.toInt.toNat : Nat) : Int) < tM w0 := by omega
      have pn : p.toInt.toNat < 5 := by omega
      refine ⟨fun d4 => skip (fun v => v.2.2.2.1 ?_) (H.1 d4), fun d4 => ⟨(H.2 d4).1, fun d5 => go ⟨tn, k2, pn, ?_, fun z => d5 z.1⟩ ((H.2 d4).2.1 d5), fun d5 => ⟨fun d6 => skip (fun v => v.2.2.2.2 ⟨Classical.not_not.mp d5, by omega⟩) (((H.2 d4).2.2 d5).1 d6), fun d6 => go ⟨tn, k2, pn, ?_, fun z => d6 (by omega)⟩ (((H.2 d4).2.2 d5).2 d6)⟩⟩⟩
      · rw [← eh]
        omega
      · rw [← eh]
        omega
      · rw [← eh]
        omega
theorem sf_8 {w0 : MW} {E E' : Int32 → MW → Prop} {Q Q' : Int32 → MW → Prop} (T0 : 0 ≤ tM w0) (T1 : tM w0 ≤ 20) (P0 : 0 ≤ pM w0) (P1 : pM w0 ≤ 24) (k : ∀ c w', SfM w0 c w' → E c w' → E' c w') : ∀ (m : Nat) (c t : Int32) (w : MW), q_Mo_isSafe_8 E Q m c t w → 0 ≤ t.toInt → w.2.2 = w0.2.2 → ((c = 1 ∧ w.1 = w0.1 ∧ clM w0 ∧ ∀ t' p' : Nat, vis w0 t' p' → (t' : Int) < t.toInt → clM (Cf w0 t' p')) ∨ (c = 0 ∧ ∃ f x a b : Int32, w.1 = (dgW w0 f x a b).1 ∧ FBd w0 f.toInt x.toInt.toNat a.toInt.toNat b.toInt.toNat ∧ 0 ≤ x.toInt ∧ 0 ≤ a.toInt ∧ 0 ≤ b.toInt)) → q_Mo_isSafe_8 E' Q' m c t w := by
  intro m
  induction m with
  | zero => exact fun _ _ _ h _ _ _ => False.elim h
  | succ m ih =>
    intro c t w h t0 s2 st
    have e4 : w.1 127 4 = w0.1 127 4 := by
      rcases st with ⟨_, e, _⟩ | ⟨_, f, x, a, b, e, _⟩
      · rw [e]
      · rw [e]
        unfold dgW
        rw [sI_at, if_neg (by omega), sI_at, if_neg (by omega), sI_at, if_neg (by omega), sI_at, if_neg (by omega)]
    rw [q_Mo_isSafe_8.eq_2] at h ⊢
    have fin : ((w.1 127 4).toInt ≤ t.toInt ∨ c.toInt = 0) → SfM w0 c w := fun o => by
      refine ⟨s2, ?_⟩
      rcases st with ⟨a1, a2, a3, a4⟩ | a
      · refine Or.inl ⟨a1, a2, a3, fun t' p' v => a4 t' p' v ?_⟩
        rcases o with o | o
        · have := v.1
          unfold tM at this
          rw [e4] at o
          omega
        · rw [a1] at o
          exact absurd o (by decide)
      · exact Or.inr a
    refine ⟨fun d => k c w (fin (Or.inl d)) (h.1 d), fun d => ⟨fun d2 => k c w (fin (Or.inr d2)) ((h.2 d).1 d2), fun d2 => ?_⟩⟩
    have H := (h.2 d).2 d2
    rcases st with ⟨a1, a2, a3, a4⟩ | ⟨a1, _⟩
    case inr => exact absurd (show c.toInt = 0 by rw [a1]; exact i_0) d2
    case inl =>
      have et := ti_add2 (Eq.refl t.toInt) i_1 (by have := H.1; omega) (by have := H.1; omega)
      have t1 : t.toInt < tM w0 := by
        unfold tM
        rw [← e4]
        omega
      have H1 := H.1
      refine ⟨H.1, sf_30 t0 t1 T0 T1 P0 P1 (by rw [a2]) a3 a4 (fun c' w' st' g' => ⟨H.1, ih _ _ _ g'.2 (by omega) ?_ ?_⟩) _ _ _ _ H.2 (by decide) (by decide) ⟨s2, Or.inl ⟨a1, ⟨w0.1 167 t.toInt.toNat, by rw [sI_eta]; exact a2⟩, fun p' v hp => by rw [i_0] at hp; omega⟩⟩⟩
      · exact st'.1
      · rcases st'.2 with ⟨b1, ⟨q, b2⟩, b3⟩ | ⟨b1, q, f, x, a, b, b2, b3⟩
        · refine Or.inl ⟨b1, ?_, a3, fun t' p' v hp => ?_⟩
          · rw [sI_c b2, sI_sI, a2, sI_eta]
          · by_cases z : (t' : Int) = t.toInt
            · rw [show t' = t.toInt.toNat by omega] at v ⊢
              exact b3 p' v (by have := v.2.2.1; omega)
            · exact a4 t' p' v (by omega)
        · refine Or.inr ⟨b1, f, x, a, b, ?_, b3⟩
          rw [sI_c b2, a2, dgW_b]
/-- isSafe -/
theorem sf_x {w : MW} {Q Q' : Int32 → MW → Prop} (h : p_Mo_isSafe w Q) (T0 : 0 ≤ tM w) (T1 : tM w ≤ 20) (P0 : 0 ≤ pM w) (P1 : pM w ≤ 24) (k : ∀ r w', SfM w r w' → Q r w' → Q' r w') : p_Mo_isSafe w Q' := by
  rw [p_Mo_isSafe.eq_1] at h ⊢
  refine cm_x h T0 T1 P0 P1 (fun w' o cl g => sf_8 (w0 := w) T0 T1 P0 P1 (fun c w2 s g2 => ⟨g2.1, k c w2 s g2.2⟩) _ _ _ _ g (by decide) o.2 (Or.inl ⟨rfl, o.1, cl, fun t' p' _ hp => by rw [i_0] at hp; omega⟩)) (fun w' x a b o lb x0 a0 b0 g => sf_8 (w0 := w) T0 T1 P0 P1 (fun c w2 s g2 => ⟨g2.1, k c w2 s g2.2⟩) _ _ _ _ g (by decide) o.2 (Or.inr ⟨rfl, 1, x, a, b, dgW_c o.1 _ _ _ _, Or.inl ⟨i_1, lb⟩, x0, a0, b0⟩))
