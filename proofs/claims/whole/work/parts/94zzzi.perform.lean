/-! an act is done: the pair, open aside -/
/-- act k is bound to what is there -/
def BnC (v : MW) (k : Nat) : Prop := (((v.1 60 k).toInt = 0 ∨ (v.1 60 k).toInt = 1) ∧ (0 ≤ (v.1 57 k).toInt ∧ (v.1 57 k).toInt < tC v ∧ tkC v (v.1 57 k).toInt) ∧ (0 ≤ (v.1 58 k).toInt ∧ (v.1 58 k).toInt < tC v ∧ tkC v (v.1 58 k).toInt) ∧ ¬ (v.1 57 k).toInt = (v.1 58 k).toInt) ∨ ((v.1 60 k).toInt = 2 ∧ VaC v (v.1 57 k).toInt) ∨ (((v.1 60 k).toInt = 3 ∨ (v.1 60 k).toInt = 4) ∧ HoC v (v.1 57 k).toInt)
def BnM (w : MW) (k : Nat) : Prop := (((w.1 197 k).toInt = 0 ∨ (w.1 197 k).toInt = 1) ∧ (0 ≤ (w.1 198 k).toInt ∧ (w.1 198 k).toInt < tM w ∧ tkM w (w.1 198 k).toInt) ∧ (0 ≤ (w.1 199 k).toInt ∧ (w.1 199 k).toInt < tM w ∧ tkM w (w.1 199 k).toInt) ∧ ¬ (w.1 198 k).toInt = (w.1 199 k).toInt) ∨ ((w.1 197 k).toInt = 2 ∧ VaM w (w.1 198 k).toInt) ∨ (((w.1 197 k).toInt = 3 ∨ (w.1 197 k).toInt = 4) ∧ HoM w (w.1 198 k).toInt)
def HAc (z : MW) : Prop := ∀ k : Nat, k < 32 → z.1 60 k = z.1 197 k ∧ z.1 57 k = z.1 198 k ∧ z.1 58 k = z.1 199 k ∧ z.1 59 k = z.1 200 k
theorem bn_e {v w : MW} (hr : HRq (mx v w)) (ha : HAc (mx v w)) {k : Nat} (hk : k < 32) : BnC v k ↔ BnM w k := by
  have a := ha k hk
  have a1 : v.1 60 k = w.1 197 k := a.1
  have a2 : v.1 57 k = w.1 198 k := a.2.1
  have a3 : v.1 58 k = w.1 199 k := a.2.2.1
  have e1 : tC v = tM w := hr.1.1.1
  have tk : ∀ x : Int, 0 ≤ x → x < tM w → (tkC v x ↔ tkM w x) := fun x h0 h1 => tk_e (w := mx v w) hr.1.1 h0 h1
  unfold BnC BnM
  rw [a1, a2, a3, e1, va_e hr, ho_e hr]
  constructor
  · intro q
    rcases q with q | q | q
    · exact Or.inl ⟨q.1, ⟨q.2.1.1, q.2.1.2.1, (tk _ q.2.1.1 q.2.1.2.1).mp q.2.1.2.2⟩, ⟨q.2.2.1.1, q.2.2.1.2.1, (tk _ q.2.2.1.1 q.2.2.1.2.1).mp q.2.2.1.2.2⟩, q.2.2.2⟩
    · exact Or.inr (Or.inl q)
    · exact Or.inr (Or.inr q)
  · intro q
    rcases q with q | q | q
    · exact Or.inl ⟨q.1, ⟨q.2.1.1, q.2.1.2.1, (tk _ q.2.1.1 q.2.1.2.1).mpr q.2.1.2.2⟩, ⟨q.2.2.1.1, q.2.2.1.2.1, (tk _ q.2.2.1.1 q.2.2.1.2.1).mpr q.2.2.1.2.2⟩, q.2.2.2⟩
    · exact Or.inr (Or.inl q)
    · exact Or.inr (Or.inr q)
/-- tank and tank and not the same: the class's words -/
theorem cbd_2 {v : MW} {k : Int32} {Q Q' : Int32 → MW → Prop} (h : p_St_isTank v (v.1 57 k.toInt.toNat) (fun r4 w4 => ((r4.toInt = 0 → (Q 0 w4)) ∧ (¬ (r4.toInt = 0) → ((0 ≤ k.toInt ∧ k.toInt < 32) ∧ (p_St_isTank w4 (w4.1 58 k.toInt.toNat) (fun r7 w7 => ((r7.toInt = 0 → (Q 0 w7)) ∧ (¬ (r7.toInt = 0) → ((0 ≤ k.toInt ∧ k.toInt < 32) ∧ ((0 ≤ k.toInt ∧ k.toInt < 32) ∧ (((w7.1 57 k.toInt.toNat).toInt = (w7.1 58 k.toInt.toNat).toInt → (Q 0 w7)) ∧ (¬ ((w7.1 57 k.toInt.toNat).toInt = (w7.1 58 k.toInt.toNat).toInt) → (Q 1 w7)))))))))))))) (no : ¬ ((0 ≤ (v.1 57 k.toInt.toNat).toInt ∧ (v.1 57 k.toInt.toNat).toInt < tC v ∧ tkC v (v.1 57 k.toInt.toNat).toInt) ∧ (0 ≤ (v.1 58 k.toInt.toNat).toInt ∧ (v.1 58 k.toInt.toNat).toInt < tC v ∧ tkC v (v.1 58 k.toInt.toNat).toInt) ∧ ¬ (v.1 57 k.toInt.toNat).toInt = (v.1 58 k.toInt.toNat).toInt) → Q 0 v → Q' 0 v) (ye : ((0 ≤ (v.1 57 k.toInt.toNat).toInt ∧ (v.1 57 k.toInt.toNat).toInt < tC v ∧ tkC v (v.1 57 k.toInt.toNat).toInt) ∧ (0 ≤ (v.1 58 k.toInt.toNat).toInt ∧ (v.1 58 k.toInt.toNat).toInt < tC v ∧ tkC v (v.1 58 k.toInt.toNat).toInt) ∧ ¬ (v.1 57 k.toInt.toNat).toInt = (v.1 58 k.toInt.toNat).toInt) → Q 1 v → Q' 1 v) : p_St_isTank v (v.1 57 k.toInt.toNat) (fun r4 w4 => ((r4.toInt = 0 → (Q' 0 w4)) ∧ (¬ (r4.toInt = 0) → ((0 ≤ k.toInt ∧ k.toInt < 32) ∧ (p_St_isTank w4 (w4.1 58 k.toInt.toNat) (fun r7 w7 => ((r7.toInt = 0 → (Q' 0 w7)) ∧ (¬ (r7.toInt = 0) → ((0 ≤ k.toInt ∧ k.toInt < 32) ∧ ((0 ≤ k.toInt ∧ k.toInt < 32) ∧ (((w7.1 57 k.toInt.toNat).toInt = (w7.1 58 k.toInt.toNat).toInt → (Q' 0 w7)) ∧ (¬ ((w7.1 57 k.toInt.toNat).toInt = (w7.1 58 k.toInt.toNat).toInt) → (Q' 1 w7))))))))))))) := by
  refine ctk_x h (fun r1 t1 g => ⟨fun c => ?_, fun c => ?_⟩)
  · rcases t1 with ⟨e, _⟩ | ⟨_, n⟩
    · rw [e] at c
      exact absurd c (by decide)
    · exact no (fun z => n z.1) (g.1 c)
  · rcases t1 with ⟨_, y1⟩ | ⟨e, _⟩
    · refine ⟨(g.2 c).1, ctk_x (g.2 c).2 (fun r2 t2 g2 => ⟨fun d => ?_, fun d => ?_⟩)⟩
      · rcases t2 with ⟨e, _⟩ | ⟨_, n⟩
        · rw [e] at d
          exact absurd d (by decide)
        · exact no (fun z => n z.2.1) (g2.1 d)
      · rcases t2 with ⟨_, y2⟩ | ⟨e, _⟩
        · have G := g2.2 d
          exact ⟨G.1, G.2.1, fun e => no (fun z => z.2.2 e) (G.2.2.1 e), fun e => ye ⟨y1, y2, e⟩ (G.2.2.2 e)⟩
        · rw [e] at d
          exact absurd i_0 d
    · rw [e] at c
      exact absurd i_0 c
theorem cbd_x {v : MW} {k : Int32} {Q Q' : Int32 → MW → Prop} (h : p_Ac_isBound v k Q) (T : 0 ≤ tC v ∧ tC v ≤ 20) (P : 0 ≤ pC v ∧ pC v ≤ 24) (kk : ∀ r : Int32, (r = 1 ∧ BnC v k.toInt.toNat) ∨ (r = 0 ∧ ¬ BnC v k.toInt.toNat) → Q r v → Q' r v) : p_Ac_isBound v k Q' := by
  rw [p_Ac_isBound.eq_1] at h ⊢
  refine ⟨h.1, fun c => ⟨(h.2.1 c).1, cbd_2 (h.2.1 c).2 (fun n g => kk 0 (Or.inr ⟨rfl, fun z => ?_⟩) g) (fun y g => kk 1 (Or.inl ⟨rfl, Or.inl ⟨Or.inl c, y⟩⟩) g)⟩, fun c => ⟨fun d => ⟨((h.2.2 c).1 d).1, cbd_2 ((h.2.2 c).1 d).2 (fun n g => kk 0 (Or.inr ⟨rfl, fun z => ?_⟩) g) (fun y g => kk 1 (Or.inl ⟨rfl, Or.inl ⟨Or.inr d, y⟩⟩) g)⟩, fun d => ⟨fun e => ?_, fun e => ⟨fun f => ?_, fun f => ⟨fun f2 => ?_, fun f2 => kk 0 (Or.inr ⟨rfl, fun z => ?_⟩) ((((h.2.2 c).2 d).2 e).2 f |>.2 f2)⟩⟩⟩⟩⟩
  · rcases z with z | z | z
    · exact n z.2
    · have := z.1
      omega
    · have := z.1
      omega
  · rcases z with z | z | z
    · exact n z.2
    · have := z.1
      omega
    · have := z.1
      omega
  · have H := ((h.2.2 c).2 d).1 e
    refine ⟨H.1, vc_x H.2 (fun r t g => kk r ?_ g)⟩
    rcases t with ⟨e1, y⟩ | ⟨e1, n⟩
    · exact Or.inl ⟨e1, Or.inr (Or.inl ⟨e, y⟩)⟩
    · refine Or.inr ⟨e1, fun z => ?_⟩
      rcases z with z | z | z
      · have := z.1
        omega
      · exact n z.2
      · have := z.1
        omega
  · have H := (((h.2.2 c).2 d).2 e).1 f
    refine ⟨H.1, ho_x H.2 T P (fun r t g => kk r ?_ g)⟩
    rcases t with ⟨e1, y⟩ | ⟨e1, n⟩
    · exact Or.inl ⟨e1, Or.inr (Or.inr ⟨Or.inl f, y⟩)⟩
    · refine Or.inr ⟨e1, fun z => ?_⟩
      rcases z with z | z | z
      · have := z.1
        omega
      · have := z.1
        omega
      · exact n z.2
  · have H := ((((h.2.2 c).2 d).2 e).2 f).1 f2
    refine ⟨H.1, ho_x H.2 T P (fun r t g => kk r ?_ g)⟩
    rcases t with ⟨e1, y⟩ | ⟨e1, n⟩
    · exact Or.inl ⟨e1, Or.inr (Or.inr ⟨Or.inr f2, y⟩)⟩
    · refine Or.inr ⟨e1, fun z => ?_⟩
      rcases z with z | z | z
      · have := z.1
        omega
      · have := z.1
        omega
      · exact n z.2
  · rcases z with z | z | z
    · have := z.1
      omega
    · have := z.1
      omega
    · have := z.1
      omega
theorem mpf_33 {w : MW} {k x y a : Int32} {R R' : Int32 → MW → Prop} (h : q_Mo_perform_33 k x y a w R) (kk : ∀ ys : Int32, (ys.toInt = 1 ∧ ((0 ≤ x.toInt ∧ x.toInt < tM w ∧ tkM w x.toInt) ∧ (0 ≤ y.toInt ∧ y.toInt < tM w ∧ tkM w y.toInt) ∧ ¬ x.toInt = y.toInt)) ∨ (ys.toInt = 0 ∧ ¬ ((0 ≤ x.toInt ∧ x.toInt < tM w ∧ tkM w x.toInt) ∧ (0 ≤ y.toInt ∧ y.toInt < tM w ∧ tkM w y.toInt) ∧ ¬ x.toInt = y.toInt)) → q_Mo_perform_95 k x y a ys w R → q_Mo_perform_95 k x y a ys w R') : q_Mo_perform_33 k x y a w R' := by
  rw [q_Mo_perform_33.eq_1] at h ⊢
  refine mtk_x h (fun r1 t1 g => ⟨fun c => ?_, fun c => ?_⟩)
  · rcases t1 with ⟨e, _⟩ | ⟨_, n⟩
    · rw [e] at c
      exact absurd c (by decide)
    · exact kk 0 (Or.inr ⟨i_0, fun z => n z.1⟩) (g.1 c)
  · rcases t1 with ⟨_, y1⟩ | ⟨e, _⟩
    · refine mtk_x (g.2 c) (fun r2 t2 g2 => ⟨fun d => ?_, fun d => ⟨fun e => kk 0 (Or.inr ⟨i_0, fun z => z.2.2 e⟩) ((g2.2 d).1 e), fun e => ?_⟩⟩)
      · rcases t2 with ⟨e, _⟩ | ⟨_, n⟩
        · rw [e] at d
          exact absurd d (by decide)
        · exact kk 0 (Or.inr ⟨i_0, fun z => n z.2.1⟩) (g2.1 d)
      · rcases t2 with ⟨_, y2⟩ | ⟨e2, _⟩
        · exact kk 1 (Or.inl ⟨i_1, y1, y2, e⟩) ((g2.2 d).2 e)
        · rw [e2] at d
          exact absurd i_0 d
    · rw [e] at c
      exact absurd i_0 c
theorem mpf_x {w : MW} {k : Int32} {R R' : Int32 → MW → Prop} (h : p_Mo_perform w k R) (hw : BND w) (kk : ∀ ys : Int32, (ys.toInt = 1 ∧ BnM w k.toInt.toNat) ∨ (ys.toInt = 0 ∧ ¬ BnM w k.toInt.toNat) → q_Mo_perform_95 k (w.1 198 k.toInt.toNat) (w.1 199 k.toInt.toNat) (w.1 197 k.toInt.toNat) ys w R → q_Mo_perform_95 k (w.1 198 k.toInt.toNat) (w.1 199 k.toInt.toNat) (w.1 197 k.toInt.toNat) ys w R') : p_Mo_perform w k R' := by
  have T := hb_T hw
  have P := hb_P hw
  have b := bd_197 hw k.toInt.toNat
  rw [p_Mo_perform.eq_1] at h ⊢
  have two : ∀ (c : (w.1 197 k.toInt.toNat).toInt = 0 ∨ (w.1 197 k.toInt.toNat).toInt = 1), q_Mo_perform_33 k (w.1 198 k.toInt.toNat) (w.1 199 k.toInt.toNat) (w.1 197 k.toInt.toNat) w R → q_Mo_perform_33 k (w.1 198 k.toInt.toNat) (w.1 199 k.toInt.toNat) (w.1 197 k.toInt.toNat) w R' := fun c g => mpf_33 g (fun ys q g2 => kk ys (by
    rcases q with ⟨q1, q2⟩ | ⟨q1, q2⟩
    · exact Or.inl ⟨q1, Or.inl ⟨c, q2⟩⟩
    · refine Or.inr ⟨q1, fun z => ?_⟩
      rcases z with z | z | z
      · exact q2 z.2
      · have := z.1
        omega
      · have := z.1
        omega) g2)
  refine ⟨h.1, h.2.1, h.2.2.1, fun c => two (Or.inl c) (h.2.2.2.1 c), fun c => ⟨fun d => ⟨fun e => ⟨fun f => kk 0 (Or.inr ⟨i_0, fun z => ?_⟩) ((((h.2.2.2.2 c).1 d).1 e).1 f), fun f => hm_x ((((h.2.2.2.2 c).1 d).1 e).2 f) T P (fun r t g => ⟨fun z => ?_, fun z => ?_⟩)⟩, fun e => vm_x (((h.2.2.2.2 c).1 d).2 e) (fun r t g => kk r ?_ g)⟩, fun d => two (Or.inr (Classical.not_not.mp d)) ((h.2.2.2.2 c).2 d)⟩⟩
  · rcases z with z | z | z
    · have := z.1
      omega
    · have := z.1
      omega
    · have := z.1
      omega
  · rcases t with ⟨e1, _⟩ | ⟨_, n⟩
    · rw [e1] at z
      exact absurd z (by decide)
    · refine kk 0 (Or.inr ⟨i_0, fun z2 => ?_⟩) (g.1 z)
      rcases z2 with z2 | z2 | z2
      · have := z2.1
        omega
      · have := z2.1
        omega
      · exact n z2.2
  · rcases t with ⟨_, y⟩ | ⟨e1, _⟩
    · exact kk 1 (Or.inl ⟨i_1, Or.inr (Or.inr ⟨by omega, y⟩)⟩) (g.2 z)
    · rw [e1] at z
      exact absurd i_0 z
  · rcases t with ⟨e1, y⟩ | ⟨e1, n⟩
    · exact Or.inl ⟨by rw [e1]; exact i_1, Or.inr (Or.inl ⟨Classical.not_not.mp e, y⟩)⟩
    · refine Or.inr ⟨by rw [e1]; exact i_0, fun z => ?_⟩
      rcases z with z | z | z
      · have := z.1
        omega
      · exact n z.2
      · have := z.1
        omega
/-- the pair of open, as it is wanted here -/
def OpP (v w : MW) (a b c : Int32) : Prop := ∀ Q Q' : Int32 → MW → Prop, p_Ac_openWay v a b c Q → (∀ r v', (∀ R R' : Int32 → MW → Prop, p_Mo_open w a b c R → (∀ w', HRq (mx v' w') → R r w' → R' r w') → p_Mo_open w a b c R') → Q r v' → Q' r v') → p_Ac_openWay v a b c Q'
theorem pf_pair {v w : MW} {k : Int32} {Q Q' : Int32 → MW → Prop} {Bc Bm : Int → Prop} (k0 : 0 ≤ k.toInt) (k1 : k.toInt < 32) (hv : BND v) (hw : BND w) (hc : AC v) (hr : HRq (mx v w)) (ha : HAc (mx v w)) (bc : p_Ro_barring v k (fun y v' => v' = v ∧ Bc y.toInt)) (bm : p_Mr_act1 w k (fun y w' => w' = w ∧ Bm y.toInt)) (be : ∀ y y', Bc y → Bm y' → y = y') (hz : AZ v) (op : ∀ a b c : Int32, (0 ≤ a.toInt ∧ a.toInt < tM w ∧ tkM w a.toInt) → (0 ≤ b.toInt ∧ b.toInt < tM w ∧ tkM w b.toInt) → ¬ a.toInt = b.toInt → (1 ≤ c.toInt ∧ c.toInt ≤ 100) → OpP v w a b c) (h : p_Ac_perform v k Q) (kQ : ∀ r v', (∀ R R' : Int32 → MW → Prop, p_Mo_perform w k R → (∀ w', HRq (mx v' w') → R r w' → R' r w') → p_Mo_perform w k R') → Q r v' → Q' r v') : p_Ac_perform v k Q' := by
  obtain ⟨T, P, eT, eP, _⟩ := hr_T hw hr
  have be' := bn_e hr ha (k := k.toInt.toNat) (by omega)
  have a := ha k.toInt.toNat (by omega)
  have a1 : v.1 60 k.toInt.toNat = w.1 197 k.toInt.toNat := a.1
  have a2 : v.1 57 k.toInt.toNat = w.1 198 k.toInt.toNat := a.2.1
  have a3 : v.1 58 k.toInt.toNat = w.1 199 k.toInt.toNat := a.2.2.1
  have a4 : v.1 59 k.toInt.toNat = w.1 200 k.toInt.toNat := a.2.2.2
  have ac := hc k
  rw [p_Ac_perform.eq_1, p_Ac_isAct.eq_1] at h ⊢
  refine ⟨fun c => by omega, fun c => ⟨fun d => by omega, fun d => ⟨fun z => absurd z (by decide), fun z => ?_⟩⟩⟩
  refine cbd_x (((h.2 c).2 d).2 z) T P (fun r3 b3 g3 => ⟨fun e => ?_, fun e => ?_⟩)
  case refine_2 =>
    rcases b3 with ⟨e3, _⟩ | ⟨_, nb⟩
    · rw [e3] at e
      exact absurd (by decide) e
    · refine kQ 1 v (fun R R' hR kR => mpf_x hR hw (fun ys q g => ?_)) (g3.2 e)
      rcases q with ⟨_, q2⟩ | ⟨q1, _⟩
      · exact absurd (be'.mpr q2) nb
      · rw [q_Mo_perform_95.eq_1] at g ⊢
        exact ⟨fun z2 => absurd q1 z2, fun z2 => kR w hr (g.2 z2)⟩
  case refine_1 =>
    rcases b3 with ⟨_, yb⟩ | ⟨e3, _⟩
    case inr =>
      rw [e3] at e
      exact absurd i_0 e
    case inl =>
      have G := g3.1 e
      have ym := be'.mp yb
      have ref : ∀ (y : Int), Bc y → ∀ R R' : Int32 → MW → Prop, p_Mo_perform w k R → (¬ y ≤ 0 → R 2 w → R' 2 w) → (y ≤ 0 → ((¬ (w.1 197 k.toInt.toNat).toInt = 0 → ((¬ (w.1 197 k.toInt.toNat).toInt = 1 → ((¬ (w.1 197 k.toInt.toNat).toInt = 2 → mCD w (w.1 198 k.toInt.toNat) (w.1 199 k.toInt.toNat) (w.1 197 k.toInt.toNat) R → mCD w (w.1 198 k.toInt.toNat) (w.1 199 k.toInt.toNat) (w.1 197 k.toInt.toNat) R') ∧ (¬ (¬ (w.1 197 k.toInt.toNat).toInt = 2) → mSet w (w.1 198 k.toInt.toNat) (w.1 199 k.toInt.toNat) R → mSet w (w.1 198 k.toInt.toNat) (w.1 199 k.toInt.toNat) R'))) ∧ (¬ (¬ (w.1 197 k.toInt.toNat).toInt = 1) → mCl w (w.1 198 k.toInt.toNat) (w.1 199 k.toInt.toNat) R → mCl w (w.1 198 k.toInt.toNat) (w.1 199 k.toInt.toNat) R'))) ∧ (¬ (¬ (w.1 197 k.toInt.toNat).toInt = 0) → p_Mo_open w (w.1 198 k.toInt.toNat) (w.1 199 k.toInt.toNat) (w.1 200 k.toInt.toNat) R → p_Mo_open w (w.1 198 k.toInt.toNat) (w.1 199 k.toInt.toNat) (w.1 200 k.toInt.toNat) R'))) → p_Mo_perform w k R' := fun y by' R R' hR k2 kf => mpf_x hR hw (fun ys q g => by
        rw [q_Mo_perform_95.eq_1] at g ⊢
        refine ⟨fun nz => an_p_Mr_act1 (g.1 nz) bm (fun r8 w8 g8 b8 => ?_), fun z2 => ?_⟩
        · obtain ⟨ew, b8⟩ := b8
          have ey := be y _ by' b8
          rw [ew] at g8 ⊢
          refine ⟨fun z8 => ?_, fun z8 => k2 (by omega) (g8.2 z8)⟩
          have F := kf (by omega)
          have G8 := g8.1 z8
          exact ⟨fun c0 => ⟨fun c1 => ⟨fun c2 => ((F.1 c0).1 c1).1 c2 (((G8.1 c0).1 c1).1 c2), fun c2 => ((F.1 c0).1 c1).2 c2 (((G8.1 c0).1 c1).2 c2)⟩, fun c1 => (F.1 c0).2 c1 ((G8.1 c0).2 c1)⟩, fun c0 => ⟨(G8.2 c0).1, F.2 c0 (G8.2 c0).2⟩⟩
        · rcases q with ⟨q1, _⟩ | ⟨_, q2⟩
          · rw [Classical.not_not.mp z2] at q1
            exact absurd q1 (by decide)
          · exact absurd ym q2)
      refine ⟨G.1, an_p_Ro_barring G.2 bc (fun r6 w6 g6 b6 => ?_)⟩
      obtain ⟨ew, b6⟩ := b6
      rw [ew] at g6 ⊢
      refine ⟨fun c6 => ?_, fun c6 => kQ 2 v (fun R R' hR kR => ref _ b6 R R' hR (fun _ g => kR w hr g) (fun y0 => absurd y0 c6)) (g6.2 c6)⟩
      have H := g6.1 c6
      rw [a1, a2, a3, a4] at H ⊢
      refine ⟨H.1, fun c0 => ?_, fun c0 => ⟨fun c1 => ?_, fun c1 => ⟨fun c2 => ?_, fun c2 => ⟨fun c3 => ?_, fun c3 => ?_⟩⟩⟩⟩
      · have H0 := H.2.1 c0
        have yt : (0 ≤ (w.1 198 k.toInt.toNat).toInt ∧ (w.1 198 k.toInt.toNat).toInt < tM w ∧ tkM w (w.1 198 k.toInt.toNat).toInt) ∧ (0 ≤ (w.1 199 k.toInt.toNat).toInt ∧ (w.1 199 k.toInt.toNat).toInt < tM w ∧ tkM w (w.1 199 k.toInt.toNat).toInt) ∧ ¬ (w.1 198 k.toInt.toNat).toInt = (w.1 199 k.toInt.toNat).toInt := by
          rcases ym with z | z | z
          · exact z.2
          · have := z.1
            omega
          · have := z.1
            omega
        have yz := hz k
        rw [a1, a4] at yz
        refine ⟨H0.1, H0.2.1, H0.2.2.1, op _ _ _ yt.1 yt.2.1 yt.2.2 (yz c0) _ _ H0.2.2.2 (fun r v' pr g => kQ r v' (fun R R' hR kR => ref _ b6 R R' hR (fun n => absurd c6 n) (fun _ => ⟨fun n => absurd c0 n, fun _ g2 => pr R R' g2 kR⟩)) g)⟩
      · have H0 := (H.2.2 c0).1 c1
        refine ⟨H0.1, H0.2.1, cw_pair hw hr H0.2.2 (fun r v' pr g => kQ r v' (fun R R' hR kR => ref _ b6 R R' hR (fun n => absurd c6 n) (fun _ => ⟨fun _ => ⟨fun n => absurd c1 n, fun _ g2 => pr R R' g2 kR⟩, fun n => absurd c0 n⟩)) g)⟩
      · have H0 := ((H.2.2 c0).2 c1).1 c2
        have va : VaM w (w.1 198 k.toInt.toNat).toInt := by
          rcases ym with z | z | z
          · have := z.1
            omega
          · exact z.2
          · have := z.1
            omega
        have b9 := ac.2
        rw [show k.toInt.toNat = k.toInt.toNat from rfl, a1, a3] at b9
        refine ⟨H0.1, H0.2.1, st_pair hv hw hr va.1 va.2.1 (b9 c2) H0.2.2 (fun r v' pr g => kQ r v' (fun R R' hR kR => ref _ b6 R R' hR (fun n => absurd c6 n) (fun _ => ⟨fun _ => ⟨fun _ => ⟨fun n => absurd c2 n, fun _ g2 => pr R R' g2 kR⟩, fun n => absurd (Classical.not_not.mp n) c1⟩, fun n => absurd (Classical.not_not.mp n) c0⟩)) g)⟩
      · have H0 := (((H.2.2 c0).2 c1).2 c2).1 c3
        have ho : HoM w (w.1 198 k.toInt.toNat).toInt := by
          rcases ym with z | z | z
          · have := z.1
            omega
          · have := z.1
            omega
          · exact z.2
        have b9 := ac.1
        rw [a1, a3] at b9
        have hb : 0 ≤ (w.1 198 k.toInt.toNat).toInt ∧ (w.1 198 k.toInt.toNat).toInt < tM w + pM w := by
          have P' := hb_P hw
          have T' := hb_T hw
          rcases ho with z | z
          · have := z.1
            have := z.2.1
            omega
          · have := z.1
            have := z.2
            omega
        refine ⟨H0.1, H0.2.1, cl_pair c3 hv hw hr hb.1 hb.2 (b9 c3) H0.2.2 (fun r v' pr g => kQ r v' (fun R R' hR kR => ref _ b6 R R' hR (fun n => absurd c6 n) (fun _ => ⟨fun _ => ⟨fun _ => ⟨fun _ g2 => pr R R' g2 kR, fun n => absurd (Classical.not_not.mp n) c2⟩, fun n => absurd (Classical.not_not.mp n) c1⟩, fun n => absurd (Classical.not_not.mp n) c0⟩)) g)⟩
      · have H0 := (((H.2.2 c0).2 c1).2 c2).2 c3
        have ho : HoM w (w.1 198 k.toInt.toNat).toInt := by
          rcases ym with z | z | z
          · have := z.1
            omega
          · have := z.1
            omega
          · exact z.2
        have hb : 0 ≤ (w.1 198 k.toInt.toNat).toInt ∧ (w.1 198 k.toInt.toNat).toInt < tM w + pM w := by
          have P' := hb_P hw
          have T' := hb_T hw
          rcases ho with z | z
          · have := z.1
            have := z.2.1
            omega
          · have := z.1
            have := z.2
            omega
        have e4 : (w.1 197 k.toInt.toNat).toInt = 4 := by
          rcases ym with z | z | z
          · have := z.1
            omega
          · have := z.1
            omega
          · have := z.1
            omega
        refine ⟨H0.1, dr_pair (b := w.1 199 k.toInt.toNat) (y := w.1 197 k.toInt.toNat) e4 hw hr hb.1 hb.2 H0.2 (fun r v' pr g => kQ r v' (fun R R' hR kR => ref _ b6 R R' hR (fun n => absurd c6 n) (fun _ => ⟨fun _ => ⟨fun _ => ⟨fun _ g2 => pr R R' g2 kR, fun n => absurd (Classical.not_not.mp n) c2⟩, fun n => absurd (Classical.not_not.mp n) c1⟩, fun n => absurd (Classical.not_not.mp n) c0⟩)) g)⟩
