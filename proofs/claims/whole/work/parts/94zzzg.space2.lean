/-! what holds liquid, what is a valve; space: the pair -/
def HoC (v : MW) (x : Int) : Prop := (0 ≤ x ∧ x < tC v ∧ tkC v x) ∨ (tC v ≤ x ∧ x < tC v + pC v)
def HoM (w : MW) (x : Int) : Prop := (0 ≤ x ∧ x < tM w ∧ tkM w x) ∨ (tM w ≤ x ∧ x < tM w + pM w)
def VaC (v : MW) (x : Int) : Prop := 0 ≤ x ∧ x < tC v ∧ kC v x.toNat < 8
def VaM (w : MW) (x : Int) : Prop := 0 ≤ x ∧ x < tM w ∧ 2 ≤ (w.1 163 x.toNat).toInt
theorem ho_x {v : MW} {a : Int32} {Q Q' : Int32 → MW → Prop} (h : p_St_isHolder v a Q) (T : 0 ≤ tC v ∧ tC v ≤ 20) (P : 0 ≤ pC v ∧ pC v ≤ 24) (k : ∀ r : Int32, (r = 1 ∧ HoC v a.toInt) ∨ (r = 0 ∧ ¬ HoC v a.toInt) → Q r v → Q' r v) : p_St_isHolder v a Q' := by
  rw [p_St_isHolder.eq_1] at h ⊢
  refine ctk_x h (fun r1 t1 g => ⟨fun c => ?_, fun c => ?_⟩)
  · rcases t1 with ⟨_, t⟩ | ⟨e, _⟩
    · exact k 1 (Or.inl ⟨rfl, Or.inl t⟩) (g.1 c)
    · rw [e] at c
      exact absurd i_0 c
  · rcases t1 with ⟨e, _⟩ | ⟨_, n1⟩
    · rw [e] at c
      exact absurd (by decide) c
    · refine cip_x (g.2 c) T P (fun r3 t3 g3 => ⟨fun d => ?_, fun d => ?_⟩)
      · rcases t3 with ⟨e, _⟩ | ⟨_, n3⟩
        · rw [e] at d
          exact absurd d (by decide)
        · refine k 0 (Or.inr ⟨rfl, fun z => ?_⟩) (g3.1 d)
          rcases z with z | z
          · exact n1 z
          · exact n3 z
      · rcases t3 with ⟨_, y⟩ | ⟨e, _⟩
        · exact k 1 (Or.inl ⟨rfl, Or.inr y⟩) (g3.2 d)
        · rw [e] at d
          exact absurd i_0 d
theorem mip_x {w : MW} {a : Int32} {Q Q' : Int32 → MW → Prop} (h : p_Mo_isPipe w a Q) (T : 0 ≤ tM w ∧ tM w ≤ 20) (P : 0 ≤ pM w ∧ pM w ≤ 24) (k : ∀ r : Int32, (r = 1 ∧ tM w ≤ a.toInt ∧ a.toInt < tM w + pM w) ∨ (r = 0 ∧ ¬ (tM w ≤ a.toInt ∧ a.toInt < tM w + pM w)) → Q r w → Q' r w) : p_Mo_isPipe w a Q' := by
  rw [p_Mo_isPipe.eq_1] at h ⊢
  have e : ((w.1 127 4) + (w.1 127 11)).toInt = tM w + pM w := ti_add2 rfl rfl (by unfold tM pM at *; omega) (by unfold tM pM at *; omega)
  have e0 : (w.1 127 4).toInt = tM w := rfl
  refine ⟨fun c => k 0 (Or.inr ⟨rfl, fun z => by have := z.1; omega⟩) (h.1 c), fun c => ⟨fun d => k 0 (Or.inr ⟨rfl, fun z => by have := z.2; omega⟩) ((h.2 c).1 d), fun d => k 1 (Or.inl ⟨rfl, by omega, by omega⟩) ((h.2 c).2 d)⟩⟩
theorem hm_x {w : MW} {a : Int32} {Q Q' : Int32 → MW → Prop} (h : p_Mo_holdsLiquid w a Q) (T : 0 ≤ tM w ∧ tM w ≤ 20) (P : 0 ≤ pM w ∧ pM w ≤ 24) (k : ∀ r : Int32, (r = 1 ∧ HoM w a.toInt) ∨ (r = 0 ∧ ¬ HoM w a.toInt) → Q r w → Q' r w) : p_Mo_holdsLiquid w a Q' := by
  rw [p_Mo_holdsLiquid.eq_1] at h ⊢
  refine mtk_x h (fun r1 t1 g => ⟨fun c => ?_, fun c => ?_⟩)
  · rcases t1 with ⟨_, t⟩ | ⟨e, _⟩
    · exact k 1 (Or.inl ⟨rfl, Or.inl t⟩) (g.1 c)
    · rw [e] at c
      exact absurd i_0 c
  · rcases t1 with ⟨e, _⟩ | ⟨_, n1⟩
    · rw [e] at c
      exact absurd (by decide) c
    · refine mip_x (g.2 c) T P (fun r3 t3 g3 => ⟨fun d => ?_, fun d => ?_⟩)
      · rcases t3 with ⟨e, _⟩ | ⟨_, n3⟩
        · rw [e] at d
          exact absurd d (by decide)
        · refine k 0 (Or.inr ⟨rfl, fun z => ?_⟩) (g3.1 d)
          rcases z with z | z
          · exact n1 z
          · exact n3 z
      · rcases t3 with ⟨_, y⟩ | ⟨e, _⟩
        · exact k 1 (Or.inl ⟨rfl, Or.inr y⟩) (g3.2 d)
        · rw [e] at d
          exact absurd i_0 d
theorem vc_x {v : MW} {a : Int32} {Q Q' : Int32 → MW → Prop} (h : p_St_isValve v a Q) (k : ∀ r : Int32, (r = 1 ∧ VaC v a.toInt) ∨ (r = 0 ∧ ¬ VaC v a.toInt) → Q r v → Q' r v) : p_St_isValve v a Q' := by
  rw [p_St_isValve.eq_1] at h ⊢
  have e0 : (v.1 8 0).toInt = tC v := rfl
  have ek : (v.1 9 a.toInt.toNat).toInt = kC v a.toInt.toNat := rfl
  refine ⟨fun c => k 0 (Or.inr ⟨rfl, fun z => by have := z.1; omega⟩) (h.1 c), fun c => ⟨(h.2 c).1, fun d => k 0 (Or.inr ⟨rfl, fun z => by have := z.2.1; omega⟩) ((h.2 c).2.1 d), fun d => ⟨((h.2 c).2.2 d).1, ((h.2 c).2.2 d).2.1, fun e => k 0 (Or.inr ⟨rfl, fun z => by have := z.2.2; omega⟩) (((h.2 c).2.2 d).2.2.1 e), fun e => k 1 (Or.inl ⟨rfl, by omega, by omega, by omega⟩) (((h.2 c).2.2 d).2.2.2 e)⟩⟩⟩
theorem vm_x {w : MW} {a : Int32} {Q Q' : Int32 → MW → Prop} (h : p_Mo_isValve w a Q) (k : ∀ r : Int32, (r = 1 ∧ VaM w a.toInt) ∨ (r = 0 ∧ ¬ VaM w a.toInt) → Q r w → Q' r w) : p_Mo_isValve w a Q' := by
  rw [p_Mo_isValve.eq_1, p_Mo_isThing.eq_1] at h ⊢
  have e0 : (w.1 127 4).toInt = tM w := rfl
  refine ⟨fun c => ⟨fun _ => k 0 (Or.inr ⟨rfl, fun z => by have := z.1; omega⟩) ((h.1 c).1 i_0), fun z => absurd i_0 z⟩, fun c => ⟨fun d => ⟨fun _ => k 0 (Or.inr ⟨rfl, fun z => by have := z.2.1; omega⟩) (((h.2 c).1 d).1 i_0), fun z => absurd i_0 z⟩, fun d => ⟨fun z => absurd z (by decide), fun z => ?_⟩⟩⟩
  have H := ((h.2 c).2 d).2 z
  exact ⟨H.1, fun e => k 0 (Or.inr ⟨rfl, fun z2 => by have := z2.2.2; omega⟩) (H.2.1 e), fun e => k 1 (Or.inl ⟨rfl, by omega, by omega, by omega⟩) (H.2.2 e)⟩
theorem ho_e {v w : MW} (hr : HRq (mx v w)) (x : Int) : HoC v x ↔ HoM w x := by
  have e1 : tC v = tM w := hr.1.1.1
  have e2 : pC v = pM w := hr.1.1.2.1
  have tk : ∀ (h0 : 0 ≤ x) (h1 : x < tM w), tkC v x ↔ tkM w x := fun h0 h1 => tk_e (w := mx v w) hr.1.1 h0 h1
  unfold HoC HoM
  rw [e1, e2]
  constructor
  · intro q
    rcases q with q | q
    · exact Or.inl ⟨q.1, q.2.1, (tk q.1 q.2.1).mp q.2.2⟩
    · exact Or.inr q
  · intro q
    rcases q with q | q
    · exact Or.inl ⟨q.1, q.2.1, (tk q.1 q.2.1).mpr q.2.2⟩
    · exact Or.inr q
theorem va_e {v w : MW} (hr : HRq (mx v w)) (x : Int) : VaC v x ↔ VaM w x := by
  have e1 : tC v = tM w := hr.1.1.1
  have kd : ∀ (h0 : 0 ≤ x) (h1 : x < tM w), kC v x.toNat < 8 ↔ 2 ≤ (w.1 163 x.toNat).toInt := fun h0 h1 => by
    have q := hr.1.1.2.2.1 x.toNat (by have : tM (mx v w) = tM w := rfl; omega)
    have b : 0 ≤ (w.1 163 x.toNat).toInt ∧ (w.1 163 x.toNat).toInt ≤ 9 := q.1
    have e : kC v x.toNat = kmp (w.1 163 x.toNat).toInt := q.2.1
    rw [e]
    unfold kmp
    by_cases c0 : (w.1 163 x.toNat).toInt = 0
    · rw [if_pos c0]
      omega
    · rw [if_neg c0]
      by_cases c1 : (w.1 163 x.toNat).toInt = 1
      · rw [if_pos c1]
        omega
      · rw [if_neg c1]
        omega
  unfold VaC VaM
  rw [e1]
  constructor
  · intro q
    exact ⟨q.1, q.2.1, (kd q.1 q.2.1).mp q.2.2⟩
  · intro q
    exact ⟨q.1, q.2.1, (kd q.1 q.2.1).mpr q.2.2⟩
/-- what space tells -/
def SpS (v w : MW) (x : Int) (b r : Int32) : Prop := (b.toInt = 4 ∧ VaM w x ∧ r = w.1 167 x.toNat) ∨ (b.toInt = 4 ∧ ¬ VaM w x ∧ r = -1) ∨ (¬ b.toInt = 4 ∧ ¬ HoM w x ∧ r = -1) ∨ (HoM w x ∧ ((b.toInt = 0 ∧ r = v.1 17 x.toNat) ∨ (b.toInt = 1 ∧ r = v.1 18 x.toNat) ∨ (b.toInt = 2 ∧ r = w.1 173 x.toNat) ∨ (b.toInt = 3 ∧ r = (if ¬ (v.1 17 x.toNat).toInt = 0 ∨ (w.1 173 x.toNat).toInt = 0 then 0 else hlM w x.toNat)) ∨ (¬ (0 ≤ b.toInt ∧ b.toInt ≤ 4) ∧ r = -1)))
theorem sps_u {v w : MW} {x : Int} {b r r' : Int32} (h : SpS v w x b r) (h' : SpS v w x b r') : r = r' := by
  rcases h with ⟨h1, h2, h3⟩ | ⟨h1, h2, h3⟩ | ⟨h1, h2, h3⟩ | ⟨h2, h1⟩
  · rcases h' with ⟨g1, g2, g3⟩ | ⟨g1, g2, g3⟩ | ⟨g1, g2, g3⟩ | ⟨g2, g1⟩
    · rw [h3, g3]
    · exact absurd h2 g2
    · exact absurd h1 g1
    · omega
  · rcases h' with ⟨g1, g2, g3⟩ | ⟨g1, g2, g3⟩ | ⟨g1, g2, g3⟩ | ⟨g2, g1⟩
    · exact absurd g2 h2
    · rw [h3, g3]
    · exact absurd h1 g1
    · omega
  · rcases h' with ⟨g1, g2, g3⟩ | ⟨g1, g2, g3⟩ | ⟨g1, g2, g3⟩ | ⟨g2, g1⟩
    · exact absurd g1 h1
    · exact absurd g1 h1
    · rw [h3, g3]
    · exact absurd g2 h2
  · rcases h' with ⟨g1, g2, g3⟩ | ⟨g1, g2, g3⟩ | ⟨g1, g2, g3⟩ | ⟨g2, g1⟩
    · omega
    · omega
    · exact absurd h2 g2
    · rcases h1 with ⟨p, q⟩ | ⟨p, q⟩ | ⟨p, q⟩ | ⟨p, q⟩ | ⟨p, q⟩ <;> rcases g1 with ⟨p', q'⟩ | ⟨p', q'⟩ | ⟨p', q'⟩ | ⟨p', q'⟩ | ⟨p', q'⟩ <;> first | (exact q.trans q'.symm) | omega
theorem cs_x {v w : MW} {a b : Int32} {Q Q' : Int32 → MW → Prop} (hv : BND v) (hw : BND w) (hr : HRq (mx v w)) (h : p_Bh_space v a b Q) (k : ∀ r, SpS v w a.toInt b r → Q r v → Q' r v) : p_Bh_space v a b Q' := by
  obtain ⟨T, P, eT, eP, _⟩ := hr_T hw hr
  rw [p_Bh_space.eq_1] at h ⊢
  refine ⟨fun c => ho_x (h.1 c) T P (fun r2 t2 g => ⟨fun d => ?_, fun d => ?_⟩), fun c => vc_x (h.2 c) (fun r2 t2 g => ⟨fun d => ?_, fun d => ⟨(g.2 d).1, ?_⟩⟩)⟩
  · rcases t2 with ⟨_, y⟩ | ⟨e, _⟩
    case inr =>
      rw [e] at d
      exact absurd i_0 d
    case inl =>
      have ym := (ho_e hr a.toInt).mp y
      have G := g.1 d
      have a0 : 0 ≤ a.toInt ∧ a.toInt < tM w + pM w := by
        rcases y with y | y
        · have := y.1
          have := y.2.1
          omega
        · have := y.1
          have := y.2
          omega
      have b17 := bd_17 hv a.toInt.toNat
      have sv := hr.2.2.1.2.1.1 a.toInt.toNat (by have : tM (mx v w) = tM w := rfl; have : pM (mx v w) = pM w := rfl; omega)
      rw [mx_c v w (c := 17) (by decide), mx_c v w (c := 19) (by decide), mx_m v w (c := 173) (by decide)] at sv
      refine ⟨fun e => ⟨(G.1 e).1, k _ (Or.inr (Or.inr (Or.inr ⟨ym, Or.inl ⟨e, rfl⟩⟩))) (G.1 e).2⟩, fun e => ⟨fun e1 => ⟨((G.2 e).1 e1).1, k _ (Or.inr (Or.inr (Or.inr ⟨ym, Or.inr (Or.inl ⟨e1, rfl⟩)⟩))) ((G.2 e).1 e1).2⟩, fun e1 => ⟨fun e2 => ?_, fun e2 => ⟨fun e3 => ?_, fun e3 => ?_⟩⟩⟩⟩
      · have H := ((G.2 e).2 e1).1 e2
        refine ⟨H.1, fun f => ⟨(H.2.1 f).1, k _ (Or.inr (Or.inr (Or.inr ⟨ym, Or.inr (Or.inr (Or.inl ⟨e2, (sv.1 (by omega)).symm⟩))⟩))) (H.2.1 f).2⟩, fun f => ⟨(H.2.2 f).1, k _ (Or.inr (Or.inr (Or.inr ⟨ym, Or.inr (Or.inr (Or.inl ⟨e2, (sv.2 (by omega)).symm⟩))⟩))) (H.2.2 f).2⟩⟩
      · have H := (((G.2 e).2 e1).2 e2).1 e3
        have fin : ∀ r, r = (if ¬ (v.1 17 a.toInt.toNat).toInt = 0 ∨ (w.1 173 a.toInt.toNat).toInt = 0 then 0 else hlM w a.toInt.toNat) → Q r v → Q' r v := fun r er => k r (Or.inr (Or.inr (Or.inr ⟨ym, Or.inr (Or.inr (Or.inr (Or.inl ⟨e3, er⟩)))⟩)))
        rw [p_St_levelOf.eq_1] at H ⊢
        refine ⟨H.1, fun f => fin _ (by rw [if_pos (Or.inl f)]) (H.2.1 f), fun f => ⟨(H.2.2 f).1, fun f2 => hc_x ((H.2.2 f).2.1 f2) a0.1 (by omega) (fun g4 => fin _ ?_ g4), fun f2 => fin _ ?_ ((H.2.2 f).2.2 f2)⟩⟩
        · have z0 := Classical.not_not.mp f
          rw [if_neg (fun q => ?_)]
          · exact hl_e (v := v) (w := w) hr.2.2.1.2.1 hr.2.1.2.2.2 (by omega)
          · rcases q with q | q
            · exact f q
            · rw [sv.1 z0] at q
              exact f2 q
        · rw [if_pos (Or.inr (by rw [sv.1 (Classical.not_not.mp f)]; exact Classical.not_not.mp f2))]
      · exact k _ (Or.inr (Or.inr (Or.inr ⟨ym, Or.inr (Or.inr (Or.inr (Or.inr ⟨by omega, rfl⟩)))⟩))) ((((G.2 e).2 e1).2 e2).2 e3)
  · rcases t2 with ⟨e, _⟩ | ⟨_, n⟩
    · rw [e] at d
      exact absurd (by decide) d
    · exact k _ (Or.inr (Or.inr (Or.inl ⟨c, fun z => n ((ho_e hr a.toInt).mpr z), rfl⟩))) (g.2 d)
  · rcases t2 with ⟨e, _⟩ | ⟨_, n⟩
    · rw [e] at d
      exact absurd d (by decide)
    · exact k _ (Or.inr (Or.inl ⟨Classical.not_not.mp c, fun z => n ((va_e hr a.toInt).mpr z), rfl⟩)) (g.1 d)
  · rcases t2 with ⟨_, y⟩ | ⟨e, _⟩
    · have ym := (va_e hr a.toInt).mp y
      have q : v.1 16 a.toInt.toNat = w.1 167 a.toInt.toNat := (hr.1.1.2.2.1 a.toInt.toNat (by have : tM (mx v w) = tM w := rfl; have := ym.1; have := ym.2.1; omega)).2.2
      exact k _ (Or.inl ⟨Classical.not_not.mp c, ym, q⟩) (g.2 d).2
    · rw [e] at d
      exact absurd i_0 d
theorem ms_x {v w : MW} {a b : Int32} {Q Q' : Int32 → MW → Prop} (hv : BND v) (hw : BND w) (hr : HRq (mx v w)) (h : p_Mo_space w a b Q) (k : ∀ r, SpS v w a.toInt b r → Q r w → Q' r w) : p_Mo_space w a b Q' := by
  have T := hb_T hw
  have P := hb_P hw
  rw [p_Mo_space.eq_1] at h ⊢
  refine ⟨fun c => hm_x (h.1 c) T P (fun r2 t2 g => ⟨fun d => ?_, fun d => ?_⟩), fun c => vm_x (h.2 c) (fun r2 t2 g => ⟨fun d => ?_, fun d => ⟨(g.2 d).1, ?_⟩⟩)⟩
  · rcases t2 with ⟨e, _⟩ | ⟨_, n⟩
    · rw [e] at d
      exact absurd d (by decide)
    · exact k _ (Or.inr (Or.inr (Or.inl ⟨c, n, rfl⟩))) (g.1 d)
  · rcases t2 with ⟨_, y⟩ | ⟨e, _⟩
    case inr =>
      rw [e] at d
      exact absurd i_0 d
    case inl =>
      have G := g.2 d
      have a0 : 0 ≤ a.toInt ∧ a.toInt < tM w + pM w := by
        rcases y with y | y
        · have := y.1
          have := y.2.1
          omega
        · have := y.1
          have := y.2
          omega
      refine ⟨fun e => k _ (Or.inr (Or.inr (Or.inr ⟨y, Or.inr (Or.inr (Or.inr (Or.inr ⟨by omega, rfl⟩)))⟩))) (G.1 e), fun e => ⟨fun e1 => ⟨fun e2 => ⟨fun e3 => ⟨fun e4 => ?_, fun e4 => ?_⟩, fun e3 => ?_⟩, fun e2 => ?_⟩, fun e1 => k _ (Or.inr (Or.inr (Or.inr ⟨y, Or.inr (Or.inr (Or.inr (Or.inr ⟨by omega, rfl⟩)))⟩))) ((G.2 e).2 e1)⟩⟩
      · have H := ((((G.2 e).1 e1).1 e2).1 e3).1 e4
        exact lev_x H (hr_skl hr) a0.1 a0.2 T P (fun p hp => hr_s200 hr p hp) (fun x => (bd_17 hv x).1) (fun r er g4 => k r (Or.inr (Or.inr (Or.inr ⟨y, Or.inr (Or.inr (Or.inr (Or.inl ⟨by omega, er⟩)))⟩))) g4)
      · have H := ((((G.2 e).1 e1).1 e2).1 e3).2 e4
        exact ⟨H.1, k _ (Or.inr (Or.inr (Or.inr ⟨y, Or.inr (Or.inr (Or.inl ⟨Classical.not_not.mp e4, rfl⟩))⟩))) H.2⟩
      · have H := (((G.2 e).1 e1).1 e2).2 e3
        have fin : ∀ r : Int32, r.toInt = (v.1 18 a.toInt.toNat).toInt → Q r w → Q' r w := fun r er => k r (Or.inr (Or.inr (Or.inr ⟨y, Or.inr (Or.inl ⟨Classical.not_not.mp e3, i32_e er⟩)⟩)))
        rw [p_Mo_litresIn.eq_1] at H ⊢
        have e0 : (w.1 127 4).toInt = tM w := rfl
        refine ⟨fun f => ?_, fun f => ⟨(H.2 f).1, fin _ ?_ (H.2 f).2⟩⟩
        · have pp : (((a.toInt - tM w).toNat : Nat) : Int) < pM w := by omega
          have sp := (hr.2.2.1.2.2.2.1 (a.toInt - tM w).toNat pp).2.2.2.2
          refine lt_19 (p := (a.toInt - tM w).toNat) T (by omega) (by omega) (hr_s200 hr _ pp) (fun r er g4 => fin r ?_ g4) _ _ _ (H.1 f) (by decide) (Or.inr (by decide)) (by rw [i_0]; rfl)
          have tw : (tM (mx v w)).toNat + (a.toInt - tM w).toNat = a.toInt.toNat := by
            have : tM (mx v w) = tM w := rfl
            omega
          rw [tw] at sp
          have sp' : (v.1 18 a.toInt.toNat).toInt = ctb (fun k => decide (¬ w.1 172 (200 * (a.toInt - tM w).toNat + k) = 0)) (w.1 169 (a.toInt - tM w).toNat).toInt.toNat := sp
          rw [er, sp']
        · have tk : tkM w ((a.toInt.toNat : Nat) : Int) := by
            rw [show ((a.toInt.toNat : Nat) : Int) = a.toInt by omega]
            rcases y with y | y
            · exact y.2.2
            · have := y.1
              omega
          have q : v.1 18 a.toInt.toNat = w.1 165 a.toInt.toNat := (hr.2.2.1.2.2.1 a.toInt.toNat (by have : tM (mx v w) = tM w := rfl; omega) tk).1
          rw [q]
      · have H := ((G.2 e).1 e1).2 e2
        exact li_x H (hr_skl hr) a0.1 a0.2 T P (fun p hp => hr_s200 hr p hp) (fun g4 => k _ (Or.inr (Or.inr (Or.inr ⟨y, Or.inl ⟨Classical.not_not.mp e2, rfl⟩⟩))) g4)
  · rcases t2 with ⟨e, _⟩ | ⟨_, n⟩
    · rw [e] at d
      exact absurd d (by decide)
    · exact k _ (Or.inr (Or.inl ⟨Classical.not_not.mp c, n, rfl⟩)) (g.1 d)
  · rcases t2 with ⟨_, y⟩ | ⟨e, _⟩
    · exact k _ (Or.inl ⟨Classical.not_not.mp c, y, rfl⟩) (g.2 d).2
    · rw [e] at d
      exact absurd i_0 d
