/-! answers that hang on the arguments alone -/
def VL (C : Prop) (r : Int32) : Prop := (C ∧ r = 1) ∨ (¬ C ∧ r = 0)
theorem vl_eq {C : Prop} {r r' : Int32} (h : VL C r) (h' : VL C r') : r = r' := by
  rcases h with ⟨c, e⟩ | ⟨c, e⟩
  · rcases h' with ⟨c', e'⟩ | ⟨c', e'⟩
    · rw [e, e']
    · exact absurd c c'
  · rcases h' with ⟨c', e'⟩ | ⟨c', e'⟩
    · exact absurd c' c
    · rw [e, e']
def CN (a b c : Int32) : Prop := (1 ≤ a.toInt ∧ a.toInt ≤ 14) ∧ (1 ≤ b.toInt ∧ b.toInt ≤ 14) ∧ 0 ≤ c.toInt ∧ c.toInt ≤ 5
def CLs (a b : Int32) : Prop := (1 ≤ a.toInt ∧ a.toInt ≤ 5) ∧ 0 ≤ b.toInt ∧ b.toInt ≤ 1000000
def CWa (a b : Int32) : Prop := (0 ≤ a.toInt ∧ a.toInt ≤ 15) ∧ 0 ≤ b.toInt ∧ b.toInt ≤ 5
def CBi (a b d f : Int32) : Prop := (0 ≤ a.toInt ∧ a.toInt ≤ 31) ∧ (0 ≤ b.toInt ∧ b.toInt ≤ 4) ∧ (b.toInt = 0 → 1 ≤ f.toInt ∧ f.toInt ≤ 100) ∧ (b.toInt = 2 → 0 ≤ d.toInt ∧ d.toInt ≤ 9) ∧ (b.toInt = 3 → 1 ≤ d.toInt ∧ d.toInt ≤ 5)
theorem bh_liq {w : MW} {a : Int32} {Q : Int32 → MW → Prop} (h0 : ¬ (1 ≤ a.toInt ∧ a.toInt ≤ 14) → Q 0 w) (h1 : 1 ≤ a.toInt → a.toInt ≤ 14 → Q 1 w) : p_Bh_isLiquid w a Q :=
  Eq.mpr (p_Bh_isLiquid.eq_1 _ _ _) ⟨fun _ => h0 (by omega), fun _ => ⟨fun _ => h0 (by omega), fun _ => h1 (by omega) (by omega)⟩⟩
theorem cv_need {w : MW} {a b c : Int32} {Q : Int32 → MW → Prop} (h : CI w) (hQ : ∀ r w', CI w' → FR l_Bh_need w w' → VL (CN a b c) r → Q r w') : p_Bh_need w a b c Q := by
  have no : ¬ CN a b c → Q 0 w := fun n => hQ 0 w h (FR.refl _ w) (Or.inr ⟨n, rfl⟩)
  refine Eq.mpr (p_Bh_need.eq_1 _ _ _ _ _) (bh_liq (fun n => ⟨fun _ => no (fun q => n q.1), fun z => absurd i_0 z⟩) (fun a1 a2 => ⟨fun z => absurd z (by decide), fun _ => bh_liq (fun n => ⟨fun _ => no (fun q => n q.2.1), fun z => absurd i_0 z⟩) (fun b1 b2 => ⟨fun z => absurd z (by decide), fun _ => ⟨fun c0 => no (fun q => by have := q.2.2.1; omega), fun c0 => ⟨fun c5 => ?_, fun c5 => no (fun q => by have := q.2.2.2; omega)⟩⟩⟩)⟩))
  have m := ti_mul2 (Eq.refl a.toInt) (by decide : ((15 : Int32)).toInt = 15) (by omega) (by omega)
  have s := ti_add2 m (Eq.refl b.toInt) (by omega) (by omega)
  have F : FR l_Bh_need w (sI w 24 ((a * (15 : Int32)) + b).toInt.toNat c) := FR.I (FR.refl _ w) rfl
  exact ⟨⟨by omega, by omega⟩, hQ 1 _ (ci_fr h F (wbd_24 h.1 _ (by omega) c5) rfl) F (Or.inl ⟨⟨⟨a1, a2⟩, ⟨b1, b2⟩, by omega, c5⟩, rfl⟩)⟩
theorem mv_need {w : MW} {a b c : Int32} {Q : Int32 → MW → Prop} (h : MdJ w) (hQ : ∀ r w', MdJ w' → FR l_Mo_need w w' → VL (CN a b c) r → Q r w') : p_Mo_need w a b c Q := by
  have no : ¬ CN a b c → Q 0 w := fun n => hQ 0 w h (FR.refl _ w) (Or.inr ⟨n, rfl⟩)
  have N : ((a.toInt < 1 ∨ 14 < a.toInt) ∨ (b.toInt < 1 ∨ 14 < b.toInt) ∨ c.toInt < 0 ∨ 5 < c.toInt) → Q 0 w := fun o => no (fun q => by
    have q1 := q.1
    have q2 := q.2.1
    have q3 := q.2.2
    omega)
  refine Eq.mpr (p_Mo_need.eq_1 _ _ _ _ _) ⟨fun _ => N (by omega), fun a1 => ⟨fun _ => N (by omega), fun a2 => ⟨fun _ => N (by omega), fun b1 => ⟨fun _ => N (by omega), fun b2 => ⟨fun _ => N (by omega), fun c0 => ⟨fun c5 => ?_, fun _ => N (by omega)⟩⟩⟩⟩⟩⟩
  have m := ti_mul2 (by decide : ((16 : Int32)).toInt = 16) (Eq.refl a.toInt) (by omega) (by omega)
  have s := ti_add2 m (Eq.refl b.toInt) (by omega) (by omega)
  have F : FR l_Mo_need w (sI w 176 ((((16 : Int32) * a) + b).toInt.toNat) c) := FR.I (FR.refl _ w) rfl
  exact ⟨⟨by omega, by omega⟩, hQ 1 _ (mj_fr h (wbd_176 h.1.1 _ (by omega) c5) F rfl) F (Or.inl ⟨⟨⟨by omega, by omega⟩, ⟨by omega, by omega⟩, by omega, c5⟩, rfl⟩)⟩
theorem cv_lasts {w : MW} {a b : Int32} {Q : Int32 → MW → Prop} (h : CI w) (hQ : ∀ r w', CI w' → FR l_Bh_lasts w w' → VL (CLs a b) r → Q r w') : p_Bh_lasts w a b Q := by
  have N : ((a.toInt < 1 ∨ 5 < a.toInt) ∨ b.toInt < 0 ∨ 1000000 < b.toInt) → Q 0 w := fun o => hQ 0 w h (FR.refl _ w) (Or.inr ⟨fun q => by
    have q1 := q.1
    have q2 := q.2
    omega, rfl⟩)
  refine Eq.mpr (p_Bh_lasts.eq_1 _ _ _ _) ⟨fun _ => N (by omega), fun a1 => ⟨fun _ => N (by omega), fun a2 => ⟨fun _ => N (by omega), fun b0 => ⟨fun b1 => ?_, fun _ => N (by omega)⟩⟩⟩⟩
  have F : FR l_Bh_lasts w (sI w 25 a.toInt.toNat b) := FR.I (FR.refl _ w) rfl
  exact ⟨⟨by omega, by omega⟩, hQ 1 _ (ci_fr h F (wbd_25 h.1 _ (by omega) b1) rfl) F (Or.inl ⟨⟨⟨by omega, by omega⟩, by omega, b1⟩, rfl⟩)⟩
theorem mv_lasts {w : MW} {a b : Int32} {Q : Int32 → MW → Prop} (h : MdJ w) (hQ : ∀ r w', MdJ w' → FR l_Mo_lasts w w' → VL (CLs a b) r → Q r w') : p_Mo_lasts w a b Q := by
  have N : ((a.toInt < 1 ∨ 5 < a.toInt) ∨ b.toInt < 0 ∨ 1000000 < b.toInt) → Q 0 w := fun o => hQ 0 w h (FR.refl _ w) (Or.inr ⟨fun q => by
    have q1 := q.1
    have q2 := q.2
    omega, rfl⟩)
  refine Eq.mpr (p_Mo_lasts.eq_1 _ _ _ _) ⟨fun _ => N (by omega), fun a1 => ⟨fun _ => N (by omega), fun a2 => ⟨fun _ => N (by omega), fun b0 => ⟨fun b1 => ?_, fun _ => N (by omega)⟩⟩⟩⟩
  have F : FR l_Mo_lasts w (sI w 177 a.toInt.toNat b) := FR.I (FR.refl _ w) rfl
  exact ⟨⟨by omega, by omega⟩, hQ 1 _ (mj_fr h (wbd_177 h.1.1 _ (by omega) b1) F rfl) F (Or.inl ⟨⟨⟨by omega, by omega⟩, by omega, b1⟩, rfl⟩)⟩
theorem cv_watch {w : MW} {a b c : Int32} {d : Int64} {Q : Int32 → MW → Prop} (h : CI w) (hQ : ∀ r w', CI w' → FR l_Bh_watch w w' → VL (CWa a b) r → Q r w') : p_Bh_watch w a b c d Q := by
  have N : ((a.toInt < 0 ∨ 15 < a.toInt) ∨ b.toInt < 0 ∨ 5 < b.toInt) → Q 0 w := fun o => hQ 0 w h (FR.refl _ w) (Or.inr ⟨fun q => by
    have q1 := q.1
    have q2 := q.2
    omega, rfl⟩)
  refine Eq.mpr (p_Bh_watch.eq_1 _ _ _ _ _ _) ⟨fun _ => N (by omega), fun a1 => ⟨fun _ => N (by omega), fun a2 => ⟨fun _ => N (by omega), fun b0 => ⟨fun b1 => ?_, fun _ => N (by omega)⟩⟩⟩⟩
  have F : FR l_Bh_watch w (sJ (sI (sI w 126 a.toInt.toNat b) 124 a.toInt.toNat c) 125 a.toInt.toNat d) := FR.J (FR.I (FR.I (FR.refl _ w) rfl) rfl) rfl
  have g : 0 ≤ a.toInt ∧ a.toInt < 16 := ⟨by omega, by omega⟩
  exact ⟨g, g, g, hQ 1 _ (ci_fr h F (bnd_J (wbd_124 (wbd_126 h.1 _ (by omega) b1) _)) rfl) F (Or.inl ⟨⟨⟨by omega, by omega⟩, by omega, b1⟩, rfl⟩)⟩
theorem mv_watch {w : MW} {a b c : Int32} {d : Int64} {Q : Int32 → MW → Prop} (h : MdJ w) (hQ : ∀ r w', MdJ w' → FR l_Mo_watch w w' → VL (CWa a b) r → Q r w') : p_Mo_watch w a b c d Q := by
  have N : ((a.toInt < 0 ∨ 15 < a.toInt) ∨ b.toInt < 0 ∨ 5 < b.toInt) → Q 0 w := fun o => hQ 0 w h (FR.refl _ w) (Or.inr ⟨fun q => by
    have q1 := q.1
    have q2 := q.2
    omega, rfl⟩)
  refine Eq.mpr (p_Mo_watch.eq_1 _ _ _ _ _ _) ⟨fun _ => N (by omega), fun a1 => ⟨fun _ => N (by omega), fun a2 => ⟨fun _ => N (by omega), fun b0 => ⟨fun b1 => ?_, fun _ => N (by omega)⟩⟩⟩⟩
  have F : FR l_Mo_watch w (sJ (sI (sI w 203 a.toInt.toNat b) 204 a.toInt.toNat c) 205 a.toInt.toNat d) := FR.J (FR.I (FR.I (FR.refl _ w) rfl) rfl) rfl
  have g : 0 ≤ a.toInt ∧ a.toInt < 16 := ⟨by omega, by omega⟩
  exact ⟨g, g, g, hQ 1 _ (mj_fr h (bnd_J (wbd_204 (wbd_203 h.1.1 _ (by omega) b1) _)) F rfl) F (Or.inl ⟨⟨⟨by omega, by omega⟩, by omega, b1⟩, rfl⟩)⟩
theorem cv_bind {w : MW} {a b c d f : Int32} {Q : Int32 → MW → Prop} (h : CI w) (hQ : ∀ r w', CI w' → FR l_Ac_tie w w' → VL (CBi a b d f) r → Q r w') : p_Bh_bind w a b c d f Q := by
  have n : ¬ CBi a b d f → Q 0 w := fun c => hQ 0 w h (FR.refl _ w) (Or.inr ⟨c, rfl⟩)
  have K71 : 0 ≤ a.toInt → a.toInt ≤ 31 → 0 ≤ b.toInt → b.toInt ≤ 4 → (b.toInt = 0 → 1 ≤ f.toInt ∧ f.toInt ≤ 100) → (b.toInt = 2 → 0 ≤ d.toInt ∧ d.toInt ≤ 9) → (b.toInt = 3 → 1 ≤ d.toInt ∧ d.toInt ≤ 5) → q_Ac_tie_71 a b c d f w Q := fun a0 a1 b0 b1 z0 z2 z3 => by
    have hr : 0 ≤ a.toInt ∧ a.toInt < 32 := ⟨a0, by omega⟩
    have hF : FR l_Ac_tie w (sI (sI (sI (sI w 60 a.toInt.toNat b) 57 a.toInt.toNat c) 58 a.toInt.toNat d) 59 a.toInt.toNat f) := FR.I (FR.I (FR.I (FR.I (FR.refl _ w) rfl) rfl) rfl) rfl
    refine Eq.mpr (q_Ac_tie_71.eq_1 _ _ _ _ _ _ _) ⟨hr, hr, hr, hr, hQ _ _ ?_ hF (Or.inl ⟨⟨⟨a0, a1⟩, ⟨b0, b1⟩, z0, z2, z3⟩, rfl⟩)⟩
    have hB : BND (sI (sI (sI (sI w 60 a.toInt.toNat b) 57 a.toInt.toNat c) 58 a.toInt.toNat d) 59 a.toInt.toNat f) := wbd_59 (wbd_58 (wbd_57 (wbd_60 h.1 _ (by omega) b1) _) _) _
    have q7 : ∀ j, (sI (sI (sI (sI w 60 a.toInt.toNat b) 57 a.toInt.toNat c) 58 a.toInt.toNat d) 59 a.toInt.toNat f).1 60 j = (sI w 60 a.toInt.toNat b).1 60 j := fun j => rfl
    have q9 : ∀ j, (sI (sI (sI (sI w 60 a.toInt.toNat b) 57 a.toInt.toNat c) 58 a.toInt.toNat d) 59 a.toInt.toNat f).1 58 j = (sI w 58 a.toInt.toNat d).1 58 j := fun j => rfl
    have q0 : ∀ j, (sI (sI (sI (sI w 60 a.toInt.toNat b) 57 a.toInt.toNat c) 58 a.toInt.toNat d) 59 a.toInt.toNat f).1 59 j = (sI w 59 a.toInt.toNat f).1 59 j := fun j => rfl
    generalize (sI (sI (sI (sI w 60 a.toInt.toNat b) 57 a.toInt.toNat c) 58 a.toInt.toNat d) 59 a.toInt.toNat f) = w' at *
    have z := h.2.1
    have hA : AC w' := fun i => by
      rw [q7, q9]
      by_cases e : i.toInt.toNat = a.toInt.toNat
      · rw [e, sI_same, sI_same]
        exact ⟨z3, z2⟩
      · rw [sI_ne _ _ _ _ _ e, sI_ne _ _ _ _ _ e]
        exact z.2.2.1 i
    have hZ : AZ w' := fun i => by
      rw [q7, q0]
      by_cases e : i.toInt.toNat = a.toInt.toNat
      · rw [e, sI_same, sI_same]
        exact z0
      · rw [sI_ne _ _ _ _ _ e, sI_ne _ _ _ _ _ e]
        exact z.2.2.2.1 i
    have z' : CrZ w' := ⟨PA_fr hF rfl z.1, PT_fr hF rfl z.2.1, hA, hZ, PE_fr hF rfl z.2.2.2.2.1, PJ_fr hF rfl z.2.2.2.2.2.1, PL_fr hF rfl z.2.2.2.2.2.2.1, ((hF 61 3 rfl).2.2).trans z.2.2.2.2.2.2.2.1, ((hF 7 0 rfl).2.2).trans z.2.2.2.2.2.2.2.2.1, ((hF 47 3 rfl).2.2).trans z.2.2.2.2.2.2.2.2.2⟩
    refine ⟨hB, z', WO_fr hF rfl h.2.2.1, ?_, h.2.2.2.2.fr hF rfl⟩
    cases h.2.2.2.1 with
    | inl q =>
      refine Or.inl ⟨q.1.sl (SLy.fr hF rfl), fun k => ?_⟩
      rw [(hF 61 4 rfl).1] at k
      have t := q.2 k
      obtain ⟨L, hL⟩ := t.2
      exact ⟨by unfold yG; rw [(hF 80 _ rfl).1]; exact t.1, L, lv_fr hL hF rfl⟩
    | inr q => exact Or.inr ⟨by rw [(hF 62 2 rfl).1]; exact q.1, by rw [(hF 61 4 rfl).1]; exact q.2⟩
  have K35 : 0 ≤ a.toInt → a.toInt ≤ 31 → 0 ≤ b.toInt → b.toInt ≤ 4 → (b.toInt = 0 → 1 ≤ f.toInt ∧ f.toInt ≤ 100) → q_Ac_tie_35 a b c d f w Q := fun a0 a1 b0 b1 z0 => by
    have K52 : (b.toInt = 2 → 0 ≤ d.toInt ∧ d.toInt ≤ 9) → q_Ac_tie_52 a b c d f w Q := fun z2 => Eq.mpr (q_Ac_tie_52.eq_1 _ _ _ _ _ _ _) ⟨fun c3 => K71 a0 a1 b0 b1 z0 z2 (fun e => absurd e c3), fun c3 => ⟨fun nn => n (fun q => by have q1 := q.1; have q2 := q.2.1; have q3 := q.2.2.1; have q4 := q.2.2.2.1; have q5 := q.2.2.2.2; omega), fun d1 => ⟨fun d5 => K71 a0 a1 b0 b1 z0 z2 (fun _ => ⟨by omega, by omega⟩), fun nn => n (fun q => by have q1 := q.1; have q2 := q.2.1; have q3 := q.2.2.1; have q4 := q.2.2.2.1; have q5 := q.2.2.2.2; omega)⟩⟩⟩
    exact Eq.mpr (q_Ac_tie_35.eq_1 _ _ _ _ _ _ _) ⟨fun c2 => K52 (fun e => absurd e c2), fun c2 => ⟨fun nn => n (fun q => by have q1 := q.1; have q2 := q.2.1; have q3 := q.2.2.1; have q4 := q.2.2.2.1; have q5 := q.2.2.2.2; omega), fun d0 => ⟨fun nn => n (fun q => by have q1 := q.1; have q2 := q.2.1; have q3 := q.2.2.1; have q4 := q.2.2.2.1; have q5 := q.2.2.2.2; omega), fun d9 => K52 (fun _ => ⟨by omega, by omega⟩)⟩⟩⟩
  refine Eq.mpr (p_Bh_bind.eq_1 _ _ _ _ _ _ _) (Eq.mpr (p_Ac_tie.eq_1 _ _ _ _ _ _ _) (Eq.mpr (p_Ac_isAct.eq_1 _ _ _) ⟨fun _ => ⟨fun nn => n (fun q => by have q1 := q.1; have q2 := q.2.1; have q3 := q.2.2.1; have q4 := q.2.2.2.1; have q5 := q.2.2.2.2; omega), fun z => absurd i_0 z⟩, fun a0 => ⟨fun _ => ⟨fun nn => n (fun q => by have q1 := q.1; have q2 := q.2.1; have q3 := q.2.2.1; have q4 := q.2.2.2.1; have q5 := q.2.2.2.2; omega), fun z => absurd i_0 z⟩, fun a1 => ⟨fun z => absurd z (by decide), fun _ => ⟨fun nn => n (fun q => by have q1 := q.1; have q2 := q.2.1; have q3 := q.2.2.1; have q4 := q.2.2.2.1; have q5 := q.2.2.2.2; omega), fun b0 => ⟨fun b4 => ⟨fun c0 => ?_, fun c0 => ⟨fun nn => n (fun q => by have q1 := q.1; have q2 := q.2.1; have q3 := q.2.2.1; have q4 := q.2.2.2.1; have q5 := q.2.2.2.2; omega), fun f1 => ⟨fun nn => n (fun q => by have q1 := q.1; have q2 := q.2.1; have q3 := q.2.2.1; have q4 := q.2.2.2.1; have q5 := q.2.2.2.2; omega), fun f2 => ?_⟩⟩⟩, fun nn => n (fun q => by have q1 := q.1; have q2 := q.2.1; have q3 := q.2.2.1; have q4 := q.2.2.2.1; have q5 := q.2.2.2.2; omega)⟩⟩⟩⟩⟩))
  · exact K35 (by omega) (by omega) (by omega) b4 (fun e => absurd e c0)
  · exact K35 (by omega) (by omega) (by omega) b4 (fun _ => ⟨by omega, by omega⟩)
theorem mv_bind {w : MW} {a b c d f : Int32} {Q : Int32 → MW → Prop} (h : MdJ w) (hQ : ∀ r w', MdJ w' → FR [(197, none), (198, none), (199, none), (200, none)] w w' → VL (CBi a b d f) r → Q r w') : p_Mo_bind w a b c d f Q := by
  have n : ¬ CBi a b d f → Q 0 w := fun c => hQ 0 w h (FR.refl _ w) (Or.inr ⟨c, rfl⟩)
  have K72 : 0 ≤ a.toInt → a.toInt ≤ 31 → 0 ≤ b.toInt → b.toInt ≤ 4 → (b.toInt = 0 → 1 ≤ f.toInt ∧ f.toInt ≤ 100) → (b.toInt = 2 → 0 ≤ d.toInt ∧ d.toInt ≤ 9) → (b.toInt = 3 → 1 ≤ d.toInt ∧ d.toInt ≤ 5) → q_Mo_bind_72 a b c d f w Q := fun a0 a1 b0 b1 z0 z2 z3 => by
    have hr : 0 ≤ a.toInt ∧ a.toInt < 32 := ⟨a0, by omega⟩
    have hF : FR [(197, none), (198, none), (199, none), (200, none)] w (sI (sI (sI (sI w 197 a.toInt.toNat b) 198 a.toInt.toNat c) 199 a.toInt.toNat d) 200 a.toInt.toNat f) := FR.I (FR.I (FR.I (FR.I (FR.refl _ w) rfl) rfl) rfl) rfl
    refine Eq.mpr (q_Mo_bind_72.eq_1 _ _ _ _ _ _ _) ⟨hr, hr, hr, hr, hQ _ _ ?_ hF (Or.inl ⟨⟨⟨a0, a1⟩, ⟨b0, b1⟩, z0, z2, z3⟩, rfl⟩)⟩
    have hB : BND (sI (sI (sI (sI w 197 a.toInt.toNat b) 198 a.toInt.toNat c) 199 a.toInt.toNat d) 200 a.toInt.toNat f) := wbd_200 (wbd_199 (wbd_198 (wbd_197 h.1.1 _ (by omega) b1) _) _) _
    have q7 : ∀ j, (sI (sI (sI (sI w 197 a.toInt.toNat b) 198 a.toInt.toNat c) 199 a.toInt.toNat d) 200 a.toInt.toNat f).1 197 j = (sI w 197 a.toInt.toNat b).1 197 j := fun j => rfl
    have q9 : ∀ j, (sI (sI (sI (sI w 197 a.toInt.toNat b) 198 a.toInt.toNat c) 199 a.toInt.toNat d) 200 a.toInt.toNat f).1 199 j = (sI w 199 a.toInt.toNat d).1 199 j := fun j => rfl
    have q0 : ∀ j, (sI (sI (sI (sI w 197 a.toInt.toNat b) 198 a.toInt.toNat c) 199 a.toInt.toNat d) 200 a.toInt.toNat f).1 200 j = (sI w 200 a.toInt.toNat f).1 200 j := fun j => rfl
    generalize (sI (sI (sI (sI w 197 a.toInt.toNat b) 198 a.toInt.toNat c) 199 a.toInt.toNat d) 200 a.toInt.toNat f) = w' at *
    have P := h.1.2.2.2.1
    refine mj_tk h ⟨hB, tex_fr hF rfl h.1.2.1, TSx_fr hF rfl h.1.2.2.1, ⟨DR_fr hF rfl P.1, FT_fr hF rfl P.2.1, HW_fr hF rfl P.2.2.1, fun i => ?_, fun i => ?_, RP_fr hF rfl P.2.2.2.2.2.1, SZ_fr hF rfl P.2.2.2.2.2.2⟩, fun q => ?_⟩ hF rfl
    · rw [q7, q9]
      by_cases e : i.toInt.toNat = a.toInt.toNat
      · rw [e, sI_same, sI_same]
        exact ⟨z3, z2⟩
      · rw [sI_ne _ _ _ _ _ e, sI_ne _ _ _ _ _ e]
        exact P.2.2.2.1 i
    · rw [q7, q0]
      by_cases e : i.toInt.toNat = a.toInt.toNat
      · rw [e, sI_same, sI_same]
        exact z0
      · rw [sI_ne _ _ _ _ _ e, sI_ne _ _ _ _ _ e]
        exact P.2.2.2.2.1 i
    · rw [(hF 127 59 rfl).1] at q
      exact ⟨QP_fr hF rfl (h.1.2.2.2.2 q).1, QS_fr hF rfl (hF 210 0 rfl).1 (h.1.2.2.2.2 q).2⟩
  have K36 : 0 ≤ a.toInt → a.toInt ≤ 31 → 0 ≤ b.toInt → b.toInt ≤ 4 → (b.toInt = 0 → 1 ≤ f.toInt ∧ f.toInt ≤ 100) → q_Mo_bind_36 a b c d f w Q := fun a0 a1 b0 b1 z0 => Eq.mpr (q_Mo_bind_36.eq_1 _ _ _ _ _ _ _) ⟨fun n2 => Eq.mpr (q_Mo_bind_53.eq_1 _ _ _ _ _ _ _) ⟨fun n3 => K72 a0 a1 b0 b1 z0 (fun q => absurd q n2) (fun q => absurd q n3), fun _ => ⟨fun nn => n (fun q => by have q1 := q.1; have q2 := q.2.1; have q3 := q.2.2.1; have q4 := q.2.2.2.1; have q5 := q.2.2.2.2; omega), fun _ => ⟨fun _ => K72 a0 a1 b0 b1 z0 (fun q => absurd q n2) (fun _ => ⟨by omega, by omega⟩), fun nn => n (fun q => by have q1 := q.1; have q2 := q.2.1; have q3 := q.2.2.1; have q4 := q.2.2.2.1; have q5 := q.2.2.2.2; omega)⟩⟩⟩, fun _ => ⟨fun nn => n (fun q => by have q1 := q.1; have q2 := q.2.1; have q3 := q.2.2.1; have q4 := q.2.2.2.1; have q5 := q.2.2.2.2; omega), fun _ => ⟨fun nn => n (fun q => by have q1 := q.1; have q2 := q.2.1; have q3 := q.2.2.1; have q4 := q.2.2.2.1; have q5 := q.2.2.2.2; omega), fun _ => Eq.mpr (q_Mo_bind_53.eq_1 _ _ _ _ _ _ _) ⟨fun n3 => K72 a0 a1 b0 b1 z0 (fun _ => ⟨by omega, by omega⟩) (fun q => absurd q n3), fun _ => ⟨fun nn => n (fun q => by have q1 := q.1; have q2 := q.2.1; have q3 := q.2.2.1; have q4 := q.2.2.2.1; have q5 := q.2.2.2.2; omega), fun _ => ⟨fun _ => K72 a0 a1 b0 b1 z0 (fun _ => ⟨by omega, by omega⟩) (fun _ => ⟨by omega, by omega⟩), fun nn => n (fun q => by have q1 := q.1; have q2 := q.2.1; have q3 := q.2.2.1; have q4 := q.2.2.2.1; have q5 := q.2.2.2.2; omega)⟩⟩⟩⟩⟩⟩
  exact Eq.mpr (p_Mo_bind.eq_1 _ _ _ _ _ _ _) ⟨fun nn => n (fun q => by have q1 := q.1; have q2 := q.2.1; have q3 := q.2.2.1; have q4 := q.2.2.2.1; have q5 := q.2.2.2.2; omega), fun a0 => ⟨fun nn => n (fun q => by have q1 := q.1; have q2 := q.2.1; have q3 := q.2.2.1; have q4 := q.2.2.2.1; have q5 := q.2.2.2.2; omega), fun a1 => ⟨fun nn => n (fun q => by have q1 := q.1; have q2 := q.2.1; have q3 := q.2.2.1; have q4 := q.2.2.2.1; have q5 := q.2.2.2.2; omega), fun b0 => ⟨fun nn => n (fun q => by have q1 := q.1; have q2 := q.2.1; have q3 := q.2.2.1; have q4 := q.2.2.2.1; have q5 := q.2.2.2.2; omega), fun b1 => ⟨fun n0 => K36 (by omega) (by omega) (by omega) (by omega) (fun q => absurd q n0), fun _ => ⟨fun nn => n (fun q => by have q1 := q.1; have q2 := q.2.1; have q3 := q.2.2.1; have q4 := q.2.2.2.1; have q5 := q.2.2.2.2; omega), fun _ => ⟨fun nn => n (fun q => by have q1 := q.1; have q2 := q.2.1; have q3 := q.2.2.1; have q4 := q.2.2.2.1; have q5 := q.2.2.2.2; omega), fun _ => K36 (by omega) (by omega) (by omega) (by omega) (fun _ => ⟨by omega, by omega⟩)⟩⟩⟩⟩⟩⟩⟩
