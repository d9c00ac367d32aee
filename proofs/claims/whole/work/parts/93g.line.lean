/-! the class reads a line of a plant, up to its end -/
/-- a pipe's end: a number, or - for -1 -/
def pes (f : Int → Int) (p : Int) : Bool × Int × Int := if f p = 45 then (true, -1, p + 1) else (decide (¬ (dgs f 7 0 0 p).1 = 0), (dgs f 7 0 0 p).2.1, (dgs f 7 0 0 p).2.2)
theorem pe_91 {w : MW} {Q : Int32 → MW → Prop} (hI : BND w) (hr : w.2.2 91 9 = some 1) (hQ : ∀ (b : Bool) (v q : Int), pes (cf w) (w.1 91 10).toInt = (b, v, q) → -1 ≤ v → v ≤ 9999999 → 0 ≤ q → q ≤ 4000 → Q (if b then 1 else 0) (sI (sI w 91 11 (tI v)) 91 10 (tI q))) : p_Pl_takesPipeEnds91 w Q := by
  have b := bd_91_10 hI
  have be := bd_1_2 hI
  refine Eq.mpr (p_Pl_takesPipeEnds91.eq_1 _ _) ⟨hr, at_x hI ⟨fun c => ?_, fun c => ?_⟩⟩
  · rw [cv_cf] at c
    refine nx_91 hI hr (fun n v q h1 h2 h3 h4 h5 => ?_)
    have g := hQ (decide (¬ n = 0)) v q (by unfold pes; rw [if_neg c, h1]) (by omega) h3 h4 h5
    by_cases z : n = 0
    · rw [if_pos z]
      rw [decide_eq_false (fun h => h z)] at g
      exact g
    · rw [if_neg z]
      rw [decide_eq_true z] at g
      exact g
  · rw [cv_cf] at c
    have c45 : cf w (w.1 91 10).toInt = 45 := Classical.not_not.mp c
    have cp := cf_pos (w := w) (p := (w.1 91 10).toInt) (by omega)
    have g := hQ true (-1) ((w.1 91 10).toInt + 1) (by unfold pes; rw [if_pos c45]) (by omega) (by omega) (by omega) (by omega)
    have e1 : tI ((w.1 91 10).toInt + 1) = (w.1 91 10) + (1 : Int32) := ti_inj (by rw [tI_t (by omega) (by omega), ti_add2 (Eq.refl (w.1 91 10).toInt) i_1 (by omega) (by omega)])
    have e2 : tI (-1) = -1 := ti_inj (by rw [tI_t (by omega) (by omega)]; exact i_m1.symm)
    rw [e1, e2, sI_cm w 91 11 91 10 _ _ (by decide)] at g
    exact g
theorem el_91 {w : MW} {Q : Int32 → MW → Prop} (hI : BND w) (hr : w.2.2 91 9 = some 1) (h1 : cf w (w.1 91 10).toInt = 10 → Q 1 w) (h0 : ¬ cf w (w.1 91 10).toInt = 10 → Q 0 w) : p_Pl_endsLines91 w Q := by
  refine Eq.mpr (p_Pl_endsLines91.eq_1 _ _) ⟨hr, at_x hI ⟨fun c => ?_, fun c => ?_⟩⟩
  · rw [cv_cf] at c
    exact h0 c
  · rw [cv_cf] at c
    exact h1 (Classical.not_not.mp c)
