/-! the class reads a plant -/
def lrc9 : Pl := (91, some 9) :: lrd9
theorem rc_read {w : MW} {Q : Int32 → MW → Prop} (hI : BND w) (hQ : ∀ (r : Int32) (w' : MW) ls', BND w' → FR lrc9 w w' → r.toInt ≤ 4000 → (∃ k, PlR (cf w) (w.1 1 2).toInt k 0 [] r.toInt ls') → (r.toInt < 0 → PWc w' ls') → Q r w') : p_Pl_reads91_1 w Q := by
  refine Eq.mpr (p_Pl_reads91_1.eq_1 _ _) ?_
  have F0 : FR lrc9 w (sI (sI (sI (sR w 91 9 (some 1)) 91 0 0) 91 1 0) 91 10 0) := FR.I (FR.I (FR.I (FR.R (FR.refl _ w) rfl) rfl) rfl) rfl
  have B0 : BND (sI (sI (sI (sR w 91 9 (some 1)) 91 0 0) 91 1 0) 91 10 0) := wbd_91_10 (wbd_91_1 (wbd_91_0 (bnd_R hI) (by decide) (by decide)) (by decide) (by decide)) (by decide) (by decide)
  have r0 : (sI (sI (sI (sR w 91 9 (some 1)) 91 0 0) 91 1 0) 91 10 0).2.2 91 9 = some 1 := sRs w 91 9 (some 1)
  have e10 : ((sI (sI (sI (sR w 91 9 (some 1)) 91 0 0) 91 1 0) 91 10 0).1 91 10).toInt = 0 := by rw [sI_same]; exact i_0
  have e1 : ((sI (sI (sI (sR w 91 9 (some 1)) 91 0 0) 91 1 0) 91 10 0).1 91 1).toInt = 0 := by rw [sI_ne _ _ _ _ _ (by decide), sI_same]; exact i_0
  have e0 : ((sI (sI (sI (sR w 91 9 (some 1)) 91 0 0) 91 1 0) 91 10 0).1 91 0).toInt = 0 := by rw [sI_ne _ _ _ _ _ (by decide), sI_ne _ _ _ _ _ (by decide), sI_same]; exact i_0
  generalize (sI (sI (sI (sR w 91 9 (some 1)) 91 0 0) 91 1 0) 91 10 0) = z at *
  have ec : cf z = cf w := cf_fr F0 rfl
  have en : z.1 1 2 = w.1 1 2 := (F0 1 2 rfl).1
  have P0 : PWc z [] := ⟨e0, e1, fun t y q => (by cases q), fun p y q => (by cases q), fun t _ => rfl⟩
  have e00 : (0 : Int32) = nI 0 := rfl
  rw [e00]
  refine rc_22 (w0 := z) B0 (fun w' ls' B F P k => ?_) (fun r w' ls' B F r1 r4 k => ?_) FU 0 z [] B0 (FR.refl _ z) r0 P0 (by omega) (fun r ls' hk => by rw [e10] at hk; exact hk) (fu_lt (by decide))
  · rw [ec, en] at k
    exact hQ _ w' ls' B (F0.tr F rfl) (by decide) (by rw [i_m1]; exact k) (fun _ => P)
  · rw [ec, en] at k
    exact hQ _ w' ls' B (F0.tr F rfl) r4 k (fun c => by omega)
