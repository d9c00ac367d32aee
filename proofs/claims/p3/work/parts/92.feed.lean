/-! feed: how long the tape is -/
theorem ti_inj {x y : Int32} (h : x.toInt = y.toInt) : x = y := Int32.toInt_inj.mp h
def FdV (u v r : Int32) : Prop := (u.toInt ≤ 4000 ∧ v.toInt = u.toInt + 20 ∧ r = v) ∨ (4000 < u.toInt ∧ v = u ∧ r = -2)
theorem fd_eq {u v r v' r' : Int32} (h : FdV u v r) (h' : FdV u v' r') : v = v' ∧ r = r' := by
  rcases h with ⟨a, b, c⟩ | ⟨a, b, c⟩
  · rcases h' with ⟨a', b', c'⟩ | ⟨a', b', c'⟩
    · have e : v = v' := ti_inj (by omega)
      exact ⟨e, by rw [c, c', e]⟩
    · omega
  · rcases h' with ⟨a', b', c'⟩ | ⟨a', b', c'⟩
    · omega
    · exact ⟨by rw [b, b'], by rw [c, c']⟩
theorem put_x {w : MW} {a : Int32} {Q : MW → Prop} (hI : BND w) (h : (w.1 1 1).toInt ≤ 4016) (hQ : ∀ w', BND w' → FR l_Bh_feed w w' → (w'.1 1 1).toInt = (w.1 1 1).toInt + 4 → Q w') : p_Tp_put w a Q := by
  have b := bd_1_1 hI
  have s := nb_shr (w.1 1 1) ((2 : Int32) &&& 31) 2 4 (by decide) (by decide)
  have e := ti_add2 (Eq.refl (w.1 1 1).toInt) (by decide : ((4 : Int32)).toInt = 4) (by omega) (by omega)
  refine Eq.mpr (p_Tp_put.eq_1 _ _ _) ⟨fun c => by omega, fun _ => ⟨⟨by omega, by omega⟩, hQ _ (wbd_1_1 (wbd_2 hI _) (by omega) (by omega)) (FR.I (FR.I (FR.refl _ w) rfl) rfl) ?_⟩⟩
  rw [sI_same]
  exact e
theorem cv_feed {w : MW} {a b c d e : Int32} {Q : Int32 → MW → Prop} (h : CI w) (hQ : ∀ r w', CI w' → FR l_Bh_feed w w' → FdV (w.1 1 1) (w'.1 1 1) r → Q r w') : p_Bh_feed w a b c d e Q := by
  have bb := bd_1_1 h.1
  have s := ti_add2 (Eq.refl (w.1 1 1).toInt) (by decide : ((20 : Int32)).toInt = 20) (by omega) (by omega)
  have m : ((4 : Int32) * (1005 : Int32)).toInt = 4020 := by decide
  refine Eq.mpr (p_Bh_feed.eq_1 _ _ _ _ _ _ _) (Eq.mpr (p_Tp_hasRoom.eq_1 _ _) ⟨fun c => ⟨fun z => absurd i_0 z, fun _ => hQ _ w h (FR.refl _ w) (Or.inr ⟨by omega, rfl, rfl⟩)⟩, fun c => ⟨fun _ => ?_, fun z => absurd (by decide) z⟩⟩)
  refine put_x h.1 (by omega) (fun w1 B1 F1 e1 => put_x B1 (by omega) (fun w2 B2 F2 e2 => put_x B2 (by omega) (fun w3 B3 F3 e3 => put_x B3 (by omega) (fun w4 B4 F4 e4 => put_x B4 (by omega) (fun w5 B5 F5 e5 => ?_)))))
  have F : FR l_Bh_feed w w5 := (((F1.tr F2 rfl).tr F3 rfl).tr F4 rfl).tr F5 rfl
  exact hQ _ w5 (ci_fr h F B5 rfl) F (Or.inl ⟨by omega, by omega, rfl⟩)
theorem mfd_19 {a b c d e : Int32} {w0 : MW} {E : MW → Prop} {Q : Int32 → MW → Prop} (hE : ∀ w', BND w' → FR l_Mo_feed w0 w' → (w'.1 127 1).toInt = (w0.1 127 1).toInt + 20 → E w') (u : (w0.1 127 1).toInt ≤ 4000) (n : Nat) : ∀ (i : Int32) (w : MW), BND w → FR l_Mo_feed w0 w → 0 ≤ i.toInt → i.toInt ≤ 20 → (w.1 127 1).toInt = (w0.1 127 1).toInt + i.toInt → (20 - i.toInt).toNat < n → q_Mo_feed_19 a b c d e E Q n i w := by
  induction n with
  | zero => intros; omega
  | succ n ih =>
    intro i w hB hF i0 i1 hi hm
    have bb := bd_127_1 hB
    rw [q_Mo_feed_19.eq_2]
    refine ⟨fun z => hE w hB hF (by omega), fun z => ?_⟩
    have s1 := ti_add2 (Eq.refl i.toInt) i_1 (by omega) (by omega)
    have s2 := ti_add2 (Eq.refl (w.1 127 1).toInt) i_1 (by omega) (by omega)
    have K : ∀ y, q_Mo_feed_72 a b c d e i y w (fun (x19_6 : Int32) (w : MW) => q_Mo_feed_19 a b c d e E Q n x19_6 w) E Q := fun y => by
      refine Eq.mpr (q_Mo_feed_72.eq_1 _ _ _ _ _ _ _ _ _ _ _) ⟨⟨by omega, by omega⟩, ?_⟩
      refine ih _ _ (wbd_127_1 (wbd_128 hB _ (nb_byte _).1 (nb_byte _).2) (by omega) (by omega)) (FR.I (FR.I hF rfl) rfl) (by omega) (by omega) ?_ (by omega)
      rw [sI_same]
      omega
    exact ⟨fun _ => ⟨fun _ => ⟨fun _ => ⟨fun _ => K _, fun _ => K _⟩, fun _ => K _⟩, fun _ => K _⟩, fun _ => K _⟩
theorem mv_feed {w : MW} {a b c d e : Int32} {Q : Int32 → MW → Prop} (h : MdJ w) (hQ : ∀ r w', MdJ w' → FR l_Mo_feed w w' → FdV (w.1 127 1) (w'.1 127 1) r → Q r w') : p_Mo_feed w a b c d e Q := by
  have bb := bd_127_1 h.1.1
  have s := ti_add2 (Eq.refl (w.1 127 1).toInt) (by decide : ((20 : Int32)).toInt = 20) (by omega) (by omega)
  refine Eq.mpr (p_Mo_feed.eq_1 _ _ _ _ _ _ _) ⟨fun c => ?_, fun c => hQ _ w h (FR.refl _ w) (Or.inr ⟨by omega, rfl, rfl⟩)⟩
  exact mfd_19 (fun w' hB hF q => hQ _ w' (mj_fr h hB hF rfl) hF (Or.inl ⟨by omega, by omega, rfl⟩)) (by omega) FU 0 w h.1.1 (FR.refl _ w) (by decide) (by decide) (by rw [i_0]; omega) (fu_lt (by decide))
