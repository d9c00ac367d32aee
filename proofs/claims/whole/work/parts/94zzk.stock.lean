/-! what spaces hold: levels, liquids, what may come -/
/-- the level that is held: cl the cleanings by level, la how long levels last -/
def hlF (cl la : Nat → Int32) (now : Int32) : Nat → Int32 → Int32
  | 0, _ => 0
  | k + 1, l => if (if l.toInt < (cl (k + 1)).toInt then cl (k + 1) else l).toInt < 0 then hlF cl la now k (if l.toInt < (cl (k + 1)).toInt then cl (k + 1) else l) else if (la (k + 1)).toInt ≤ (now - (if l.toInt < (cl (k + 1)).toInt then cl (k + 1) else l)).toInt then hlF cl la now k (if l.toInt < (cl (k + 1)).toInt then cl (k + 1) else l) else nI (k + 1)
theorem hlF_s (cl la : Nat → Int32) (now l l' : Int32) (k : Nat) (e : l' = if l.toInt < (cl (k + 1)).toInt then cl (k + 1) else l) : hlF cl la now (k + 1) l = if l'.toInt < 0 then hlF cl la now k l' else if (la (k + 1)).toInt ≤ (now - l').toInt then hlF cl la now k l' else nI (k + 1) := by
  rw [e]
  rfl
theorem hlF_c {cl cl' la la' : Nat → Int32} {now now' : Int32} (en : now = now') : ∀ (k : Nat) (l : Int32), (∀ j, 1 ≤ j → j ≤ k → cl j = cl' j ∧ la j = la' j) → hlF cl la now k l = hlF cl' la' now' k l := by
  intro k
  induction k with
  | zero => exact fun _ _ => rfl
  | succ k ih =>
    intro l h
    have q := h (k + 1) (by omega) (Nat.le_refl _)
    rw [hlF_s cl la now l _ k rfl, hlF_s cl' la' now' l _ k rfl, q.1, q.2, ih _ (fun j h1 h2 => h j h1 (by omega)), en]
def hlC (w : MW) (x : Nat) : Int32 := hlF (fun l => w.1 23 (6 * x + l)) (fun l => w.1 25 l) (w.1 7 1) 5 (-1)
def hlM (w : MW) (x : Nat) : Int32 := hlF (fun l => w.1 174 (6 * x + l)) (fun l => w.1 177 l) (w.1 127 78) 5 (-1)
theorem hc_4 {w : MW} {x : Int32} {E E' : MW → Prop} {Q Q' : Int32 → MW → Prop} {R : Int32} (x0 : 0 ≤ x.toInt) (x1 : x.toInt < 44) (kE : R = 0 → E w → E' w) (kQ : ∀ r, r = R → Q r w → Q' r w) : ∀ (m k : Nat) (l v : Int32), v.toInt = (k : Int) → k ≤ 5 → hlF (fun l => w.1 23 (6 * x.toInt.toNat + l)) (fun l => w.1 25 l) (w.1 7 1) k l = R → q_St_heldLevel_4 x E Q m l v w → q_St_heldLevel_4 x E' Q' m l v w := by
  intro m
  induction m with
  | zero => exact fun _ _ _ _ _ _ h => False.elim h
  | succ m ih =>
    intro k l v ev k5 er h
    rw [q_St_heldLevel_4.eq_2, p_Ma_max.eq_1] at h ⊢
    cases k with
    | zero => exact ⟨fun c => kE er.symm (h.1 c), fun c => absurd (show v.toInt < 1 by omega) c⟩
    | succ k =>
      refine ⟨fun c => absurd c (by omega), fun c => ?_⟩
      have H := h.2 c
      have m1 := ti_mul2 (Eq.refl x.toInt) (by decide : ((6 : Int32)).toInt = 6) (by omega) (by omega)
      have m2 := ti_add2 m1 (Eq.refl v.toInt) (by omega) (by omega)
      have m3 : ((x * (6 : Int32)) + v).toInt.toNat = 6 * x.toInt.toNat + (k + 1) := by omega
      have vd := ti_dec v (by omega)
      have vn : v = nI (k + 1) := ti_inj (by rw [nI_toInt (by omega), ev])
      have v1 : v.toInt.toNat = k + 1 := by omega
      rw [m3, v1] at H ⊢
      have go : ∀ l' : Int32, l' = (if l.toInt < (w.1 23 (6 * x.toInt.toNat + (k + 1))).toInt then w.1 23 (6 * x.toInt.toNat + (k + 1)) else l) → ((l'.toInt < 0 → (q_St_heldLevel_4 x E Q m l' (v + ((-1) : Int32)) w)) ∧ (¬ (l'.toInt < 0) → ((0 ≤ v.toInt ∧ v.toInt < 6) ∧ (((w.1 25 (k + 1)).toInt ≤ ((w.1 7 1) - l').toInt → (q_St_heldLevel_4 x E Q m l' (v + ((-1) : Int32)) w)) ∧ (¬ ((w.1 25 (k + 1)).toInt ≤ ((w.1 7 1) - l').toInt) → (Q v w)))))) → ((l'.toInt < 0 → (q_St_heldLevel_4 x E' Q' m l' (v + ((-1) : Int32)) w)) ∧ (¬ (l'.toInt < 0) → ((0 ≤ v.toInt ∧ v.toInt < 6) ∧ (((w.1 25 (k + 1)).toInt ≤ ((w.1 7 1) - l').toInt → (q_St_heldLevel_4 x E' Q' m l' (v + ((-1) : Int32)) w)) ∧ (¬ ((w.1 25 (k + 1)).toInt ≤ ((w.1 7 1) - l').toInt) → (Q' v w)))))) := fun l' el g => by
        rw [hlF_s _ _ _ l l' k el] at er
        refine ⟨fun d => ih k _ _ (by omega) (by omega) (by rw [if_pos d] at er; exact er) (g.1 d), fun d => ⟨(g.2 d).1, fun d2 => ih k _ _ (by omega) (by omega) (by rw [if_neg d, if_pos d2] at er; exact er) ((g.2 d).2.1 d2), fun d2 => kQ v (by rw [if_neg d, if_neg d2] at er; rw [← er]; exact vn) ((g.2 d).2.2 d2)⟩⟩
      exact ⟨H.1, fun d => go _ (by rw [if_pos d]) (H.2.1 d), fun d => go _ (by rw [if_neg d]) (H.2.2 d)⟩
theorem hc_x {w : MW} {x : Int32} {Q Q' : Int32 → MW → Prop} (h : p_St_heldLevel w x Q) (x0 : 0 ≤ x.toInt) (x1 : x.toInt < 44) (k : Q (hlC w x.toInt.toNat) w → Q' (hlC w x.toInt.toNat) w) : p_St_heldLevel w x Q' := by
  rw [p_St_heldLevel.eq_1] at h ⊢
  exact hc_4 (R := hlC w x.toInt.toNat) x0 x1 (fun e g => by rw [e] at k; exact k g) (fun r e g => by rw [e] at g ⊢; exact k g) _ 5 _ _ (by decide) (Nat.le_refl _) rfl h
theorem hm_23 {w : MW} {x : Int32} {E E' : MW → Prop} {Q Q' : Int32 → MW → Prop} {R : Int32} (x0 : 0 ≤ x.toInt) (x1 : x.toInt < 44) (kE : R = 0 → E w → E' w) (kQ : ∀ r, r = R → Q r w → Q' r w) : ∀ (m k : Nat) (l v : Int32), v.toInt = (k : Int) → k ≤ 5 → hlF (fun l => w.1 174 (6 * x.toInt.toNat + l)) (fun l => w.1 177 l) (w.1 127 78) k l = R → q_Mo_level_23 x E Q m l v w → q_Mo_level_23 x E' Q' m l v w := by
  intro m
  induction m with
  | zero => exact fun _ _ _ _ _ _ h => False.elim h
  | succ m ih =>
    intro k l v ev k5 er h
    rw [q_Mo_level_23.eq_2] at h ⊢
    cases k with
    | zero => exact ⟨fun c => kE er.symm (h.1 c), fun c => absurd (show v.toInt ≤ 0 by omega) c⟩
    | succ k =>
      refine ⟨fun c => absurd c (by omega), fun c => ?_⟩
      have H := h.2 c
      have m1 := ti_mul2 (by decide : ((6 : Int32)).toInt = 6) (Eq.refl x.toInt) (by omega) (by omega)
      have m2 := ti_add2 m1 (Eq.refl v.toInt) (by omega) (by omega)
      have m3 : (((6 : Int32) * x) + v).toInt.toNat = 6 * x.toInt.toNat + (k + 1) := by omega
      have vd := ti_dec v (by omega)
      have vn : v = nI (k + 1) := ti_inj (by rw [nI_toInt (by omega), ev])
      have v1 : v.toInt.toNat = k + 1 := by omega
      rw [m3] at H ⊢
      have go : ∀ l' : Int32, l' = (if l.toInt < (w.1 174 (6 * x.toInt.toNat + (k + 1))).toInt then w.1 174 (6 * x.toInt.toNat + (k + 1)) else l) → q_Mo_level_57 x v l' w (fun (x23_2 : Int32) (x23_3 : Int32) (w : MW) => q_Mo_level_23 x E Q m x23_2 x23_3 w) E Q → q_Mo_level_57 x v l' w (fun (x23_2 : Int32) (x23_3 : Int32) (w : MW) => q_Mo_level_23 x E' Q' m x23_2 x23_3 w) E' Q' := fun l' el g => by
        rw [q_Mo_level_57.eq_1, v1] at g ⊢
        rw [hlF_s _ _ _ l l' k el] at er
        refine ⟨fun d => ih k _ _ (by omega) (by omega) (by rw [if_pos d] at er; exact er) (g.1 d), fun d => ⟨(g.2 d).1, fun d2 => ih k _ _ (by omega) (by omega) (by rw [if_neg d, if_pos d2] at er; exact er) ((g.2 d).2.1 d2), fun d2 => kQ v (by rw [if_neg d, if_neg d2] at er; rw [← er]; exact vn) ((g.2 d).2.2 d2)⟩⟩
      exact ⟨H.1, fun d => go _ (by rw [if_neg (by omega)]) (H.2.1 d), fun d => ⟨(H.2.2 d).1, go _ (by rw [if_pos (by omega)]) (H.2.2 d).2⟩⟩
/-- liquids of both sides -/
def SKl (v w : MW) : Prop := (∀ t : Nat, (t : Int) < tM w → (tkM w t → v.1 17 t = (if 0 < (w.1 165 t).toInt then w.1 166 t else 0)) ∧ (¬ tkM w t → v.1 17 t = 0)) ∧ (∀ p : Nat, (p : Int) < pM w → (v.1 17 ((tM w).toNat + p) = 0 ∧ ∀ k : Nat, (k : Int) < (w.1 169 p).toInt → w.1 172 (200 * p + k) = 0) ∨ (¬ v.1 17 ((tM w).toNat + p) = 0 ∧ (∀ k : Nat, (k : Int) < (w.1 169 p).toInt → w.1 172 (200 * p + k) = 0 ∨ w.1 172 (200 * p + k) = v.1 17 ((tM w).toNat + p)) ∧ ∃ k : Nat, (k : Int) < (w.1 169 p).toInt ∧ w.1 172 (200 * p + k) = v.1 17 ((tM w).toNat + p)))
theorem li_49 {w : MW} {p L : Int32} {E E' : Int32 → MW → Prop} {Q Q' : Int32 → MW → Prop} (p0 : 0 ≤ p.toInt) (p1 : p.toInt < 24) (s200 : (w.1 169 p.toInt.toNat).toInt ≤ 200) (nL : ¬ L.toInt = 0) (hL : ∀ k : Nat, (k : Int) < (w.1 169 p.toInt.toNat).toInt → w.1 172 (200 * p.toInt.toNat + k) = 0 ∨ w.1 172 (200 * p.toInt.toNat + k) = L) (kE : ∀ r, (r = 0 ∧ ∀ k : Nat, (k : Int) < (w.1 169 p.toInt.toNat).toInt → w.1 172 (200 * p.toInt.toNat + k) = 0) ∨ (r = L ∧ ∃ k : Nat, (k : Int) < (w.1 169 p.toInt.toNat).toInt ∧ w.1 172 (200 * p.toInt.toNat + k) = L) → E r w → E' r w) : ∀ (m : Nat) (l k : Int32), q_Mo_liquidIn_49 p E Q m l k w → 0 ≤ k.toInt → ((l = 0 ∧ ∀ k' : Nat, (k' : Int) < k.toInt → (k' : Int) < (w.1 169 p.toInt.toNat).toInt → w.1 172 (200 * p.toInt.toNat + k') = 0) ∨ (l = L ∧ ∃ k' : Nat, (k' : Int) < (w.1 169 p.toInt.toNat).toInt ∧ w.1 172 (200 * p.toInt.toNat + k') = L)) → q_Mo_liquidIn_49 p E' Q' m l k w := by
  intro m
  induction m with
  | zero => exact fun _ _ h _ _ => False.elim h
  | succ m ih =>
    intro l k h k0 st
    rw [q_Mo_liquidIn_49.eq_2] at h ⊢
    refine ⟨h.1, fun c => kE l ?_ (h.2.1 c), fun c => ?_⟩
    · rcases st with s | s
      · exact Or.inl ⟨s.1, fun k' hk' => s.2 k' (by omega) hk'⟩
      · exact Or.inr s
    · have H := h.2.2 c
      have ek := ti_add2 (Eq.refl k.toInt) i_1 (by omega) (by omega)
      have m1 := ti_mul2 (by decide : ((200 : Int32)).toInt = 200) (Eq.refl p.toInt) (by omega) (by omega)
      have m2 := ti_add2 m1 (Eq.refl k.toInt) (by omega) (by omega)
      have m3 : (((200 : Int32) * p) + k).toInt.toNat = 200 * p.toInt.toNat + k.toInt.toNat := by omega
      rw [m3] at H ⊢
      have cc := hL k.toInt.toNat (by omega)
      have z0 : (0 : Int32).toInt = 0 := i_0
      refine ⟨H.1, fun d => ih _ _ (H.2.1 d) (by omega) ?_, fun d => ⟨fun d2 => ⟨fun d3 => ?_, fun d3 => ?_⟩, fun d2 => ih _ _ ((H.2.2 d).2 d2) (by omega) ?_⟩⟩
      · rcases st with s | s
        · refine Or.inl ⟨s.1, fun k' h1 h2 => ?_⟩
          by_cases q : (k' : Int) = k.toInt
          · rw [show k' = k.toInt.toNat by omega]
            exact ti_inj (by rw [d, i_0])
          · exact s.2 k' (by omega) h2
        · exact Or.inr s
      · exfalso
        have cL : w.1 172 (200 * p.toInt.toNat + k.toInt.toNat) = L := by
          rcases cc with cc | cc
          · rw [cc] at d
            exact absurd i_0 d
          · exact cc
        rcases st with s | s
        · rw [s.1] at d3
          exact d3 i_0
        · rw [cL, s.1] at d2
          exact d2 rfl
      · have cL : w.1 172 (200 * p.toInt.toNat + k.toInt.toNat) = L := by
          rcases cc with cc | cc
          · rw [cc] at d
            exact absurd i_0 d
          · exact cc
        exact ih _ _ (((H.2.2 d).1 d2).2 d3) (by omega) (Or.inr ⟨cL, k.toInt.toNat, by omega, cL⟩)
      · have cL : w.1 172 (200 * p.toInt.toNat + k.toInt.toNat) = L := by
          rcases cc with cc | cc
          · rw [cc] at d
            exact absurd i_0 d
          · exact cc
        have e := ti_inj (Classical.not_not.mp d2)
        rw [cL] at e
        exact Or.inr ⟨e.symm, k.toInt.toNat, by omega, cL⟩
/-- what is in a space -/
theorem li_x {v w : MW} {x : Int32} {Q Q' : Int32 → MW → Prop} (h : p_Mo_liquidIn w x Q) (sk : SKl v w) (x0 : 0 ≤ x.toInt) (x1 : x.toInt < tM w + pM w) (T : 0 ≤ tM w ∧ tM w ≤ 20) (P : 0 ≤ pM w ∧ pM w ≤ 24) (s200 : ∀ p : Nat, (p : Int) < pM w → (w.1 169 p).toInt ≤ 200) (k : Q (v.1 17 x.toInt.toNat) w → Q' (v.1 17 x.toInt.toNat) w) : p_Mo_liquidIn w x Q' := by
  rw [p_Mo_liquidIn.eq_1] at h ⊢
  have eT : (w.1 127 4).toInt = tM w := rfl
  refine ⟨fun c => ?_, fun c => ?_⟩
  · have ep : (x - (w.1 127 4)).toInt = x.toInt - tM w := ti_sub2 rfl rfl (by omega) (by omega)
    have ex : x.toInt.toNat = (tM w).toNat + (x - (w.1 127 4)).toInt.toNat := by omega
    have S := sk.2 (x - (w.1 127 4)).toInt.toNat (by omega)
    rw [ex] at k
    have s2 := s200 (x - (w.1 127 4)).toInt.toNat (by omega)
    rcases S with ⟨s1, s3⟩ | ⟨s1, s3, s4⟩
    · rw [s1] at k
      refine li_49 (L := 1) (by omega) (by omega) s2 (by decide) (fun k' hk' => Or.inl (s3 k' hk')) (fun r hr g => ?_) _ _ _ (h.1 c) (by decide) (Or.inl ⟨rfl, fun k' hk' => by rw [i_0] at hk'; omega⟩)
      rcases hr with hr | ⟨_, k', hk', e⟩
      · rw [hr.1] at g ⊢
        exact k g
      · rw [s3 k' hk'] at e
        exact absurd (congrArg Int32.toInt e) (by decide)
    · refine li_49 (L := v.1 17 ((tM w).toNat + (x - (w.1 127 4)).toInt.toNat)) (by omega) (by omega) s2 (fun z => s1 (ti_inj (by rw [z, i_0]))) s3 (fun r hr g => ?_) _ _ _ (h.1 c) (by decide) (Or.inl ⟨rfl, fun k' hk' => by rw [i_0] at hk'; omega⟩)
      rcases hr with ⟨_, z⟩ | hr
      · obtain ⟨k', hk', e⟩ := s4
        rw [z k' hk'] at e
        exact absurd e.symm s1
      · rw [hr.1] at g ⊢
        exact k g
  · have H := h.2 c
    have S := sk.1 x.toInt.toNat (by omega)
    refine ⟨H.1, fun d => ?_, fun d => ⟨(H.2.2 d).1, fun d2 => ?_, fun d2 => ⟨((H.2.2 d).2.2 d2).1, ?_⟩⟩⟩
    · have e := S.2 (fun z => d (by unfold tkM at z; rw [show ((x.toInt.toNat : Nat) : Int).toNat = x.toInt.toNat by omega] at z; exact z))
      rw [e] at k
      exact k (H.2.1 d)
    · have e := S.1 (by unfold tkM; rw [show ((x.toInt.toNat : Nat) : Int).toNat = x.toInt.toNat by omega]; exact Classical.not_not.mp d)
      rw [e, if_neg (by omega)] at k
      exact k ((H.2.2 d).2.1 d2)
    · have e := S.1 (by unfold tkM; rw [show ((x.toInt.toNat : Nat) : Int).toNat = x.toInt.toNat by omega]; exact Classical.not_not.mp d)
      rw [e, if_pos (by omega)] at k
      exact k ((H.2.2 d).2.2 d2).2
