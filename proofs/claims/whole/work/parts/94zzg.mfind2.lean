/-! the reference finds: the path -/
def Cnd (z w : MW) (e g : Nat) (due : Int) : Prop := LLw w g = due ∧ LPw w g = LPw w e - 1 ∧ ∃ n, AL z (xo e) g n
theorem pt_257 {z w : MW} {N : Nat} {e due : Int32} {E E' : Int32 → MW → Prop} {Q Q' : Int32 → MW → Prop} (hz : MZb z) (o : oM z w) (n2 : ((2 : Int32) * (w.1 127 11)).toInt = N) (n48 : N ≤ 48) (nP : (N : Int) = 2 * pM z) (e0 : 0 ≤ e.toInt) (eN : e.toInt < N) (lp : -1000000 ≤ LPw w e.toInt.toNat) (k : ∀ r : Int32, ((r = -1 ∧ (due.toInt ≤ 0 ∨ ∀ g, g < N → ¬ Cnd z w e.toInt.toNat g due.toInt)) ∨ (0 ≤ r.toInt ∧ r.toInt < N ∧ 0 < due.toInt ∧ Cnd z w e.toInt.toNat r.toInt.toNat due.toInt ∧ ∀ g, g < r.toInt.toNat → ¬ Cnd z w e.toInt.toNat g due.toInt)) → E r w → E' r w) : ∀ (m : Nat) (t g : Int32), q_Mo_find_257 e due E Q m t g w → 0 ≤ g.toInt → g.toInt ≤ N → ((t = -1 ∧ ∀ g' : Nat, (g' : Int) < g.toInt → ¬ Cnd z w e.toInt.toNat g' due.toInt) ∨ (0 ≤ t.toInt ∧ t.toInt < N ∧ 0 < due.toInt ∧ Cnd z w e.toInt.toNat t.toInt.toNat due.toInt ∧ ∀ g' : Nat, g' < t.toInt.toNat → ¬ Cnd z w e.toInt.toNat g' due.toInt)) → q_Mo_find_257 e due E' Q' m t g w := by
  have x1 := xo_i e0
  have exn : (e ^^^ (1 : Int32)).toInt.toNat = xo e.toInt.toNat := by omega
  have xl : xo e.toInt.toNat < N := by
    have := xo_lt (e := e.toInt.toNat) (N := (pM z).toNat) (by omega)
    omega
  have tmw : tM w = tM z := by
    unfold tM
    rw [o.2 127 4 rfl]
  have atw : atM w = atM z := by
    funext j
    unfold atM
    rw [o.2 170 j rfl]
  intro m
  induction m with
  | zero => exact fun _ _ h _ _ _ => False.elim h
  | succ m ih =>
    intro t g h g0 gN st
    rw [q_Mo_find_257.eq_2] at h ⊢
    refine ⟨fun c => k t ?_ (h.1 c), fun c => ⟨fun d => k t ?_ ((h.2 c).1 d), fun d => ⟨fun d2 => k t ?_ (((h.2 c).2 d).1 d2), fun d2 => ?_⟩⟩⟩
    · rcases st with s | s
      · exact Or.inl ⟨s.1, Or.inr (fun g' hg' => s.2 g' (by omega))⟩
      · exact Or.inr s
    · rcases st with s | s
      · exact absurd (show t.toInt = -1 by rw [s.1]; exact m1_i) d
      · exact Or.inr s
    · rcases st with s | s
      · exact Or.inl ⟨s.1, Or.inl d2⟩
      · exact Or.inr s
    · have H := ((h.2 c).2 d).2 d2
      have d' := Classical.not_not.mp d
      have s : t = -1 ∧ ∀ g' : Nat, (g' : Int) < g.toInt → ¬ Cnd z w e.toInt.toNat g' due.toInt := by
        rcases st with s | s
        · exact s
        · have := s.1
          omega
      have eg := ti_add2 (Eq.refl g.toInt) i_1 (by omega) (by omega)
      have skip : ¬ Cnd z w e.toInt.toNat g.toInt.toNat due.toInt → q_Mo_find_257 e due E Q m t (g + (1 : Int32)) w → q_Mo_find_257 e due E' Q' m t (g + (1 : Int32)) w := fun nc r => by
        refine ih _ _ r (by omega) (by omega) (Or.inl ⟨s.1, fun g' hg' => ?_⟩)
        by_cases q : (g' : Int) = g.toInt
        · rw [show g' = g.toInt.toNat by omega]
          exact nc
        · exact s.2 g' (by omega)
      have hi : LPw w e.toInt.toNat ≤ 2147483647 := ti_hi (w.1 189 e.toInt.toNat)
      have e1 : ((w.1 189 e.toInt.toNat) - (1 : Int32)).toInt = LPw w e.toInt.toNat - 1 := ti_sub2 rfl i_1 (by omega) (by omega)
      refine ⟨H.1, fun a => skip (fun q => a q.1) (H.2.1 a), fun a => ?_⟩
      have H2 := H.2.2 a
      refine ⟨H2.1, H2.2.1, fun b => skip (fun q => b (by rw [e1]; exact q.2.1)) (H2.2.2.1 b), fun b => ?_⟩
      have a' : LLw w g.toInt.toNat = due.toInt := Classical.not_not.mp a
      have b' : LPw w g.toInt.toNat = LPw w e.toInt.toNat - 1 := by
        rw [← e1]
        exact Classical.not_not.mp b
      refine nd_x (H2.2.2.2 b) (by omega) g0 (by rw [o.2 127 26 rfl]; exact hz.2.2.1) (fun y hy => by rw [o.2 163 y rfl]; exact hz.2.2.2.1 y (by rw [← tmw]; exact hy)) (by rw [atw, tmw, exn]; exact hz.2.2.2.2.1 _ (by omega)) (HP_c o hz.2.2.2.2.2.1) (fun r al rn R => ⟨fun z2 => absurd z2 rn, fun z2 => ?_⟩) (fun no R => ⟨fun z2 => skip (fun q => ?_) (R.1 z2), fun z2 => absurd m1_i z2⟩)
      · rw [exn, AL_c o] at al
        exact ih _ _ (R.2 z2) (by omega) (by omega) (Or.inr ⟨g0, by omega, by omega, ⟨a', b', r, al⟩, fun g' hg' => s.2 g' (by omega)⟩)
      · obtain ⟨_, _, n, al⟩ := q
        rw [exn] at no
        exact no n ((AL_c o _ _ _).mpr al)
theorem app1 (l : List Nat) (g i : Nat) : (l ++ [g])[i]? = if i < l.length then l[i]? else if i = l.length then some g else none := by
  by_cases c : i < l.length
  · rw [if_pos c, List.getElem?_append_left c]
  · rw [if_neg c, List.getElem?_append_right (by omega)]
    by_cases d : i = l.length
    · rw [if_pos d, d, Nat.sub_self]
      rfl
    · rw [if_neg d]
      exact List.getElem?_eq_none (by have : ([g] : List Nat).length = 1 := rfl; omega)
/-- what the things on a path are to be set to -/
def WnL (z : MW) (pl : List Nat) (w : MW) : Prop := ∀ t : Nat, t < 20 → ((w.1 192 t).toInt = -1 ∧ ∀ i a b, pl[i]? = some a → pl[i + 1]? = some b → ¬ atM z b = t) ∨ (∃ i a b, pl[i]? = some a ∧ pl[i + 1]? = some b ∧ atM z b = t ∧ AL z (xo a) b (w.1 192 t) ∧ ∀ i' a' b', i < i' → pl[i']? = some a' → pl[i' + 1]? = some b' → ¬ atM z b' = t)
theorem wn_s {z w : MW} {pre : List Nat} {e g : Nat} {n : Int32} {tt : Int} (h : WnL z (pre ++ [e]) w) (al : AL z (xo e) g n) (et : atM z g = tt) (t0 : 0 ≤ tt) : WnL z ((pre ++ [e]) ++ [g]) (sI w 192 tt.toNat n) := by
  have le : (pre ++ [e]).length = pre.length + 1 := by simp
  have old : ∀ i a b, ((pre ++ [e]) ++ [g])[i]? = some a → ((pre ++ [e]) ++ [g])[i + 1]? = some b → ((pre ++ [e])[i]? = some a ∧ (pre ++ [e])[i + 1]? = some b) ∨ (i = pre.length ∧ a = e ∧ b = g) := fun i a b h1 h2 => by
    rw [app1] at h1 h2
    by_cases c : i + 1 < (pre ++ [e]).length
    · rw [if_pos (by omega)] at h1
      rw [if_pos c] at h2
      exact Or.inl ⟨h1, h2⟩
    · rw [if_neg c] at h2
      by_cases d : i + 1 = (pre ++ [e]).length
      · rw [if_pos d] at h2
        rw [if_pos (by omega), app1, if_neg (by omega), if_pos (by omega)] at h1
        exact Or.inr ⟨by omega, (Option.some.inj h1).symm, (Option.some.inj h2).symm⟩
      · rw [if_neg d] at h2
        cases h2
  have neu : ∀ i a, (pre ++ [e])[i]? = some a → ((pre ++ [e]) ++ [g])[i]? = some a := fun i a h1 => by
    have := (List.getElem?_eq_some_iff.mp h1).1
    rw [app1, if_pos this]
    exact h1
  intro t ht
  rw [sI_if]
  by_cases q : t = tt.toNat
  · rw [if_pos q]
    refine Or.inr ⟨pre.length, e, g, ?_, ?_, by omega, al, fun i' a' b' hi h1 h2 => ?_⟩
    · rw [app1, if_pos (by omega), app1, if_neg (by omega), if_pos rfl]
    · rw [app1, if_neg (by omega), if_pos (by omega)]
    · rcases old i' a' b' h1 h2 with o | o
      · have := (List.getElem?_eq_some_iff.mp o.2).1
        omega
      · omega
  · rw [if_neg q]
    rcases h t ht with ⟨h1, h2⟩ | ⟨i, a, b, h1, h2, h3, h4, h5⟩
    · refine Or.inl ⟨h1, fun i a b p1 p2 => ?_⟩
      rcases old i a b p1 p2 with o | o
      · exact h2 i a b o.1 o.2
      · rw [o.2.2]
        omega
    · refine Or.inr ⟨i, a, b, neu _ _ h1, neu _ _ h2, h3, h4, fun i' a' b' hi p1 p2 => ?_⟩
      rcases old i' a' b' p1 p2 with o | o
      · exact h5 i' a' b' hi o.1 o.2
      · rw [o.2.2]
        omega
/-- the path so far -/
def PtM (z : MW) (N : Nat) (LL LP : Nat → Int) (x y : Int) (e0 : Nat) (e : Int32) (w : MW) : Prop := oM z w ∧ LLw w = LL ∧ LPw w = LP ∧ ∃ pre : List Nat, (w.1 127 39).toInt = pre.length ∧ (∀ i v, pre[i]? = some v → w.1 191 i = nI v) ∧ ((e = -1 ∧ WnL z pre w ∧ pre.length ≤ 24 ∧ ∃ m, Pth N (szM z) (ADm z) LL LP m e0 pre ∧ LP e0 = pre.length) ∨ (0 ≤ e.toInt ∧ e.toInt < N ∧ WnL z (pre ++ [e.toInt.toNat]) w ∧ ¬ LL e.toInt.toNat = -1 ∧ LP e.toInt.toNat + pre.length = LP e0 ∧ ∀ rest m, Pth N (szM z) (ADm z) LL LP m e.toInt.toNat rest → ∃ m', Pth N (szM z) (ADm z) LL LP m' e0 (pre ++ rest)))
theorem pt_209 {z : MW} {N : Nat} {LL LP : Nat → Int} {x y : Int} {e0 : Nat} {E E' : MW → Prop} {Q Q' : Int32 → MW → Prop} (hz : MZb z) (lx : LxF N (szM z) (ADm z) (BsM z y) LL LP) (hl : ∀ e, e < N → LL e ≤ 9600) (n48 : N ≤ 48) (nP : (N : Int) = 2 * pM z) (k : ∀ w, PtM z N LL LP x y e0 (-1) w → E w → E' w) : ∀ (m : Nat) (e : Int32) (w : MW), q_Mo_find_209 E Q m e w → PtM z N LL LP x y e0 e w → q_Mo_find_209 E' Q' m e w := by
  intro m
  induction m with
  | zero => exact fun _ _ h _ => False.elim h
  | succ m ih =>
    intro e w h pt
    obtain ⟨o, eL, eP, pre, p1, p2, p3⟩ := pt
    rw [q_Mo_find_209.eq_2] at h ⊢
    refine ⟨fun c => k w ?_ (h.1 c), fun c => ?_⟩
    · have ce : e = -1 := ti_inj (by rw [c, m1_i])
      rw [ce] at p3
      exact ⟨o, eL, eP, pre, p1, p2, p3⟩
    have H := h.2 c
    rcases p3 with p3 | ⟨q0, qN, qw, qn, ql, qp⟩
    · exact absurd (show e.toInt = -1 by rw [p3.1]; exact m1_i) c
    have eN : e.toInt.toNat < N := by omega
    have l1 := (lx.2.2.2 e.toInt.toNat eN qn).1
    have lp1' := (lx.2.2.2 e.toInt.toNat eN qn).2.1
    have lpN := lx_le lx eN qn
    have hl0 := hl _ eN
    have H1 := H.1
    have sn := ti_add2 (Eq.refl (w.1 127 39).toInt) i_1 (by omega) (by omega)
    have f2 : (e / (2 : Int32)).toInt = e.toInt / 2 := nb_div q0 (by decide) (by decide)
    have s1 : 1 ≤ szM z e.toInt.toNat ∧ szM z e.toInt.toNat ≤ 200 := hz.2.2.2.2.2.2 (e.toInt.toNat / 2) (by omega)
    have es : (w.1 169 ((e / (2 : Int32)).toInt.toNat)).toInt = szM z e.toInt.toNat := by
      unfold szM
      rw [o.2 169 _ rfl, show (e / (2 : Int32)).toInt.toNat = e.toInt.toNat / 2 by omega]
    have eLe : (w.1 188 e.toInt.toNat).toInt = LL e.toInt.toNat := by
      rw [← eL]
      rfl
    have ed : ((w.1 188 e.toInt.toNat) - (w.1 169 ((e / (2 : Int32)).toInt.toNat))).toInt = LL e.toInt.toNat - szM z e.toInt.toNat := ti_sub2 eLe es (by omega) (by omega)
    have frE : frM z e.toInt.toNat := by
      rcases (lx.2.2.2 e.toInt.toNat eN qn).2.2 with ⟨b, _⟩ | ⟨g, _, ad, _⟩
      · exact b.2
      · exact ad.1
    have o2 : oM z (sI (sI w 191 ((w.1 127 39).toInt.toNat) e) 127 39 ((w.1 127 39) + (1 : Int32))) := oM_I (oM_I o rfl _) rfl _
    have r8 : LLw (sI (sI w 191 ((w.1 127 39).toInt.toNat) e) 127 39 ((w.1 127 39) + (1 : Int32))) = LL := by
      rw [← eL]
      funext j
      unfold LLw
      rw [sI_oth _ _ _ _ _ _ (by decide), sI_oth _ _ _ _ _ _ (by decide)]
    have r9 : LPw (sI (sI w 191 ((w.1 127 39).toInt.toNat) e) 127 39 ((w.1 127 39) + (1 : Int32))) = LP := by
      rw [← eP]
      funext j
      unfold LPw
      rw [sI_oth _ _ _ _ _ _ (by decide), sI_oth _ _ _ _ _ _ (by decide)]
    have r39 : ((sI (sI w 191 ((w.1 127 39).toInt.toNat) e) 127 39 ((w.1 127 39) + (1 : Int32))).1 127 39).toInt = ((pre ++ [e.toInt.toNat]).length : Nat) := by
      rw [sI_same, sn, p1]
      simp
    have r191 : ∀ i v, (pre ++ [e.toInt.toNat])[i]? = some v → (sI (sI w 191 ((w.1 127 39).toInt.toNat) e) 127 39 ((w.1 127 39) + (1 : Int32))).1 191 i = nI v := fun i v hv => by
      rw [sI_oth _ _ _ _ _ _ (by decide), sI_if]
      rw [app1] at hv
      by_cases c1 : i < pre.length
      · rw [if_pos c1] at hv
        rw [if_neg (by omega)]
        exact p2 i v hv
      · rw [if_neg c1] at hv
        by_cases c2 : i = pre.length
        · rw [if_pos c2] at hv
          rw [if_pos (by omega), ← Option.some.inj hv, nI_tn q0]
        · rw [if_neg c2] at hv
          cases hv
    have r192 : ∀ t, (sI (sI w 191 ((w.1 127 39).toInt.toNat) e) 127 39 ((w.1 127 39) + (1 : Int32))).1 192 t = w.1 192 t := fun t => by
      rw [sI_oth _ _ _ _ _ _ (by decide), sI_oth _ _ _ _ _ _ (by decide)]
    have n2 : ((2 : Int32) * ((sI (sI w 191 ((w.1 127 39).toInt.toNat) e) 127 39 ((w.1 127 39) + (1 : Int32))).1 127 11)).toInt = N := by
      rw [o2.2 127 11 rfl, nP]
      exact ti_mul2 (by decide) rfl (by omega) (by omega)
    have HH := H.2.2.2
    generalize (sI (sI w 191 ((w.1 127 39).toInt.toNat) e) 127 39 ((w.1 127 39) + (1 : Int32))) = w2 at *
    have ww2 : WnL z (pre ++ [e.toInt.toNat]) w2 := fun t ht => by
      rw [r192]
      exact qw t ht
    refine ⟨H.1, H.2.1, H.2.2.1, pt_257 hz o2 n2 n48 nP q0 qN (by rw [r9]; omega) (fun r hr g => ?_) _ _ _ HH (by decide) (by rw [i_0]; omega) (Or.inl ⟨rfl, fun g' hg' => by rw [i_0] at hg'; omega⟩)⟩
    unfold Cnd at hr
    rw [r8, r9, ed] at hr
    rcases hr with ⟨er, no⟩ | ⟨r0, rN, due, cd, first⟩
    · refine ⟨fun z2 => ?_, fun z2 => absurd (show r.toInt = -1 by rw [er]; exact m1_i) z2⟩
      have eq : LL e.toInt.toNat = szM z e.toInt.toNat := by
        rcases (lx.2.2.2 e.toInt.toNat eN qn).2.2 with ⟨_, b, _⟩ | ⟨g2, hg2, ad2, gn2, gl2, gp2⟩
        · exact b
        · have l2 := (lx.2.2.2 g2 hg2 gn2).1
          rcases no with no | no
          · omega
          · exact absurd ⟨by omega, by omega, ad2.2⟩ (no g2 hg2)
      have lp1 : LP e.toInt.toNat = 1 := by
        rcases (lx.2.2.2 e.toInt.toNat eN qn).2.2 with ⟨_, _, b⟩ | ⟨g2, hg2, ad2, gn2, gl2, gp2⟩
        · exact b
        · have l2 := (lx.2.2.2 g2 hg2 gn2).1
          omega
      obtain ⟨m', pm⟩ := qp [e.toInt.toNat] 1 (Or.inl ⟨eq, rfl⟩)
      have lna : (pre ++ [e.toInt.toNat]).length = pre.length + 1 := by simp
      exact ih _ _ (g.1 z2) ⟨o2, r8, r9, pre ++ [e.toInt.toNat], r39, r191, Or.inl ⟨er, ww2, by omega, m', pm, by omega⟩⟩
    · have g2 := g.2 (by omega)
      refine ⟨fun z2 => by omega, fun z2 => ⟨g2.1, ?_⟩⟩
      have x1 := xo_i q0
      have exn : (e ^^^ (1 : Int32)).toInt.toNat = xo e.toInt.toNat := by omega
      have xl : xo e.toInt.toNat < N := by
        have := xo_lt (e := e.toInt.toNat) (N := (pM z).toNat) (by omega)
        omega
      have tmw : tM w2 = tM z := by
        unfold tM
        rw [o2.2 127 4 rfl]
      have atw : atM w2 = atM z := by
        funext j
        unfold atM
        rw [o2.2 170 j rfl]
      obtain ⟨c1, c2, n, al⟩ := cd
      refine nd_x g2.2 (by omega) (by omega) (by rw [o2.2 127 26 rfl]; exact hz.2.2.1) (fun y hy => by rw [o2.2 163 y rfl]; exact hz.2.2.2.1 y (by rw [← tmw]; exact hy)) (by rw [atw, tmw, exn]; exact hz.2.2.2.2.1 _ (by omega)) (HP_c o2 hz.2.2.2.2.2.1) (fun r5 al5 rn5 R => ⟨R.1, ?_⟩) (fun no R => ?_)
      · rw [exn, AL_c o2] at al5
        have e170 : (w2.1 170 r.toInt.toNat).toInt = atM z r.toInt.toNat := by
          rw [← atw]
          rfl
        have rn : ¬ LL r.toInt.toNat = -1 := by omega
        have R2 := R.2
        rw [e170] at R2 ⊢
        have t0 : 0 ≤ atM z r.toInt.toNat := by
          have := al5.2.1
          have := al5.1
          omega
        refine ih _ _ R2 ⟨oM_I o2 rfl _, ?_, ?_, pre ++ [e.toInt.toNat], ?_, fun i v hv => ?_, Or.inr ⟨r0, rN, wn_s ww2 al5 rfl t0, rn, ?_, fun rest m2 pr => ?_⟩⟩
        · rw [← r8]
          funext j
          unfold LLw
          rw [sI_oth _ _ _ _ _ _ (by decide)]
        · rw [← r9]
          funext j
          unfold LPw
          rw [sI_oth _ _ _ _ _ _ (by decide)]
        · rw [sI_oth _ _ _ _ _ _ (by decide)]
          exact r39
        · rw [sI_oth _ _ _ _ _ _ (by decide)]
          exact r191 i v hv
        · have : (pre ++ [e.toInt.toNat]).length = pre.length + 1 := by simp
          omega
        · obtain ⟨m', pm⟩ := qp (e.toInt.toNat :: rest) (m2 + 1) (Or.inr ⟨by omega, r.toInt.toNat, rest, by omega, c1, c2, ⟨frE, n, al⟩, fun g' hg' l1 l2 ad => first g' hg' ⟨l1, l2, ad.2⟩, rfl, pr⟩)
          refine ⟨m', ?_⟩
          rw [List.append_assoc]
          exact pm
      · rw [exn] at no
        exact absurd ((AL_c o2 _ _ _).mpr al) (no n)
