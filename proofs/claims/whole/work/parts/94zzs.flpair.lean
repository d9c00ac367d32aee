/-! fill: the pair of calls -/
theorem m_186 {w : MW} (h : BND w) (j : Nat) : 0 ≤ (w.1 186 j).toInt ∧ (w.1 186 j).toInt < 48 := by
  have q := bd_186 h j
  omega
/-- what the reference needs of its world, when the class has been called -/
theorem mfl_y {u u1 : MW} {a b : Int32} {c : Int64} {Q Q' : Int32 → MW → Prop} (hB : BND u) (hr : HRq u) (hB1 : BND u1) (F1 : FR l_Bh_fill u u1) (h : p_Mo_fill u1 a b c Q) (k0 : ¬ PreF u a b c → Q 0 u1 → Q' 0 u1) (k1 : PreF u a b c → ∀ (wl : MW), LkP u u1 (fun k x => (k : Int) < (u1.1 127 26).toInt ∧ wnt u1 k x) wl → ∀ (r : Int32) (w14 : MW), SfM (sI wl 194 a.toInt.toNat b) r w14 → (r = 0 → Q 0 w14 → Q' 0 w14) ∧ (r = 1 → ∀ w', w14.1 = (sI wl 194 a.toInt.toNat b).1 → (∀ j, w'.1 173 j = if j = a.toInt.toNat then b else u1.1 173 j) → (∀ j, w'.1 174 j = if 6 * a.toInt.toNat ≤ j ∧ j < 6 * a.toInt.toNat + 6 then -1 else u1.1 174 j) → (∀ j, w'.1 166 j = if j = a.toInt.toNat then b else u1.1 166 j) → (∀ j, w'.1 165 j = if j = a.toInt.toNat then u1.1 165 a.toInt.toNat + Int64.toInt32 c else u1.1 165 j) → (∀ c j, ¬ c = 173 → ¬ c = 174 → ¬ c = 166 → ¬ c = 165 → ¬ c = 194 → w'.1 c j = u1.1 c j) → Q 1 w' → Q' 1 w')) : p_Mo_fill u1 a b c Q' := by
  have ag : Ag lRf u u1 := ag_f F1 rfl
  obtain ⟨k1', k2', k3'⟩ := rf_k ag hr.2.2.1 hr.2.1.2.2.2
  have m1 : tM u1 = tM u := by
    unfold tM
    rw [ag 127 4 rfl]
  have m2 : pM u1 = pM u := by
    unfold pM
    rw [ag 127 11 rfl]
  have m4 : tkM u1 = tkM u := by
    funext y
    unfold tkM
    rw [ag 163 _ rfl]
  have n := w_n hr.2.2.2.1
  refine mfl_x (v := u) h hB1 hB k1' k2' k3' (fun t ht tk => ?_) (fun p hp => ?_) (fun k hk => ?_) (fun j => m_186 hB1 j) (ag 164 _ rfl) (ag 165 _ rfl) m1.symm m4.symm k0 k1
  · rw [m1] at ht
    rw [m4] at tk
    have q := hr.2.2.1.2.2.1 t ht tk
    rw [ag 165 t rfl, ag 164 t rfl]
    exact ⟨q.2.2.1, q.2.2.2.1⟩
  · rw [m2] at hp
    rw [ag 169 p rfl]
    exact (hr.2.2.1.2.2.2.1 p hp).2.1.2
  · rw [ag 127 26 rfl] at hk
    have q := hr.2.2.2.1.2.2.2 k (by omega)
    rw [ag 183 k rfl, ag 185 k rfl, ag 182 k rfl]
    have q2 := q.2.2.1
    have q3 := q.2.1
    exact ⟨⟨by omega, q3.2⟩, q.2.2.2.2.2.1.1⟩
def lfz : Pl := [(42, none), (44, none), (194, none), (127, some 45), (127, some 46), (127, some 47), (127, some 48)]
theorem fl_pair {u : MW} {a b : Int32} {c : Int64} (hc : CI u) (hM : MdJ u) (hr : HRq u) (md1 : ∀ u1, CI u1 → FR l_Bh_fill u u1 → MdJ u1) : p_Bh_fill u a b c (fun r u1 => (CI u1 ∧ FR l_Bh_fill u u1) ∧ p_Mo_fill u1 a b c (fun r' u2 => (MdJ u2 ∧ FR l_Mo_fill u1 u2) ∧ r = r' ∧ HRq u2)) := by
  have hB := hc.1
  have h0 : p_Bh_fill u a b c (fun r u1 => CI u1 ∧ FR l_Bh_fill u u1) := ci_fill hc (fun r w' h F => ⟨h, F⟩)
  have h1 : ∀ u1, CI u1 → FR l_Bh_fill u u1 → p_Mo_fill u1 a b c (fun r' u2 => MdJ u2 ∧ FR l_Mo_fill u1 u2) := fun u1 h F => mf_fill (md1 u1 h F) (fun r w' h F => ⟨h, F⟩)
  have T := hb_T hB
  have P := hb_P hB
  refine cfl_x h0 hB hr (fun np g => ⟨g, ?_⟩) (fun pre r w15 sf o15 => ⟨fun er g => ⟨g, ?_⟩, fun er w' ar g => ⟨g, ?_⟩⟩)
  · exact mfl_y hB hr g.1.1 g.2 (h1 _ g.1 g.2) (fun _ g2 => ⟨g2, rfl, hr⟩) (fun pre => absurd pre np)
  · have d : ∀ k j, ¬ k = 42 → ¬ k = 44 → (sI w15 17 a.toInt.toNat (u.1 17 a.toInt.toNat)).1 k j = u.1 k j := fun k j h2 h3 => by
      by_cases q : k = 17
      · rw [q, sI_if]
        by_cases q2 : j = a.toInt.toNat
        · rw [if_pos q2, q2]
        · rw [if_neg q2, o15.1 17 j (by decide) (by decide), sI_if, if_neg q2]
      · rw [sI_oth _ _ _ _ _ _ q, o15.1 k j h2 h3, sI_oth _ _ _ _ _ _ q]
    refine mfl_y hB hr g.1.1 g.2 (h1 _ g.1 g.2) (fun np => absurd pre np) (fun _ wl lk r' w14 sm => ⟨fun er' g2 => ⟨g2, rfl, ?_⟩, fun er' w' => ?_⟩)
    · rcases fl_two hB hr pre g.2 (fun j _ => d 17 j (by decide) (by decide)) lk sf sm with q | ⟨_, _, f, x, y, z, q⟩
      · have := q.1
        rw [er] at this
        exact absurd (congrArg Int32.toInt this) (by decide)
      · have rd : ∀ k j, hit lfz k j = false → w14.1 k j = u.1 k j := fun k j hk => by
          have n1 : ¬ k = 194 := fun e => by rw [e] at hk; cases hk
          have n2 : ¬ k = 42 := fun e => by rw [e] at hk; cases hk
          have n3 : ¬ k = 44 := fun e => by rw [e] at hk; cases hk
          have n4 : ∀ i : Nat, (i = 45 ∨ i = 46 ∨ i = 47 ∨ i = 48) → ¬ (k = 127 ∧ j = i) := fun i hi e => by
            rw [e.1, e.2] at hk
            rcases hi with hi | hi | hi | hi <;> (rw [hi] at hk; cases hk)
          rw [q]
          unfold dgW
          rw [sI_at, if_neg (n4 48 (by omega)), sI_at, if_neg (n4 47 (by omega)), sI_at, if_neg (n4 46 (by omega)), sI_at, if_neg (n4 45 (by omega)), sI_oth _ _ _ _ _ _ n1, lk.1.2 k j n1]
          exact d k j n2 n3
        have ag : ∀ m : Pl, off lfz m = true → Ag m u w14 := fun m hm k j hk => rd k j (off_hit hm hk)
        exact HRq_ag (ag lPL rfl) (ag lTq rfl) (ag lSk rfl) (ag lWy rfl) (fun j => by rw [(g2.2 20 j rfl).2.1, (g.2 20 j rfl).2.1]) hr
    · exfalso
      rcases fl_two hB hr pre g.2 (fun j _ => d 17 j (by decide) (by decide)) lk sf sm with q | ⟨_, q, _⟩
      · have := q.1
        rw [er] at this
        exact absurd (congrArg Int32.toInt this) (by decide)
      · rw [er'] at q
        exact absurd (congrArg Int32.toInt q) (by decide)
  · have d : ∀ k j, ¬ k = 42 → ¬ k = 44 → (sI w15 17 a.toInt.toNat (u.1 17 a.toInt.toNat)).1 k j = u.1 k j := fun k j h2 h3 => by
      by_cases q : k = 17
      · rw [q, sI_if]
        by_cases q2 : j = a.toInt.toNat
        · rw [if_pos q2, q2]
        · rw [if_neg q2, o15.1 17 j (by decide) (by decide), sI_if, if_neg q2]
      · rw [sI_oth _ _ _ _ _ _ q, o15.1 k j h2 h3, sI_oth _ _ _ _ _ _ q]
    obtain ⟨ar17, ar18, ar23, aro, _⟩ := ar
    have w17 : ∀ j, w'.1 17 j = if j = a.toInt.toNat then b else u.1 17 j := fun j => by
      rw [ar17 j, d 17 j (by decide) (by decide)]
    have w18 : ∀ j, w'.1 18 j = if j = a.toInt.toNat then u.1 18 a.toInt.toNat + Int64.toInt32 c else u.1 18 j := fun j => by
      rw [ar18 j, d 18 _ (by decide) (by decide), d 18 j (by decide) (by decide)]
    have w23 : ∀ j, w'.1 23 j = if (u.1 17 a.toInt.toNat).toInt = 0 ∧ 6 * a.toInt.toNat + 1 ≤ j ∧ j ≤ 6 * a.toInt.toNat + 5 then -1 else u.1 23 j := fun j => by
      rw [ar23 j, d 17 _ (by decide) (by decide), d 23 j (by decide) (by decide)]
    refine mfl_y hB hr g.1.1 g.2 (h1 _ g.1 g.2) (fun np => absurd pre np) (fun _ wl lk r' w14 sm => ⟨fun er' g2 => ?_, fun er' u2 e14 x173 x174 x166 x165 xo2 g2 => ⟨g2, rfl, ?_⟩⟩)
    · exfalso
      rcases fl_two hB hr pre g.2 (fun j nj => by rw [w17 j, if_neg nj]) lk sf sm with q | ⟨q, _⟩
      · have := q.2.1
        rw [er'] at this
        exact absurd (congrArg Int32.toInt this) (by decide)
      · rw [er] at q
        exact absurd (congrArg Int32.toInt q) (by decide)
    · have rd : ∀ k j, hit ([(17, none), (18, none), (23, none), (165, none), (166, none), (173, none), (174, none), (42, none), (44, none), (194, none)] : Pl) k j = false → u2.1 k j = u.1 k j := fun k j hk => by
        have nk : ∀ i : Nat, hit ([(17, none), (18, none), (23, none), (165, none), (166, none), (173, none), (174, none), (42, none), (44, none), (194, none)] : Pl) i j = true → ¬ k = i := fun i hi e => by
          rw [e, hi] at hk
          cases hk
        rw [xo2 k j (nk 173 rfl) (nk 174 rfl) (nk 166 rfl) (nk 165 rfl) (nk 194 rfl), aro k j (nk 17 rfl) (nk 18 rfl) (nk 23 rfl)]
        exact d k j (nk 42 rfl) (nk 44 rfl)
      have ag : ∀ m : Pl, off [(17, none), (18, none), (23, none), (165, none), (166, none), (173, none), (174, none), (42, none), (44, none), (194, none)] m = true → Ag m u u2 := fun m hm k j hk => rd k j (off_hit hm hk)
      have y17 : ∀ j, u2.1 17 j = if j = a.toInt.toNat then b else u.1 17 j := fun j => by
        rw [xo2 17 j (by decide) (by decide) (by decide) (by decide) (by decide)]
        exact w17 j
      have y18 : ∀ j, u2.1 18 j = if j = a.toInt.toNat then u.1 18 a.toInt.toNat + Int64.toInt32 c else u.1 18 j := fun j => by
        rw [xo2 18 j (by decide) (by decide) (by decide) (by decide) (by decide)]
        exact w18 j
      have y23 : ∀ j, u2.1 23 j = if (u.1 17 a.toInt.toNat).toInt = 0 ∧ 6 * a.toInt.toNat + 1 ≤ j ∧ j ≤ 6 * a.toInt.toNat + 5 then -1 else u.1 23 j := fun j => by
        rw [xo2 23 j (by decide) (by decide) (by decide) (by decide) (by decide)]
        exact w23 j
      have c165 : ∀ j, w'.1 165 j = u.1 165 j := fun j => (g.2 165 j rfl).1
      have c166 : ∀ j, w'.1 166 j = u.1 166 j := fun j => (g.2 166 j rfl).1
      have c173 : ∀ j, w'.1 173 j = u.1 173 j := fun j => (g.2 173 j rfl).1
      have c174 : ∀ j, w'.1 174 j = u.1 174 j := fun j => (g.2 174 j rfl).1
      have tm := tM_ag (ag lPL rfl)
      obtain ⟨⟨a0, a1, atk⟩, ⟨b0, b1⟩, ⟨cc0, cc1⟩, room, _⟩ := pre
      have an : ((a.toInt.toNat : Nat) : Int) = a.toInt := by omega
      have S := hr.2.2.1
      obtain ⟨s1, s2, s3, s4, s5⟩ := S
      have sa := s3 a.toInt.toNat (by omega) (by rw [an]; exact atk)
      have b164 := bd_164 (md1 _ g.1 g.2).1.1 a.toInt.toNat
      have q164 : w'.1 164 a.toInt.toNat = u.1 164 a.toInt.toNat := (g.2 164 _ rfl).1
      rw [q164] at b164
      have e32 := l64_32 (x := c) (by omega) (by omega)
      have n165 := ti_add2 (Eq.refl (u.1 165 a.toInt.toNat).toInt) e32 (by omega) (by omega)
      refine ⟨HPl_ag (ag _ rfl) hr.1, HTb_ag (ag _ rfl) hr.2.1, ⟨?_, ?_, ?_, ?_, ?_⟩, HWy_ag (ag _ rfl) (ag _ rfl) (fun p => by rw [y17, if_neg (by omega)]) hr.2.2.2⟩
      · unfold SKl
        rw [tm.1, tm.2.1, tm.2.2.2]
        refine ⟨fun t ht => ?_, fun p hp => ?_⟩
        · rw [y17, x165, x166, c165, c165, c166]
          by_cases q : t = a.toInt.toNat
          · rw [if_pos q, if_pos q, if_pos q]
            refine ⟨fun _ => ?_, fun nt => absurd ?_ nt⟩
            · rw [if_pos (by omega)]
            · rw [q, an]
              exact atk
          · rw [if_neg q, if_neg q, if_neg q]
            exact s1.1 t ht
        · rw [y17, if_neg (by omega), rd 169 p rfl]
          rcases s1.2 p hp with ⟨z1, z2⟩ | ⟨z1, z2, k, hk, z3⟩
          · exact Or.inl ⟨z1, fun k hk => by rw [rd 172 _ rfl]; exact z2 k hk⟩
          · exact Or.inr ⟨z1, fun k hk => by rw [rd 172 _ rfl]; exact z2 k hk, k, hk, by rw [rd 172 _ rfl]; exact z3⟩
      · unfold SKv
        rw [tm.1, tm.2.1, rd 7 1 rfl, rd 127 78 rfl]
        refine ⟨fun x hx => ?_, fun x l hx h2 h3 => ?_, s2.2.2⟩
        · rw [y17, x173, c173, rd 19 x rfl]
          by_cases q : x = a.toInt.toNat
          · rw [if_pos q, if_pos q]
            exact ⟨fun z => by omega, fun _ => rfl⟩
          · rw [if_neg q, if_neg q]
            exact s2.1 x hx
        · rw [y23, x174, c174]
          by_cases q : x = a.toInt.toNat
          · rw [if_pos (show 6 * a.toInt.toNat ≤ 6 * x + l ∧ 6 * x + l < 6 * a.toInt.toNat + 6 by omega)]
            by_cases q2 : (u.1 17 a.toInt.toNat).toInt = 0
            · rw [if_pos ⟨q2, by omega, by omega⟩]
            · rw [if_neg (fun z => q2 z.1)]
              exact s5 x l hx h2 h3 (by rw [q]; exact q2)
          · rw [if_neg (show ¬ (6 * a.toInt.toNat ≤ 6 * x + l ∧ 6 * x + l < 6 * a.toInt.toNat + 6) by omega), if_neg (fun z => by have := z.2; omega)]
            exact s2.2.1 x l hx h2 h3
      · unfold SKt
        rw [tm.1, tm.2.2.2]
        intro t ht tk
        rw [y18, x165, x166, c165, c165, c166, rd 10 t rfl, rd 164 t rfl]
        by_cases q : t = a.toInt.toNat
        · rw [if_pos q, if_pos q, if_pos q, q, sa.1, n165]
          exact ⟨rfl, sa.2.1, by omega, by omega, fun _ => ⟨b0, b1⟩⟩
        · rw [if_neg q, if_neg q, if_neg q]
          exact s3 t ht tk
      · unfold SKp
        rw [tm.1, tm.2.1]
        intro p hp
        have q := s4 p hp
        have h20 : ∀ j, u2.2.1 20 j = u.2.1 20 j := fun j => by rw [(g2.2 20 j rfl).2.1, (g.2 20 j rfl).2.1]
        have ec : ∀ i, cel u2 p i = cel u p i := fun i => by
          unfold cel
          rw [h20]
        have ef : (fun k => decide (¬ u2.1 172 (200 * p + k) = 0)) = fun k => decide (¬ u.1 172 (200 * p + k) = 0) := by
          funext k
          rw [rd 172 _ rfl]
        rw [rd 12 p rfl, rd 169 p rfl, rd 21 p rfl, y18, if_neg (by omega), ef]
        refine ⟨q.1, q.2.1, q.2.2.1, fun k hk => ?_, q.2.2.2.2⟩
        rw [ec, rd 172 _ rfl]
        exact q.2.2.2.1 k hk
      · rw [tm.1, tm.2.1]
        intro x l hx h2 h3 nx
        rw [y17] at nx
        rw [y23]
        by_cases q : x = a.toInt.toNat
        · by_cases q2 : (u.1 17 a.toInt.toNat).toInt = 0
          · rw [if_pos ⟨q2, by omega, by omega⟩]
          · rw [if_neg (fun z => q2 z.1)]
            exact s5 x l hx h2 h3 (by rw [q]; exact q2)
        · rw [if_neg q] at nx
          rw [if_neg (fun z => by have := z.2; omega)]
          exact s5 x l hx h2 h3 nx
