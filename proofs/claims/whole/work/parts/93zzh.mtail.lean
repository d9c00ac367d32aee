/-! the reference reads the end of a row -/
def RwP (w : MW) (g r N : Nat) (as c : List Int) (v : Int) : Prop := (w.1 155 (40 * g + r)).toInt = (as.length : Int) ∧ (∀ (k : Nat) (a : Int), as[k]? = some a → (w.1 156 (8 * (40 * g + r) + k)).toInt = a) ∧ as.length ≤ 8 ∧ (∃ k, TRe w (3000 * (g : Int)) k (w.1 154 (40 * g + r)).toInt c) ∧ (w.1 154 (40 * g + r)).toInt < 3000 * (g : Int) + (N : Int) ∧ (w.1 157 (40 * g + r)).toInt = v
def RwM (w : MW) (g r N : Nat) (x : Rw) : Prop := RwP w g r N x.1 x.2.1 x.2.2.1 ∧ (w.1 158 (40 * g + r)).toInt = (if x.2.2.2 = true then 1 else 0)
/-- nodes from n0 to n1 and rows from r0 to r1 (of both halves' arrays) are the same -/
def KR (n0 n1 r0 r1 : Int) (w w' : MW) : Prop := (∀ p j : Nat, (p = 151 ∨ p = 152 ∨ p = 153) → n0 ≤ (j : Int) → (j : Int) < n1 → w'.1 p j = w.1 p j) ∧ (∀ p j : Nat, (p = 154 ∨ p = 155 ∨ p = 157 ∨ p = 158) → r0 ≤ (j : Int) → (j : Int) < r1 → w'.1 p j = w.1 p j) ∧ (∀ j : Nat, 8 * r0 ≤ (j : Int) → (j : Int) < 8 * r1 → w'.1 156 j = w.1 156 j)
theorem KR.tr {n0 n1 r0 r1 : Int} {w w' w2 : MW} (h : KR n0 n1 r0 r1 w w') (h2 : KR n0 n1 r0 r1 w' w2) : KR n0 n1 r0 r1 w w2 := ⟨fun p j hp a b => (h2.1 p j hp a b).trans (h.1 p j hp a b), fun p j hp a b => (h2.2.1 p j hp a b).trans (h.2.1 p j hp a b), fun j a b => (h2.2.2 j a b).trans (h.2.2 j a b)⟩
theorem KR.mono {n0 n1 r0 r1 m0 m1 s0 s1 : Int} {w w' : MW} (h : KR n0 n1 r0 r1 w w') (a : n0 ≤ m0) (b : m1 ≤ n1) (c : r0 ≤ s0) (d : s1 ≤ r1) : KR m0 m1 s0 s1 w w' := ⟨fun p j hp x y => h.1 p j hp (by omega) (by omega), fun p j hp x y => h.2.1 p j hp (by omega) (by omega), fun j x y => h.2.2 j (by omega) (by omega)⟩
def lka : Pl := [(151, none), (152, none), (153, none), (154, none), (155, none), (156, none), (157, none), (158, none)]
theorem KR.fr {l : Pl} {n0 n1 r0 r1 : Int} {w w' : MW} (hF : FR l w w') (ho : off l lka = true) : KR n0 n1 r0 r1 w w' := by
  refine ⟨fun p j hp _ _ => ?_, fun p j hp _ _ => ?_, fun j _ _ => (hF 156 j (off_hit ho rfl)).1⟩
  · rcases hp with rfl | rfl | rfl
    · exact (hF 151 j (off_hit ho rfl)).1
    · exact (hF 152 j (off_hit ho rfl)).1
    · exact (hF 153 j (off_hit ho rfl)).1
  · rcases hp with rfl | rfl | rfl | rfl
    · exact (hF 154 j (off_hit ho rfl)).1
    · exact (hF 155 j (off_hit ho rfl)).1
    · exact (hF 157 j (off_hit ho rfl)).1
    · exact (hF 158 j (off_hit ho rfl)).1
theorem trr {w w' : MW} {g N : Nat} {r0 r1 : Int} (hK : KR (3000 * (g : Int)) (3000 * (g : Int) + (N : Int)) r0 r1 w w') {x : Int} {l : List Int} (h : ∃ k, TRe w (3000 * (g : Int)) k x l) (hx : x < 3000 * (g : Int) + (N : Int)) : ∃ k, TRe w' (3000 * (g : Int)) k x l := by
  obtain ⟨k, hk⟩ := h
  exact ⟨k, tr_fr _ _ _ hk (fun p j hp a b => hK.1 p j hp a (by omega)) (by omega)⟩
theorem rwm_k {w w' : MW} {g r N N' : Nat} {x : Rw} {r0 r1 : Int} (h : RwM w g r N x) (hK : KR (3000 * (g : Int)) (3000 * (g : Int) + (N : Int)) r0 r1 w w') (h0 : r0 ≤ 40 * (g : Int) + (r : Int)) (h1 : 40 * (g : Int) + (r : Int) < r1) (hN : N ≤ N') : RwM w' g r N' x := by
  obtain ⟨⟨a1, a2, a3, a4, a5, a6⟩, b⟩ := h
  have e4 := hK.2.1 154 (40 * g + r) (Or.inl rfl) (by omega) (by omega)
  have e5 := hK.2.1 155 (40 * g + r) (Or.inr (Or.inl rfl)) (by omega) (by omega)
  have e7 := hK.2.1 157 (40 * g + r) (Or.inr (Or.inr (Or.inl rfl))) (by omega) (by omega)
  have e8 := hK.2.1 158 (40 * g + r) (Or.inr (Or.inr (Or.inr rfl))) (by omega) (by omega)
  refine ⟨⟨by rw [e5]; exact a1, fun k a hk => ?_, a3, by rw [e4]; exact trr hK a4 a5, by rw [e4]; omega, by rw [e7]; exact a6⟩, by rw [e8]; exact b⟩
  have lk : k < x.1.length := by
    by_cases q : k < x.1.length
    · exact q
    · rw [List.getElem?_eq_none (by omega)] at hk
      exact absurd hk (by intro z; cases z)
  rw [hK.2.2 _ (by omega) (by omega)]
  exact a2 k a hk
theorem rwp_k {w w' : MW} {g r N : Nat} {as c : List Int} {v : Int} {l : Pl} (h : RwP w g r N as c v) (hF : FR l w w') (ho : off l [(151, none), (152, none), (153, none), (154, none), (155, none), (156, none), (157, none)] = true) : RwP w' g r N as c v := by
  obtain ⟨a1, a2, a3, a4, a5, a6⟩ := h
  have K : KR (3000 * (g : Int)) (3000 * (g : Int) + (N : Int)) 0 0 w w' := ⟨fun p j hp _ _ => by
    rcases hp with rfl | rfl | rfl
    · exact (hF 151 j (off_hit ho rfl)).1
    · exact (hF 152 j (off_hit ho rfl)).1
    · exact (hF 153 j (off_hit ho rfl)).1, fun p j hp x y => absurd (Int.lt_of_le_of_lt x y) (by decide), fun j x y => absurd (show (0 : Int) < 0 by omega) (by decide)⟩
  have e4 := (hF 154 (40 * g + r) (off_hit ho rfl)).1
  exact ⟨by rw [(hF 155 _ (off_hit ho rfl)).1]; exact a1, fun k a hk => by rw [(hF 156 _ (off_hit ho rfl)).1]; exact a2 k a hk, a3, by rw [e4]; exact trr K a4 a5, by rw [e4]; exact a5, by rw [(hF 157 _ (off_hit ho rfl)).1]; exact a6⟩
/-- the rows rs are made, word j is next -/
def GN (w : MW) (f : Int → Int) (n : Int) (W : Nat) (H : Int) (g : Nat) (rs : List Rw) (N j : Nat) : Prop := MS w f n W j ∧ (w.1 147 12).toInt = H ∧ (w.1 147 11).toInt = (N : Int) ∧ (w.1 147 13).toInt = (rs.length : Int) ∧ ∀ (r : Nat) (x : Rw), rs[r]? = some x → RwM w g r N x
theorem rs_lt {rs : List Rw} {r : Nat} {x : Rw} (h : rs[r]? = some x) : r < rs.length := by
  by_cases q : r < rs.length
  · exact q
  · rw [List.getElem?_eq_none (by omega)] at h
    exact absurd h (by intro z; cases z)
theorem gn_fr {l : Pl} {w w' : MW} {f : Int → Int} {n : Int} {W : Nat} {H : Int} {g : Nat} {rs : List Rw} {N j j' : Nat} (h : GN w f n W H g rs N j) (hF : FR l w w') (ho : off l [(147, some 4), (148, none), (149, none), (150, none)] = true) (ho2 : off l [(147, some 11), (147, some 12), (147, some 13)] = true) (e : (w'.1 147 5).toInt = (j' : Int)) (hj : j' ≤ W) (hK : KR (3000 * (g : Int)) (3000 * (g : Int) + (N : Int)) (40 * (g : Int)) (40 * (g : Int) + (rs.length : Int)) w w') : GN w' f n W H g rs N j' :=
  ⟨ms_fr h.1 hF ho e hj, by rw [(hF 147 12 (off_hit ho2 rfl)).1]; exact h.2.1, by rw [(hF 147 11 (off_hit ho2 rfl)).1]; exact h.2.2.1, by rw [(hF 147 13 (off_hit ho2 rfl)).1]; exact h.2.2.2.1, fun r x hx => by have := rs_lt hx; exact rwm_k (h.2.2.2.2 r x hx) hK (by omega) (by omega) (Nat.le_refl _)⟩
/-- nothing but row R of 154 .. 158 is written -/
def KQ (R : Nat) (w w' : MW) : Prop := ∀ p j : Nat, (p = 154 ∨ p = 155 ∨ p = 157 ∨ p = 158) → ¬ j = R → w'.1 p j = w.1 p j
def ltz : Pl := [(147, some 5), (147, some 13), (154, none), (155, none), (157, none), (158, none), (159, none)]
theorem kq_kr {R : Nat} {w w' : MW} {n0 n1 r0 r1 : Int} (h : KQ R w w') (hF : FR ltz w w') (hr : (R : Int) < r0 ∨ r1 ≤ (R : Int)) : KR n0 n1 r0 r1 w w' := by
  refine ⟨fun p j hp _ _ => ?_, fun p j hp a b => h p j hp (by omega), fun j _ _ => (hF 156 j rfl).1⟩
  rcases hp with rfl | rfl | rfl
  · exact (hF 151 j rfl).1
  · exact (hF 152 j rfl).1
  · exact (hF 153 j rfl).1
theorem KQ.tr {R : Nat} {w w' w2 : MW} (h : KQ R w w') (h2 : KQ R w' w2) : KQ R w w2 := fun p j hp hj => (h2 p j hp hj).trans (h p j hp hj)
theorem kq_7 {R i : Nat} {w : MW} {v : Int32} : KQ R w (sI w 147 i v) := fun p j hp _ => sI_oth _ _ _ _ _ _ (by omega)
theorem kq_R {R k : Nat} {w : MW} {v : Int32} : KQ R w (sI w k R v) := fun p j hp hj => by
  by_cases q : p = k
  · rw [q]
    exact sI_ne _ _ _ _ _ hj
  · exact sI_oth _ _ _ _ _ _ q
/-- what the end of a row leaves -/
def RE (w' : MW) (f : Int → Int) (n : Int) (W : Nat) (H : Int) (g : Nat) (rs : List Rw) (N : Nat) (q : Bool × Rw × Nat) (b : Int32) : Prop := (q.1 = true → b.toInt = 1 ∧ GN w' f n W H g (rs ++ [q.2.1]) N q.2.2) ∧ (q.1 = false → b.toInt = 0 ∧ (w'.1 147 5).toInt = (q.2.2 : Int) ∧ q.2.2 ≤ W)
theorem t322 {w : MW} {a b : Int32} {f : Int → Int} {n : Int} {W : Nat} {H : Int} {g : Nat} {rs : List Rw} {N j : Nat} {x : Rw} {Q : Int32 → MW → Prop} (hT : TXW f n W) (h : GN (sI w 147 5 (b + a)) f n W H g rs N j) (hx : RwM (sI w 147 5 (b + a)) g rs.length N x) (L4 : rs.length < 40) (hQ : ∀ b' w', FR ltz (sI w 147 5 (b + a)) w' → KQ (40 * g + rs.length) (sI w 147 5 (b + a)) w' → RE w' f n W H g rs N (if wq f n j (ltr 15 1) = true then (true, x, j + 1) else rwF j) b' → Q b' w') : q_Mr_readRow_322 a b w Q := by
  refine Eq.mpr (q_Mr_readRow_322.eq_1 _ _ _ _) ?_
  generalize (sI w 147 5 (b + a)) = w1 at *
  refine mone hT h.1 (A := 59) (by decide) (fun q => ⟨fun _ => ?_, fun z => absurd i1n z⟩) (fun q => ⟨fun z => absurd i_0 z, fun _ => ?_⟩)
  · have wd := (wq_1.mp q).1
    have iW := lt_W hT (show 0 < wnd f n j - wat f n j by omega)
    have W4 := h.1.2.1.2.1
    rw [ltw_15, if_pos q] at hQ
    have s5 := ti_add2 h.1.2.2.1 i_1 (by omega) (by omega)
    have s13 := ti_add2 h.2.2.2.1 i_1 (by omega) (by omega)
    have F1 : FR ltz w1 (sI (sI w1 147 5 ((w1.1 147 5) + (1 : Int32))) 147 13 ((w1.1 147 13) + (1 : Int32))) := FR.I (FR.I (FR.refl _ w1) rfl) rfl
    have F2 : FR [(147, some 5), (147, some 13)] w1 (sI (sI w1 147 5 ((w1.1 147 5) + (1 : Int32))) 147 13 ((w1.1 147 13) + (1 : Int32))) := FR.I (FR.I (FR.refl _ w1) rfl) rfl
    have r5 : ((sI (sI w1 147 5 ((w1.1 147 5) + (1 : Int32))) 147 13 ((w1.1 147 13) + (1 : Int32))).1 147 5).toInt = ((j + 1 : Nat) : Int) := by
      rw [sI_ne _ _ _ _ _ (by decide), sI_same, s5]
      omega
    have r13 : ((sI (sI w1 147 5 ((w1.1 147 5) + (1 : Int32))) 147 13 ((w1.1 147 13) + (1 : Int32))).1 147 13).toInt = (((rs ++ [x]).length : Nat) : Int) := by
      rw [sI_same, s13, List.length_append]
      show _ = ((rs.length + 1 : Nat) : Int)
      omega
    have kq : KQ (40 * g + rs.length) w1 (sI (sI w1 147 5 ((w1.1 147 5) + (1 : Int32))) 147 13 ((w1.1 147 13) + (1 : Int32))) := kq_7.tr kq_7
    refine hQ 1 _ F1 kq ⟨fun _ => ⟨i_1, ?_⟩, fun z => absurd (show true = false from z) (by decide)⟩
    generalize (sI (sI w1 147 5 ((w1.1 147 5) + (1 : Int32))) 147 13 ((w1.1 147 13) + (1 : Int32))) = w2 at *
    have K : ∀ n0 n1 r0 r1 : Int, KR n0 n1 r0 r1 w1 w2 := fun n0 n1 r0 r1 => KR.fr F2 rfl
    refine ⟨ms_fr h.1 F2 rfl r5 (by show j + 1 ≤ W; omega), by rw [(F2 147 12 rfl).1]; exact h.2.1, by rw [(F2 147 11 rfl).1]; exact h.2.2.1, r13, fun r y hy => ?_⟩
    have hy : (rs ++ [x])[r]? = some y := hy
    by_cases z : r < rs.length
    · rw [List.getElem?_append_left z] at hy
      exact rwm_k (h.2.2.2.2 r y hy) (K _ _ _ (40 * (g : Int) + (r : Int) + 1)) (Int.le_refl _) (by omega) (Nat.le_refl _)
    · have z2 : r = rs.length := by
        have := rs_lt hy
        rw [List.length_append] at this
        have e1 : ([x] : List Rw).length = 1 := rfl
        omega
      rw [z2, List.getElem?_append_right (Nat.le_refl _), Nat.sub_self] at hy
      have ey : x = y := Option.some.inj hy
      rw [← ey, z2]
      exact rwm_k hx (K _ _ _ (40 * (g : Int) + (rs.length : Int) + 1)) (Int.le_refl _) (by omega) (Nat.le_refl _)
  · rw [ltw_15, if_neg (nt q)] at hQ
    exact hQ 0 w1 (FR.refl _ w1) (fun _ _ _ _ => rfl) ⟨fun z => absurd (show false = true from z) (by decide), fun _ => ⟨i_0, h.1.2.2.1, h.1.2.2.2⟩⟩
theorem t277 {w : MW} {y : Int32} {f : Int → Int} {n : Int} {W : Nat} {H : Int} {g : Nat} {rs : List Rw} {N j : Nat} {as c : List Int} {v : Int} {Q : Int32 → MW → Prop} (hT : TXW f n W) (hg : g ≤ 1) (h : GN w f n W H g rs N j) (hx : RwP w g rs.length N as c v) (L4 : rs.length < 40) (hy : y.toInt = ((40 * g + rs.length : Nat) : Int)) (hQ : ∀ b' w', FR ltz w w' → KQ (40 * g + rs.length) w w' → RE w' f n W H g rs N (rwT f n as c v j) b' → Q b' w') : q_Mr_readRow_277 y w Q := by
  have eR : y.toInt.toNat = 40 * g + rs.length := by rw [hy]; omega
  have bR : 0 ≤ y.toInt ∧ y.toInt < 80 := by rw [hy]; omega
  have W4 := h.1.2.1.2.1
  unfold rwT at hQ
  refine Eq.mpr (q_Mr_readRow_277.eq_1 _ _ _) (mis7 hT h.1 (A := 108) (B := 97) (C := 116) (D := 99) (X := 104) (Y := 101) (Z := 100) (by decide) (by decide) (by decide) (by decide) (by decide) (by decide) (by decide) (fun q => ⟨bR, bR, ?_⟩) (fun q => ⟨bR, bR, ?_⟩))
  · have wd := (wq_7.mp q).1
    have iW := lt_W hT (show 0 < wnd f n j - wat f n j by omega)
    rw [ltw_14, if_pos q] at hQ
    rw [eR, nar1z, sI_same]
    refine ⟨fun z => absurd z i1n, fun _ => ?_⟩
    have s5 := ti_add2 h.1.2.2.1 i_1 (by omega) (by omega)
    have F1 : FR ltz w (sI (sI w 158 (40 * g + rs.length) 1) 147 5 ((w.1 147 5) + (1 : Int32))) := FR.I (FR.I (FR.refl _ w) rfl) rfl
    have F2 : FR [(147, some 5), (158, none)] w (sI (sI w 158 (40 * g + rs.length) 1) 147 5 ((w.1 147 5) + (1 : Int32))) := FR.I (FR.I (FR.refl _ w) rfl) rfl
    have kq : KQ (40 * g + rs.length) w (sI (sI w 158 (40 * g + rs.length) 1) 147 5 ((w.1 147 5) + (1 : Int32))) := kq_R.tr kq_7
    have r5 : ((sI (sI w 158 (40 * g + rs.length) 1) 147 5 ((w.1 147 5) + (1 : Int32))).1 147 5).toInt = ((j + 1 : Nat) : Int) := by
      rw [sI_same, s5]
      omega
    have r8 : ((sI (sI w 158 (40 * g + rs.length) 1) 147 5 ((w.1 147 5) + (1 : Int32))).1 158 (40 * g + rs.length)).toInt = 1 := by
      rw [sI_oth _ _ _ _ _ _ (by decide), sI_same]
      exact i_1
    have Kq : KR (3000 * (g : Int)) (3000 * (g : Int) + (N : Int)) (40 * (g : Int)) (40 * (g : Int) + (rs.length : Int)) w (sI (sI w 158 (40 * g + rs.length) 1) 147 5 ((w.1 147 5) + (1 : Int32))) := kq_kr kq F1 (by omega)
    refine t322 (x := (as, c, v, true)) hT (gn_fr h F2 rfl rfl r5 (by omega) Kq) ⟨rwp_k hx F2 rfl, r8⟩ L4 (fun b' w' F' K' R' => hQ b' w' (F1.tr F' rfl) (kq.tr K') R')
  · rw [ltw_14, if_neg (nt q)] at hQ
    rw [eR, nar0z, sI_same]
    refine ⟨fun _ => ?_, fun z => absurd i_0 z⟩
    have W5 := h.1.2.2.2
    have s5 := tin h.1.2.2.1 i_0 (by omega) (by omega)
    have F1 : FR ltz w (sI (sI w 158 (40 * g + rs.length) 0) 147 5 ((w.1 147 5) + (0 : Int32))) := FR.I (FR.I (FR.refl _ w) rfl) rfl
    have F2 : FR [(147, some 5), (158, none)] w (sI (sI w 158 (40 * g + rs.length) 0) 147 5 ((w.1 147 5) + (0 : Int32))) := FR.I (FR.I (FR.refl _ w) rfl) rfl
    have kq : KQ (40 * g + rs.length) w (sI (sI w 158 (40 * g + rs.length) 0) 147 5 ((w.1 147 5) + (0 : Int32))) := kq_R.tr kq_7
    have r5 : ((sI (sI w 158 (40 * g + rs.length) 0) 147 5 ((w.1 147 5) + (0 : Int32))).1 147 5).toInt = (j : Int) := by
      rw [sI_same, s5]
    have r8 : ((sI (sI w 158 (40 * g + rs.length) 0) 147 5 ((w.1 147 5) + (0 : Int32))).1 158 (40 * g + rs.length)).toInt = 0 := by
      rw [sI_oth _ _ _ _ _ _ (by decide), sI_same]
      exact i_0
    have Kq : KR (3000 * (g : Int)) (3000 * (g : Int) + (N : Int)) (40 * (g : Int)) (40 * (g : Int) + (rs.length : Int)) w (sI (sI w 158 (40 * g + rs.length) 0) 147 5 ((w.1 147 5) + (0 : Int32))) := kq_kr kq F1 (by omega)
    refine t322 (x := (as, c, v, false)) hT (gn_fr h F2 rfl rfl r5 W5 Kq) ⟨rwp_k hx F2 rfl, r8⟩ L4 (fun b' w' F' K' R' => hQ b' w' (F1.tr F' rfl) (kq.tr K') R')
theorem b_3600 : ((3600 : Int32)).toInt = 3600 := by decide
/-- behind the condition -/
def MFr (RI : Int32) (w : MW) (Q : Int32 → MW → Prop) : Prop := p_Mr_is w 102 111 114 0 0 0 0 3 (fun r21 w21 => ((r21.toInt = 0 → (q_Mr_readRow_277 RI w21 Q)) ∧ (¬ (r21.toInt = 0) → (p_Mr_number (sI w21 147 5 ((w21.1 147 5) + (1 : Int32))) 0 3600 (fun r29 w29 => ((0 ≤ r29.toInt → ((0 ≤ RI.toInt ∧ RI.toInt < 80) ∧ (q_Mr_readRow_277 RI (sI (sI w29 157 (RI.toInt.toNat) r29) 147 5 ((w29.1 147 5) + (1 : Int32))) Q))) ∧ (¬ (0 ≤ r29.toInt) → (Q 0 w29))))))))
theorem tfor {w : MW} {y : Int32} {f : Int → Int} {n : Int} {W : Nat} {H : Int} {g : Nat} {rs : List Rw} {N j : Nat} {as c : List Int} {Q : Int32 → MW → Prop} (hT : TXW f n W) (hg : g ≤ 1) (h : GN w f n W H g rs N j) (hx : RwP w g rs.length N as c 0) (L4 : rs.length < 40) (hy : y.toInt = ((40 * g + rs.length : Nat) : Int)) (hQ : ∀ b' w', FR ltz w w' → KQ (40 * g + rs.length) w w' → RE w' f n W H g rs N (tlS f n as c j) b' → Q b' w') : MFr y w Q := by
  have eR : y.toInt.toNat = 40 * g + rs.length := by rw [hy]; omega
  have bR : 0 ≤ y.toInt ∧ y.toInt < 80 := by rw [hy]; omega
  have W4 := h.1.2.1.2.1
  unfold tlS at hQ
  refine mis3 hT h.1 (A := 102) (B := 111) (C := 114) (by decide) (by decide) (by decide) (fun q => ⟨fun z => absurd z i1n, fun _ => ?_⟩) (fun q => ⟨fun _ => ?_, fun z => absurd i_0 z⟩)
  · have wd := (wq_3.mp q).1
    have iW := lt_W hT (show 0 < wnd f n j - wat f n j by omega)
    rw [ltw_13, if_pos q] at hQ
    have s5 := ti_add2 h.1.2.2.1 i_1 (by omega) (by omega)
    have F1 : FR ltz w (sI w 147 5 ((w.1 147 5) + (1 : Int32))) := FR.I (FR.refl _ w) rfl
    have F2 : FR [(147, some 5)] w (sI w 147 5 ((w.1 147 5) + (1 : Int32))) := FR.I (FR.refl _ w) rfl
    have kq : KQ (40 * g + rs.length) w (sI w 147 5 ((w.1 147 5) + (1 : Int32))) := kq_7
    have r5 : ((sI w 147 5 ((w.1 147 5) + (1 : Int32))).1 147 5).toInt = ((j + 1 : Nat) : Int) := by
      rw [sI_same, s5]
      omega
    generalize (sI w 147 5 ((w.1 147 5) + (1 : Int32))) = w1 at *
    have h1 : GN w1 f n W H g rs N (j + 1) := gn_fr h F2 rfl rfl r5 (by omega) (KR.fr F2 rfl)
    have x1 : RwP w1 g rs.length N as c 0 := rwp_k hx F2 rfl
    refine mnb hT h1.1 i_0 (by decide) (by decide) b_3600 (by decide) (fun r er => ⟨fun z => ⟨bR, ?_⟩, fun z => ?_⟩)
    · rw [if_neg (by omega)] at hQ
      have nv : ¬ nbv f n (j + 1) 0 3600 < 0 := by omega
      have iW2 := lt_W hT (show 0 < wnd f n (j + 1) - wat f n (j + 1) by have := nbv_p nv; omega)
      rw [eR]
      have t5 := ti_add2 h1.1.2.2.1 i_1 (by omega) (by omega)
      have G1 : FR ltz w1 (sI (sI w1 157 (40 * g + rs.length) r) 147 5 ((w1.1 147 5) + (1 : Int32))) := FR.I (FR.I (FR.refl _ w1) rfl) rfl
      have G2 : FR [(147, some 5), (157, none)] w1 (sI (sI w1 157 (40 * g + rs.length) r) 147 5 ((w1.1 147 5) + (1 : Int32))) := FR.I (FR.I (FR.refl _ w1) rfl) rfl
      have kq2 : KQ (40 * g + rs.length) w1 (sI (sI w1 157 (40 * g + rs.length) r) 147 5 ((w1.1 147 5) + (1 : Int32))) := kq_R.tr kq_7
      have u5 : ((sI (sI w1 157 (40 * g + rs.length) r) 147 5 ((w1.1 147 5) + (1 : Int32))).1 147 5).toInt = ((j + 2 : Nat) : Int) := by
        rw [sI_same, t5]
        omega
      have u7 : ((sI (sI w1 157 (40 * g + rs.length) r) 147 5 ((w1.1 147 5) + (1 : Int32))).1 157 (40 * g + rs.length)).toInt = nbv f n (j + 1) 0 3600 := by
        rw [sI_oth _ _ _ _ _ _ (by decide), sI_same]
        exact er
      have Kq : KR (3000 * (g : Int)) (3000 * (g : Int) + (N : Int)) (40 * (g : Int)) (40 * (g : Int) + (rs.length : Int)) w1 (sI (sI w1 157 (40 * g + rs.length) r) 147 5 ((w1.1 147 5) + (1 : Int32))) := kq_kr kq2 G1 (by omega)
      generalize (sI (sI w1 157 (40 * g + rs.length) r) 147 5 ((w1.1 147 5) + (1 : Int32))) = w2 at *
      have h2 : GN w2 f n W H g rs N (j + 2) := gn_fr h1 G2 rfl rfl u5 (by omega) Kq
      have x2 : RwP w2 g rs.length N as c (nbv f n (j + 1) 0 3600) := by
        have e4 := (G2 154 (40 * g + rs.length) rfl).1
        exact ⟨by rw [(G2 155 _ rfl).1]; exact x1.1, fun k a hk => by rw [(G2 156 _ rfl).1]; exact x1.2.1 k a hk, x1.2.2.1, by rw [e4]; exact trr Kq x1.2.2.2.1 x1.2.2.2.2.1, by rw [e4]; exact x1.2.2.2.2.1, u7⟩
      exact t277 hT hg h2 x2 L4 hy (fun b' w' F' K' R' => hQ b' w' ((F1.tr G1 rfl).tr F' rfl) ((kq.tr kq2).tr K') R')
    · rw [if_pos (by omega)] at hQ
      exact hQ 0 w1 F1 kq ⟨fun y => absurd (show false = true from y) (by decide), fun _ => ⟨i_0, r5, by show j + 1 ≤ W; omega⟩⟩
  · rw [ltw_13, if_neg (nt q)] at hQ
    exact t277 hT hg h hx L4 hy hQ
