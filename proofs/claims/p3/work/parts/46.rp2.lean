theorem rm_bd (k : Int32) : (rm k).toInt ≤ 1000 ∧ (¬ k.toInt = 0 → (rm k).toInt ≤ 4) ∧ (k.toInt = 3 ∨ k.toInt = 4 → (rm k).toInt = 3) ∧ (¬ k.toInt = 0 → ¬ k.toInt = 3 → ¬ k.toInt = 4 → ¬ k.toInt = 6 → (rm k).toInt ≤ 2) := by
  have d0 : (1000 : Int32).toInt = 1000 := by decide
  have d2 : (2 : Int32).toInt = 2 := by decide
  have d3 : (3 : Int32).toInt = 3 := by decide
  have d4 : (4 : Int32).toInt = 4 := by decide
  have d1 : (1 : Int32).toInt = 1 := by decide
  unfold rm
  split
  · rw [d0]; omega
  · split
    · rw [d2]; omega
    · split
      · rw [d3]; omega
      · split
        · rw [d3]; omega
        · split
          · rw [d4]; omega
          · split
            · rw [d1]; omega
            · rw [d2]; omega
/-- the plant as far as it is built -/
def PI (v : MW) : Prop := (∀ j : Int, 0 ≤ j → j < (v.1 127 4).toInt → 0 ≤ (v.1 168 j.toNat).toInt ∧ (v.1 168 j.toNat).toInt ≤ 2 * (v.1 127 11).toInt ∧ (¬ (v.1 163 j.toNat).toInt = 0 → (v.1 168 j.toNat).toInt ≤ (rm (v.1 163 j.toNat)).toInt)) ∧ (∀ e : Int, 0 ≤ e → e < 2 * (v.1 127 11).toInt → (v.1 170 e.toNat).toInt < (v.1 127 4).toInt ∧ (0 ≤ (v.1 170 e.toNat).toInt → 0 ≤ (v.1 171 e.toNat).toInt ∧ (v.1 171 e.toNat).toInt < (v.1 168 (v.1 170 e.toNat).toInt.toNat).toInt)) ∧ (∀ e g : Int, 0 ≤ e → e < 2 * (v.1 127 11).toInt → 0 ≤ g → g < 2 * (v.1 127 11).toInt → ¬ e = g → (v.1 170 e.toNat).toInt = (v.1 170 g.toNat).toInt → 0 ≤ (v.1 170 e.toNat).toInt → ¬ (v.1 171 e.toNat).toInt = (v.1 171 g.toNat).toInt) ∧ (∀ p : Int, 0 ≤ p → p < (v.1 127 11).toInt → 1 ≤ (v.1 169 p.toNat).toInt)
theorem pi_rp {v : MW} (h : PI v) : RP v := by
  obtain ⟨hA, hB, hC, _⟩ := h
  refine ⟨fun e g e0 e1 g0 g1 eg hat h0 => hC e.toInt g.toInt e0 e1 g0 g1 eg hat h0, fun e e0 e1 h0 hk => ?_⟩
  have hb := hB e.toInt e0 e1
  have hb2 := hb.2 h0
  have ha := hA (v.1 170 e.toInt.toNat).toInt h0 hb.1
  have hr := rm_bd (v.1 163 (v.1 170 e.toInt.toNat).toInt.toNat)
  have hk' : ¬ (v.1 163 (v.1 170 e.toInt.toNat).toInt.toNat).toInt = 0 := hk
  have ha3 := ha.2.2 hk'
  have hr2 := hr.2.1 hk'
  unfold Po Kd At
  refine ⟨hb2.1, by omega, fun q => ?_, fun q1 q2 q3 => ?_⟩
  · have := hr.2.2.1 q
    omega
  · have := hr.2.2.2 hk' q1 q2 q3
    omega
theorem pi_sz {v : MW} (h : PI v) : SZ v := fun p p0 p1 => h.2.2.2 p.toInt p0 p1
def lbt : Pl := [(127, some 4), (163, none), (164, none), (165, none), (166, none), (167, none), (168, none)]
theorem g_buildT {v : MW} {r : Int32} {Q : MW → Prop} (hI : BND v) (r3 : ¬ r.toInt = 3) (r0 : 0 ≤ r.toInt) (r4 : r.toInt ≤ 3) (hn : (v.1 127 4).toInt < 20) (h0 : r.toInt = 0 → 1 ≤ (v.1 178 0).toInt ∧ (v.1 178 0).toInt ≤ 100000) (h2 : r.toInt = 2 → 0 ≤ (v.1 178 0).toInt ∧ (v.1 178 0).toInt ≤ 7) (hQ : ∀ v' : MW, BND v' → FR lbt v v' → v'.1 127 4 = (v.1 127 4) + (1 : Int32) → (∀ j, v'.1 163 j = if j = (v.1 127 4).toInt.toNat then (if r.toInt = 2 then (2 : Int32) + (v.1 178 0) else r) else v.1 163 j) → (∀ j, v'.1 168 j = if j = (v.1 127 4).toInt.toNat then 0 else v.1 168 j) → Q v') : p_Mo_build v r Q := by
  have b4 := bd_127_4 hI
  refine Eq.mpr (p_Mo_build.eq_1 _ _ _) ⟨fun c => absurd c r3, fun _ => ?_⟩
  have e4 := ti_add2 (Eq.refl (v.1 127 4).toInt) (by decide : ((1 : Int32)).toInt = 1) (by omega) (by omega)
  have hx : 0 ≤ (v.1 127 4).toInt ∧ (v.1 127 4).toInt < 20 := ⟨b4.1, hn⟩
  have g : ∀ k : Int32, k = (if r.toInt = 2 then (2 : Int32) + (v.1 178 0) else r) → 0 ≤ k.toInt → k.toInt ≤ 9 → q_Mo_build_30 r k (v.1 127 4) v Q := by
    intro k ek k0 k9
    have a4 : (sI v 163 (v.1 127 4).toInt.toNat k).1 127 4 = v.1 127 4 := sI_oth _ _ _ _ _ _ (by decide)
    have f53 : ∀ m : Int32, 0 ≤ m.toInt → m.toInt ≤ 100000 → q_Mo_build_53 m (v.1 127 4) (sI v 163 (v.1 127 4).toInt.toNat k) Q := by
      intro m m0 m1
      refine Eq.mpr (q_Mo_build_53.eq_1 _ _ _ _) ?_
      rw [a4]
      refine ⟨hx, hx, hx, hx, hx, hQ _ (wbd_127_4 (wbd_168 (wbd_167 (wbd_166 (wbd_165 (wbd_164 (wbd_163 hI _ k0 k9) _ m0 m1) _) _ (by decide) (by decide)) _ (by decide) (by decide)) _) (by omega) (by omega)) (FR.I (FR.I (FR.I (FR.I (FR.I (FR.I (FR.I (FR.refl _ v) rfl) rfl) rfl) rfl) rfl) rfl) rfl) (sI_same _ _ _ _) (fun j => ?_) (fun j => ?_)⟩
      · rw [sI_oth _ _ _ _ _ _ (by decide), sI_oth _ _ _ _ _ _ (by decide), sI_oth _ _ _ _ _ _ (by decide), sI_oth _ _ _ _ _ _ (by decide), sI_oth _ _ _ _ _ _ (by decide), sI_oth _ _ _ _ _ _ (by decide), sI_at, ← ek]
        by_cases hj : j = (v.1 127 4).toInt.toNat
        · rw [if_pos ⟨rfl, hj⟩, if_pos hj]
        · rw [if_neg (fun q => hj q.2), if_neg hj]
      · rw [sI_oth _ _ _ _ _ _ (by decide), sI_at]
        by_cases hj : j = (v.1 127 4).toInt.toNat
        · rw [if_pos ⟨rfl, hj⟩, if_pos hj]
        · rw [if_neg (fun q => hj q.2), if_neg hj, sI_oth _ _ _ _ _ _ (by decide), sI_oth _ _ _ _ _ _ (by decide), sI_oth _ _ _ _ _ _ (by decide), sI_oth _ _ _ _ _ _ (by decide), sI_oth _ _ _ _ _ _ (by decide)]
    refine Eq.mpr (q_Mo_build_30.eq_1 _ _ _ _ _) ⟨hx, fun _ => f53 0 (by decide) (by decide), fun c => ?_⟩
    have c0 := h0 (Classical.not_not.mp c)
    exact f53 _ (by omega) c0.2
  refine ⟨fun c => g r (by rw [if_neg c]) r0 (by omega), fun c => ?_⟩
  have c2 := h2 (Classical.not_not.mp c)
  have e2 := ti_add2 (by decide : ((2 : Int32)).toInt = 2) (Eq.refl (v.1 178 0).toInt) (by omega) (by omega)
  exact g _ (by rw [if_pos (Classical.not_not.mp c)]) (by omega) (by omega)
theorem bd_122x {s : MW} {E Q : MW → Prop} (hn : (s.1 127 11).toInt < 24) (hE : ∀ w : MW, BND w → FR [(172, none)] s w → E w) (n : Nat) : ∀ (x : Int32) (w : MW), BND w → FR [(172, none)] s w → 0 ≤ x.toInt → x.toInt ≤ 200 → (200 - x.toInt).toNat < n → q_Mo_build_122 E Q n x w := by
  induction n with
  | zero => intros; omega
  | succ n ih =>
    intro x w hI hF x0 x1 hm
    rw [q_Mo_build_122.eq_2]
    have e11 : w.1 127 11 = s.1 127 11 := (hF 127 11 rfl).1
    have b11 := bd_127_11 hI
    rw [e11] at b11
    refine ⟨fun _ => hE w hI hF, fun c => ?_⟩
    rw [e11]
    have m1 := ti_mul2 (by decide : ((200 : Int32)).toInt = 200) (Eq.refl (s.1 127 11).toInt) (by omega) (by omega)
    have m2 := ti_add2 m1 (Eq.refl x.toInt) (by omega) (by omega)
    have e3 := ti_add2 (Eq.refl x.toInt) (by decide : ((1 : Int32)).toInt = 1) (by omega) (by omega)
    exact ⟨⟨by omega, by omega⟩, ih _ _ (wbd_172 hI _ (by decide) (by decide)) (FR.I hF rfl) (by omega) (by omega) (by omega)⟩
def pt (f : Nat → Int32) (a : Int32) : Int32 := if a.toInt < 0 then -1 else f a.toInt.toNat
/-- one end of a pipe -/
theorem bd_153x {w : MW} {x : Int32} {E Q : MW → Prop} {n : Nat} (hI : BND w) (x0 : 0 ≤ x.toInt) (x1 : x.toInt < 2) (hn : (w.1 127 11).toInt < 24) (hp : -1 ≤ (w.1 178 x.toInt.toNat).toInt) (hp2 : (w.1 178 x.toInt.toNat).toInt < 20) (hA : ∀ w' : MW, BND w' → FR [(168, none), (170, none), (171, none)] w w' → (∀ j, w'.1 170 j = if j = (2 * (w.1 127 11).toInt + x.toInt).toNat then w.1 178 x.toInt.toNat else w.1 170 j) → (∀ j, w'.1 171 j = if j = (2 * (w.1 127 11).toInt + x.toInt).toNat then pt (fun j => w.1 168 j) (w.1 178 x.toInt.toNat) else w.1 171 j) → ((fun j => w'.1 168 j) = incF (fun j => w.1 168 j) (w.1 178 x.toInt.toNat)) → q_Mo_build_153 E Q n (x + (1 : Int32)) w') : q_Mo_build_153 E Q (n + 1) x w := by
  rw [q_Mo_build_153.eq_2]
  have b11 := bd_127_11 hI
  have m1 := ti_mul2 (by decide : ((2 : Int32)).toInt = 2) (Eq.refl (w.1 127 11).toInt) (by omega) (by omega)
  have m2 := ti_add2 m1 (Eq.refl x.toInt) (by omega) (by omega)
  refine ⟨fun c => by omega, fun c => ⟨⟨x0, by omega⟩, ⟨by omega, by omega⟩, ?_⟩⟩
  have hx : 0 ≤ (((2 : Int32) * (w.1 127 11)) + x).toInt ∧ (((2 : Int32) * (w.1 127 11)) + x).toInt < 48 := by omega
  have ix : (((2 : Int32) * (w.1 127 11)) + x).toInt.toNat = (2 * (w.1 127 11).toInt + x.toInt).toNat := by rw [m2]
  generalize hi : (((2 : Int32) * (w.1 127 11)) + x) = ii at *
  generalize ha : w.1 178 x.toInt.toNat = a at *
  have hI1 : BND (sI w 170 ii.toInt.toNat a) := wbd_170 hI _ hp (by omega)
  have r170 : ∀ (k : Nat) (v : Int32) (j : Nat), True := fun _ _ _ => trivial
  have q170 : ∀ j, (sI w 170 ii.toInt.toNat a).1 170 j = if j = (2 * (w.1 127 11).toInt + x.toInt).toNat then a else w.1 170 j := by
    intro j
    rw [sI_at, ix]
    by_cases hj : j = (2 * (w.1 127 11).toInt + x.toInt).toNat
    · rw [if_pos ⟨rfl, hj⟩, if_pos hj]
    · rw [if_neg (fun q => hj q.2), if_neg hj]
  have s171 : ∀ (v : Int32) (j : Nat), (sI (sI w 170 ii.toInt.toNat a) 171 ii.toInt.toNat v).1 171 j = if j = (2 * (w.1 127 11).toInt + x.toInt).toNat then v else w.1 171 j := by
    intro v j
    rw [sI_at, ix]
    by_cases hj : j = (2 * (w.1 127 11).toInt + x.toInt).toNat
    · rw [if_pos ⟨rfl, hj⟩, if_pos hj]
    · rw [if_neg (fun q => hj q.2), if_neg hj, sI_oth _ _ _ _ _ _ (by decide)]
  refine ⟨fun c1 => ⟨⟨c1, hp2⟩, ?_⟩, fun c1 => ?_⟩
  · refine Eq.mpr (q_Mo_build_205.eq_1 _ _ _ _ _ _ _ _) ⟨hx, fun c2 => by omega, fun c2 => ⟨⟨c1, hp2⟩, ⟨c1, hp2⟩, ?_⟩⟩
    have g168 : (sI w 170 ii.toInt.toNat a).1 168 a.toInt.toNat = w.1 168 a.toInt.toNat := sI_oth _ _ _ _ _ _ (by decide)
    rw [g168]
    refine hA _ (wbd_168 (wbd_171 hI1 _) _) (FR.I (FR.I (FR.I (FR.refl _ w) rfl) rfl) rfl) (fun j => ?_) (fun j => ?_) ?_
    · rw [sI_oth _ _ _ _ _ _ (by decide), sI_oth _ _ _ _ _ _ (by decide)]
      exact q170 j
    · rw [sI_oth _ _ _ _ _ _ (by decide), s171]
      have e : pt (fun j => w.1 168 j) a = w.1 168 a.toInt.toNat := by unfold pt; rw [if_neg c2]
      rw [e]
    · funext j
      unfold incF
      rw [if_neg c2, sI_at]
      by_cases hj : j = a.toInt.toNat
      · rw [if_pos ⟨rfl, hj⟩, if_pos hj, hj]
      · rw [if_neg (fun q => hj q.2), if_neg hj, sI_oth _ _ _ _ _ _ (by decide), sI_oth _ _ _ _ _ _ (by decide)]
  · refine Eq.mpr (q_Mo_build_205.eq_1 _ _ _ _ _ _ _ _) ⟨hx, fun c2 => ?_, fun c2 => by omega⟩
    refine hA _ (wbd_171 hI1 _) (FR.I (FR.I (FR.refl _ w) rfl) rfl) (fun j => ?_) (fun j => ?_) ?_
    · rw [sI_oth _ _ _ _ _ _ (by decide)]
      exact q170 j
    · rw [s171]
      have e : pt (fun j => w.1 168 j) a = -1 := by unfold pt; rw [if_pos c2]
      rw [e]
    · funext j
      unfold incF
      rw [if_pos c2, sI_oth _ _ _ _ _ _ (by decide), sI_oth _ _ _ _ _ _ (by decide)]
