/-! the reference's rows: how many nodes, how deep -/
theorem fr_nil {l : Pl} {w w' : MW} (h : FR l w w') (hl : l = []) : w = w' := by
  subst hl
  have e : ∀ k j, w'.1 k j = w.1 k j ∧ w'.2.1 k j = w.2.1 k j ∧ w'.2.2 k j = w.2.2 k j := fun k j => h k j rfl
  exact Prod.ext (funext fun k => funext fun j => (e k j).1.symm) (Prod.ext (funext fun k => funext fun j => (e k j).2.1.symm) (funext fun k => funext fun j => (e k j).2.2.symm))
theorem sI_ne (w : MW) (k i j : Nat) (v : Int32) (h : i ≠ j) : (sI w k j v).1 k i = w.1 k i := by
  rw [sI_at, if_neg (fun e => h e.2)]
theorem sI_oth (w : MW) (k j : Nat) (v : Int32) (a b : Nat) (h : a ≠ k) : (sI w k j v).1 a b = w.1 a b := by rw [sI_at, if_neg (fun q => h q.1)]
def Bf (w : MW) : Int := if (w.1 147 5).toInt < (w.1 147 4).toInt then (w.1 149 (w.1 147 5).toInt.toNat).toInt else 4020
theorem bf_pos {w : MW} (h : (w.1 147 5).toInt < (w.1 147 4).toInt) : Bf w = (w.1 149 (w.1 147 5).toInt.toNat).toInt := if_pos h
theorem bf_le {w : MW} (hI : BND w) : Bf w ≤ 4020 := by
  unfold Bf
  split
  · exact (bd_149 hI _).2
  · omega
theorem bf_ge {w : MW} (hI : BND w) : 0 ≤ Bf w := by
  unfold Bf
  split
  · exact (bd_149 hI _).1
  · omega
theorem bf_next {w w' : MW} (hI : BND w) (hB : MB w) (h5 : (w.1 147 5).toInt < (w.1 147 4).toInt) (e5 : (w'.1 147 5).toInt = (w.1 147 5).toInt + 1) (e4 : w'.1 147 4 = w.1 147 4) (e9 : ∀ j, w'.1 149 j = w.1 149 j) : (w.1 150 (w.1 147 5).toInt.toNat).toInt ≤ Bf w' := by
  have b5 := bd_147_5 hI
  have h := hB (w.1 147 5) b5.1 h5
  unfold Bf
  rw [e4, e5]
  split
  · next c => rw [e9]; exact h.2 c
  · exact (bd_150 hI _).2
def NB (w : MW) : Prop := (w.1 147 11).toInt ≤ 0 ∨ 2 * (w.1 147 11).toInt ≤ Bf w
theorem bf_eq {w w' : MW} (e5 : w'.1 147 5 = w.1 147 5) (e4 : w'.1 147 4 = w.1 147 4) (e9 : ∀ j, w'.1 149 j = w.1 149 j) : Bf w' = Bf w := by
  unfold Bf
  rw [e4, e5, e9]
theorem NB_fr {l : Pl} {w w' : MW} (hF : FR l w w') (ho : off l [(147, some 4), (147, some 5), (147, some 11), (149, none)] = true) (h : NB w) : NB w' := by
  have hq : ∀ k j, hit [(147, some 4), (147, some 5), (147, some 11), (149, none)] k j = true → w'.1 k j = w.1 k j := fun k j hk => (hF k j (off_hit ho hk)).1
  unfold NB at *
  rw [bf_eq (hq 147 5 rfl) (hq 147 4 rfl) (fun j => hq 149 j rfl), hq 147 11 rfl]
  exact h
theorem nb_zero {w : MW} {v : Int32} (hv : v.toInt = 0) : NB (sI w 147 11 v) := by
  left
  have a1 : (sI w 147 11 v).1 147 11 = v := rfl
  rw [a1]
  omega
theorem nb_same {w : MW} {v : Int32} (h : NB w) (hv : v.toInt = (w.1 147 5).toInt) : NB (sI w 147 5 v) := by
  have e : v = w.1 147 5 := Int32.toInt_inj.mp hv
  subst e
  have a1 : Bf (sI w 147 5 (w.1 147 5)) = Bf w := bf_eq rfl rfl (fun _ => rfl)
  unfold NB at *
  rw [a1]
  exact h
theorem nb_next0 {w : MW} {v : Int32} (h : NB w) (hB : MB w) (hi : 0 ≤ (w.1 147 5).toInt) (h5 : (w.1 147 5).toInt < (w.1 147 4).toInt) (hv : v.toInt = (w.1 147 5).toInt + 1) (h9 : (w.1 150 (w.1 147 5).toInt.toNat).toInt ≤ 4020) : NB (sI w 147 5 v) := by
  unfold NB at *
  have a1 : (sI w 147 5 v).1 147 11 = w.1 147 11 := rfl
  rw [a1]
  rcases h with h | h
  · left; exact h
  · right
    have h2 := hB (w.1 147 5) hi h5
    rw [bf_pos h5] at h
    have a5 : (sI w 147 5 v).1 147 5 = v := rfl
    have a4 : (sI w 147 5 v).1 147 4 = w.1 147 4 := rfl
    have a9 : ∀ j, (sI w 147 5 v).1 149 j = w.1 149 j := fun _ => rfl
    unfold Bf
    rw [a5, a4, a9, hv]
    split
    · next c => have := h2.2 c; omega
    · omega
theorem nb_nextq {w : MW} {v : Int32} (h : NB w) (hB : MB w) (hi : 0 ≤ (w.1 147 5).toInt) (hv : v.toInt = (w.1 147 5).toInt ∨ ((w.1 147 5).toInt < (w.1 147 4).toInt ∧ v.toInt = (w.1 147 5).toInt + 1)) (h9 : (w.1 150 ((w.1 147 5).toInt.toNat)).toInt ≤ 4020) : NB (sI w 147 5 v) := by
  rcases hv with hv | ⟨h5, hv⟩
  · exact nb_same h hv
  · exact nb_next0 h hB hi h5 hv h9
/-- a node and what hangs on it: in [lo, hi), at most n deep -/
def DT (lo hi : Int) : Nat → Int32 → MW → Prop
  | 0, _, _ => False
  | n + 1, x, w => lo ≤ x.toInt ∧ x.toInt < hi ∧ ((w.1 151 x.toInt.toNat).toInt = 16 → DT lo hi n (w.1 152 x.toInt.toNat) w) ∧ ((w.1 151 x.toInt.toNat).toInt = 17 ∨ (w.1 151 x.toInt.toNat).toInt = 18 → DT lo hi n (w.1 152 x.toInt.toNat) w ∧ DT lo hi n (w.1 153 x.toInt.toNat) w)
theorem dt_mv {lo hi hi' : Int} {w w' : MW} (h0 : 0 ≤ lo) (hh : hi ≤ hi') (he : ∀ j : Nat, lo ≤ (j : Int) → (j : Int) < hi → w'.1 151 j = w.1 151 j ∧ w'.1 152 j = w.1 152 j ∧ w'.1 153 j = w.1 153 j) : ∀ (n m : Nat) (x : Int32), n ≤ m → DT lo hi n x w → DT lo hi' m x w' := by
  intro n
  induction n with
  | zero => intro m x _ h; exact h.elim
  | succ n ih =>
    intro m x hm h
    cases m with
    | zero => omega
    | succ m =>
      obtain ⟨h1, h2, h3, h4⟩ := h
      have e := he x.toInt.toNat (by omega) (by omega)
      refine ⟨h1, by omega, ?_, ?_⟩
      · intro c
        rw [e.1] at c
        rw [e.2.1]
        exact ih m _ (by omega) (h3 c)
      · intro c
        rw [e.1] at c
        rw [e.2.1, e.2.2]
        exact ⟨ih m _ (by omega) (h4 c).1, ih m _ (by omega) (h4 c).2⟩
theorem dt_le {lo hi : Int} {n m : Nat} {x : Int32} {w : MW} (h0 : 0 ≤ lo) (hm : n ≤ m) (h : DT lo hi n x w) : DT lo hi m x w := dt_mv h0 (Int.le_refl _) (fun _ _ _ => ⟨rfl, rfl, rfl⟩) n m x hm h
def lMr : Pl := [(147, some 5), (147, some 6), (147, some 7), (147, some 11), (151, none), (152, none), (153, none)]
def KN (w w' : MW) : Prop := ∀ j : Nat, ((j : Int) < 3000 * (1 - (w.1 147 12).toInt) + (w.1 147 11).toInt ∨ 3000 * (1 - (w.1 147 12).toInt) + 3000 ≤ (j : Int)) → w'.1 151 j = w.1 151 j ∧ w'.1 152 j = w.1 152 j ∧ w'.1 153 j = w.1 153 j
def MrR (k : Int) (w w' : MW) : Prop := BND w' ∧ FR lMr w w' ∧ Bf w - 2 * (w.1 147 11).toInt + k ≤ Bf w' - 2 * (w'.1 147 11).toInt ∧ (w.1 147 11).toInt ≤ (w'.1 147 11).toInt ∧ KN w w' ∧ (w.1 147 5).toInt ≤ (w'.1 147 5).toInt
theorem mrr_refl {w : MW} (hI : BND w) : MrR 0 w w := ⟨hI, FR.refl _ w, by omega, by omega, fun _ _ => ⟨rfl, rfl, rfl⟩, by omega⟩
theorem mrr_12 {k : Int} {w w' : MW} (h : MrR k w w') : w'.1 147 12 = w.1 147 12 := (h.2.1 147 12 rfl).1
theorem mrr_tr {k1 k2 k : Int} {w w1 w2 : MW} (h1 : MrR k1 w w1) (h2 : MrR k2 w1 w2) (hk : k ≤ k1 + k2) : MrR k w w2 := by
  have e := mrr_12 h1
  obtain ⟨a1, a2, a3, a4, a5, a6⟩ := h1
  obtain ⟨b1, b2, b3, b4, b5, b6⟩ := h2
  refine ⟨b1, a2.tr b2 rfl, by omega, by omega, ?_, by omega⟩
  intro j hj
  have x := a5 j hj
  have y := b5 j (by rw [e]; omega)
  exact ⟨y.1.trans x.1, y.2.1.trans x.2.1, y.2.2.trans x.2.2⟩
theorem mrr_mb {k : Int} {w w' : MW} (h : MrR k w w') (hB : MB w) : MB w' := MB_fr h.2.1 rfl hB
theorem mrr_next {k : Int} {w : MW} (hI : BND w) (hB : MB w) (h5 : (w.1 147 5).toInt < (w.1 147 4).toInt) (hw : k ≤ (w.1 150 ((w.1 147 5).toInt.toNat)).toInt - (w.1 149 ((w.1 147 5).toInt.toNat)).toInt) : MrR k w (sI w 147 5 ((w.1 147 5) + (1 : Int32))) := by
  have b5 := bd_147_5 hI
  have b4 := bd_147_4 hI
  have e5 := ti_add2 (Eq.refl (w.1 147 5).toInt) (by decide : ((1 : Int32)).toInt = 1) (by omega) (by omega)
  have hI' : BND (sI w 147 5 ((w.1 147 5) + (1 : Int32))) := wbd_147_5 hI (by omega) (by omega)
  have hb := bf_next (w' := sI w 147 5 ((w.1 147 5) + (1 : Int32))) hI hB h5 e5 rfl (fun _ => rfl)
  have a1 : (sI w 147 5 ((w.1 147 5) + (1 : Int32))).1 147 11 = w.1 147 11 := rfl
  have a2 : (sI w 147 5 ((w.1 147 5) + (1 : Int32))).1 147 5 = (w.1 147 5) + (1 : Int32) := rfl
  have hp := bf_pos h5
  refine ⟨hI', FR.I (FR.refl _ w) rfl, ?_, ?_, fun _ _ => ⟨rfl, rfl, rfl⟩, ?_⟩
  · rw [a1]; omega
  · rw [a1]; omega
  · rw [a2]; omega
theorem mrr_stay {w w' : MW} (hI : BND w') (hF : FR lMr w w') (e5 : w'.1 147 5 = w.1 147 5) (e11 : w'.1 147 11 = w.1 147 11) (hn : ∀ j, w'.1 151 j = w.1 151 j ∧ w'.1 152 j = w.1 152 j ∧ w'.1 153 j = w.1 153 j) : MrR 0 w w' := by
  have e : Bf w' = Bf w := bf_eq e5 (hF 147 4 rfl).1 (fun j => (hF 149 j rfl).1)
  refine ⟨hI, hF, ?_, ?_, fun j _ => hn j, ?_⟩
  · rw [e, e11]; omega
  · rw [e11]; omega
  · rw [e5]; omega
def ndX (w : MW) : Int32 := ((3000 : Int32) * ((1 : Int32) - (w.1 147 12))) + (w.1 147 11)
def ndW (w : MW) (a b c : Int32) : MW := sI (sI (sI (sI w 151 ((ndX w).toInt.toNat) a) 152 ((ndX w).toInt.toNat) b) 153 ((ndX w).toInt.toNat) c) 147 11 ((w.1 147 11) + (1 : Int32))
theorem ndx_eq {w : MW} (hI : BND w) : (ndX w).toInt = 3000 * (1 - (w.1 147 12).toInt) + (w.1 147 11).toInt := by
  have b1 := bd_147_12 hI
  have b2 := bd_147_11 hI
  have e1 := ti_sub2 (by decide : ((1 : Int32)).toInt = 1) (Eq.refl (w.1 147 12).toInt) (by omega) (by omega)
  have e2 := ti_mul2 (by decide : ((3000 : Int32)).toInt = 3000) e1 (by omega) (by omega)
  exact ti_add2 e2 (Eq.refl (w.1 147 11).toInt) (by omega) (by omega)
theorem g_node {w : MW} {a b c : Int32} {Q : Int32 → MW → Prop} (hI : BND w) (hn : 2 * (w.1 147 11).toInt + 2 ≤ Bf w) (hQ : Q (ndX w) (ndW w a b c)) : p_Mr_node w a b c Q := by
  refine Eq.mpr (p_Mr_node.eq_1 _ _ _ _ _) ?_
  have e := ndx_eq hI
  have b1 := bd_147_12 hI
  have b2 := bd_147_11 hI
  have b3 := bf_le hI
  have hx : 0 ≤ (ndX w).toInt ∧ (ndX w).toInt < 6000 := by omega
  exact ⟨hx, hx, hx, hQ⟩
theorem ndw_151 {w : MW} {a b c : Int32} (j : Nat) : (ndW w a b c).1 151 j = (sI w 151 ((ndX w).toInt.toNat) a).1 151 j := by
  unfold ndW
  rw [sI_at, if_neg (fun e => absurd e.1 (by decide)), sI_at, if_neg (fun e => absurd e.1 (by decide)), sI_at, if_neg (fun e => absurd e.1 (by decide))]
theorem ndw_152 {w : MW} {a b c : Int32} (j : Nat) : (ndW w a b c).1 152 j = if j = (ndX w).toInt.toNat then b else w.1 152 j := by
  unfold ndW
  rw [sI_at, if_neg (fun e => absurd e.1 (by decide)), sI_at, if_neg (fun e => absurd e.1 (by decide)), sI_at]
  by_cases h : j = (ndX w).toInt.toNat
  · rw [if_pos ⟨rfl, h⟩, if_pos h]
  · rw [if_neg (fun e => h e.2), if_neg h, sI_at, if_neg (fun e => absurd e.1 (by decide))]
theorem ndw_153 {w : MW} {a b c : Int32} (j : Nat) : (ndW w a b c).1 153 j = if j = (ndX w).toInt.toNat then c else w.1 153 j := by
  unfold ndW
  rw [sI_at, if_neg (fun e => absurd e.1 (by decide)), sI_at]
  by_cases h : j = (ndX w).toInt.toNat
  · rw [if_pos ⟨rfl, h⟩, if_pos h]
  · rw [if_neg (fun e => h e.2), if_neg h, sI_at, if_neg (fun e => absurd e.1 (by decide)), sI_at, if_neg (fun e => absurd e.1 (by decide))]
theorem mrr_node {w : MW} {a b c : Int32} (hI : BND w) (hn : 2 * (w.1 147 11).toInt + 2 ≤ Bf w) (ha : 0 ≤ a.toInt ∧ a.toInt ≤ 18) (hb : -1 ≤ b.toInt ∧ b.toInt ≤ 5999) (hc : -1 ≤ c.toInt ∧ c.toInt ≤ 5999) : MrR (-2) w (ndW w a b c) := by
  have b2 := bd_147_11 hI
  have b3 := bf_le hI
  have ex := ndx_eq hI
  have b1 := bd_147_12 hI
  have e := ti_add2 (Eq.refl (w.1 147 11).toInt) (by decide : ((1 : Int32)).toInt = 1) (by omega) (by omega)
  have hI' : BND (ndW w a b c) := wbd_147_11 (wbd_153 (wbd_152 (wbd_151 hI _ ha.1 ha.2) _ hb.1 hb.2) _ hc.1 hc.2) (by omega) (by omega)
  have a1 : (ndW w a b c).1 147 11 = (w.1 147 11) + (1 : Int32) := rfl
  have a2 : (ndW w a b c).1 147 5 = w.1 147 5 := rfl
  have a3 : Bf (ndW w a b c) = Bf w := bf_eq rfl rfl (fun _ => rfl)
  refine ⟨hI', FR.I (FR.I (FR.I (FR.I (FR.refl _ w) rfl) rfl) rfl) rfl, ?_, ?_, ?_, ?_⟩
  · rw [a1, a3]; omega
  · rw [a1]; omega
  · intro j hj
    have hne : j ≠ (ndX w).toInt.toNat := by omega
    exact ⟨(ndw_151 j).trans (sI_ne _ _ _ _ _ hne), (ndw_152 j).trans (if_neg hne), (ndw_153 j).trans (if_neg hne)⟩
  · rw [a2]; omega
theorem dt_node {w : MW} {a b c : Int32} {d : Nat} (hI : BND w) (hn : 2 * (w.1 147 11).toInt + 2 ≤ Bf w) (h1 : a.toInt = 16 → DT (3000 * (1 - (w.1 147 12).toInt)) (3000 * (1 - (w.1 147 12).toInt) + (w.1 147 11).toInt) d b w) (h2 : a.toInt = 17 ∨ a.toInt = 18 → DT (3000 * (1 - (w.1 147 12).toInt)) (3000 * (1 - (w.1 147 12).toInt) + (w.1 147 11).toInt) d b w ∧ DT (3000 * (1 - (w.1 147 12).toInt)) (3000 * (1 - (w.1 147 12).toInt) + (w.1 147 11).toInt) d c w) : DT (3000 * (1 - (w.1 147 12).toInt)) (3000 * (1 - (w.1 147 12).toInt) + ((w.1 147 11).toInt + 1)) (d + 1) (ndX w) (ndW w a b c) := by
  have ex := ndx_eq hI
  have b1 := bd_147_12 hI
  have b2 := bd_147_11 hI
  have e1 : (ndW w a b c).1 151 (ndX w).toInt.toNat = a := (ndw_151 _).trans (sI_same _ _ _ _)
  have e2 : (ndW w a b c).1 152 (ndX w).toInt.toNat = b := (ndw_152 _).trans (if_pos rfl)
  have e3 : (ndW w a b c).1 153 (ndX w).toInt.toNat = c := (ndw_153 _).trans (if_pos rfl)
  have mv : ∀ x, DT (3000 * (1 - (w.1 147 12).toInt)) (3000 * (1 - (w.1 147 12).toInt) + (w.1 147 11).toInt) d x w → DT (3000 * (1 - (w.1 147 12).toInt)) (3000 * (1 - (w.1 147 12).toInt) + ((w.1 147 11).toInt + 1)) d x (ndW w a b c) := by
    intro x hx
    refine dt_mv (by omega) (by omega) ?_ d d x (by omega) hx
    intro j h3 h4
    have hne : j ≠ (ndX w).toInt.toNat := by omega
    exact ⟨(ndw_151 j).trans (sI_ne _ _ _ _ _ hne), (ndw_152 j).trans (if_neg hne), (ndw_153 j).trans (if_neg hne)⟩
  refine ⟨by omega, by omega, ?_, ?_⟩
  · intro q
    rw [e1] at q
    rw [e2]
    exact mv _ (h1 q)
  · intro q
    rw [e1] at q
    rw [e2, e3]
    exact ⟨mv _ (h2 q).1, mv _ (h2 q).2⟩
def MrP (r : Int32) (w w' : MW) : Prop := MrR 0 w w' ∧ -1 ≤ r.toInt ∧ r.toInt ≤ 5999 ∧ (0 ≤ r.toInt → (w'.1 147 6).toInt = (w.1 147 6).toInt ∧ (w.1 147 7).toInt < (w'.1 147 7).toInt ∧ DT (3000 * (1 - (w.1 147 12).toInt)) (3000 * (1 - (w.1 147 12).toInt) + (w'.1 147 11).toInt) (((w'.1 147 7).toInt - (w.1 147 7).toInt) + (20 - (w.1 147 6).toInt)).toNat r w')
theorem mrp_no {w w' : MW} (h : MrR 0 w w') : MrP (-1) w w' := ⟨h, by decide, by decide, fun q => absurd q (by decide)⟩
def DX (a : Int32) (w : MW) : Prop := (∃ n : Nat, n ≤ 52 ∧ DT (3000 * (1 - (w.1 147 12).toInt)) (3000 * (1 - (w.1 147 12).toInt) + (w.1 147 11).toInt) n a w) ∧ 0 ≤ (w.1 147 12).toInt ∧ (w.1 147 12).toInt ≤ 1
def DR1 (w : MW) : Prop := ∀ k : Int32, 0 ≤ k.toInt → k.toInt < (w.1 147 13).toInt → DX (w.1 154 (40 * (1 - (w.1 147 12).toInt) + k.toInt).toNat) w
def DR2 (w : MW) : Prop := DX (w.1 154 (40 * (1 - (w.1 147 12).toInt) + (w.1 147 13).toInt).toNat) w
def DV (a : Int32) (w : MW) : Prop := (∃ n : Nat, n ≤ 52 ∧ DT (3000 * (w.1 147 12).toInt) (3000 * (w.1 147 12).toInt + 3000) n a w) ∧ 0 ≤ (w.1 147 12).toInt ∧ (w.1 147 12).toInt ≤ 1
def DR (w : MW) : Prop := ∀ k : Int32, 0 ≤ k.toInt → k.toInt < (w.1 147 20).toInt → DV (w.1 154 (40 * (w.1 147 12).toInt + k.toInt).toNat) w
theorem dx_mv {a : Int32} {w w' : MW} (e12 : w'.1 147 12 = w.1 147 12) (e11 : (w.1 147 11).toInt ≤ (w'.1 147 11).toInt) (he : ∀ j : Nat, (j : Int) < 3000 * (1 - (w.1 147 12).toInt) + (w.1 147 11).toInt → w'.1 151 j = w.1 151 j ∧ w'.1 152 j = w.1 152 j ∧ w'.1 153 j = w.1 153 j) (h : DX a w) : DX a w' := by
  obtain ⟨⟨n, hn, h1⟩, h2, h3⟩ := h
  unfold DX
  rw [e12]
  exact ⟨⟨n, hn, dt_mv (by omega) (by omega) (fun j _ q => he j q) n n a (Nat.le_refl n) h1⟩, h2, h3⟩
theorem dv_mv {a : Int32} {w w' : MW} (e12 : w'.1 147 12 = w.1 147 12) (he : ∀ j : Nat, 3000 * (w.1 147 12).toInt ≤ (j : Int) → (j : Int) < 3000 * (w.1 147 12).toInt + 3000 → w'.1 151 j = w.1 151 j ∧ w'.1 152 j = w.1 152 j ∧ w'.1 153 j = w.1 153 j) (h : DV a w) : DV a w' := by
  obtain ⟨⟨n, hn, h1⟩, h2, h3⟩ := h
  unfold DV
  rw [e12]
  exact ⟨⟨n, hn, dt_mv (by omega) (by omega) he n n a (Nat.le_refl n) h1⟩, h2, h3⟩
theorem DX_fr {l : Pl} {w w' : MW} {a1 : Int32} (hF : FR l w w') (ho : off l [(147, some 11), (147, some 12), (151, none), (152, none), (153, none)] = true) (h : DX a1 w) : DX a1 w' := by
  have hq : ∀ k j, hit [(147, some 11), (147, some 12), (151, none), (152, none), (153, none)] k j = true → w'.1 k j = w.1 k j := fun k j hk => (hF k j (off_hit ho hk)).1
  exact dx_mv (hq 147 12 rfl) (by rw [hq 147 11 rfl]; omega) (fun j _ => ⟨hq 151 j rfl, hq 152 j rfl, hq 153 j rfl⟩) h
theorem DV_fr {l : Pl} {w w' : MW} {a1 : Int32} (hF : FR l w w') (ho : off l [(147, some 12), (151, none), (152, none), (153, none)] = true) (h : DV a1 w) : DV a1 w' := by
  have hq : ∀ k j, hit [(147, some 12), (151, none), (152, none), (153, none)] k j = true → w'.1 k j = w.1 k j := fun k j hk => (hF k j (off_hit ho hk)).1
  exact dv_mv (hq 147 12 rfl) (fun j _ _ => ⟨hq 151 j rfl, hq 152 j rfl, hq 153 j rfl⟩) h
theorem DR1_fr {l : Pl} {w w' : MW} (hF : FR l w w') (ho : off l [(147, some 11), (147, some 12), (147, some 13), (151, none), (152, none), (153, none), (154, none)] = true) (h : DR1 w) : DR1 w' := by
  have hq : ∀ k j, hit [(147, some 11), (147, some 12), (147, some 13), (151, none), (152, none), (153, none), (154, none)] k j = true → w'.1 k j = w.1 k j := fun k j hk => (hF k j (off_hit ho hk)).1
  intro k h0 h1
  rw [hq 147 13 rfl] at h1
  rw [hq 147 12 rfl, hq 154 _ rfl]
  exact dx_mv (hq 147 12 rfl) (by rw [hq 147 11 rfl]; omega) (fun j _ => ⟨hq 151 j rfl, hq 152 j rfl, hq 153 j rfl⟩) (h k h0 h1)
theorem DR2_fr {l : Pl} {w w' : MW} (hF : FR l w w') (ho : off l [(147, some 11), (147, some 12), (147, some 13), (151, none), (152, none), (153, none), (154, none)] = true) (h : DR2 w) : DR2 w' := by
  have hq : ∀ k j, hit [(147, some 11), (147, some 12), (147, some 13), (151, none), (152, none), (153, none), (154, none)] k j = true → w'.1 k j = w.1 k j := fun k j hk => (hF k j (off_hit ho hk)).1
  unfold DR2 at *
  rw [hq 147 12 rfl, hq 147 13 rfl, hq 154 _ rfl]
  exact dx_mv (hq 147 12 rfl) (by rw [hq 147 11 rfl]; omega) (fun j _ => ⟨hq 151 j rfl, hq 152 j rfl, hq 153 j rfl⟩) h
theorem DR_fr {l : Pl} {w w' : MW} (hF : FR l w w') (ho : off l [(147, some 12), (147, some 20), (151, none), (152, none), (153, none), (154, none)] = true) (h : DR w) : DR w' := by
  have hq : ∀ k j, hit [(147, some 12), (147, some 20), (151, none), (152, none), (153, none), (154, none)] k j = true → w'.1 k j = w.1 k j := fun k j hk => (hF k j (off_hit ho hk)).1
  intro k h0 h1
  rw [hq 147 20 rfl] at h1
  rw [hq 147 12 rfl, hq 154 _ rfl]
  exact dv_mv (hq 147 12 rfl) (fun j _ _ => ⟨hq 151 j rfl, hq 152 j rfl, hq 153 j rfl⟩) (h k h0 h1)
theorem dr1_zero {w : MW} {v : Int32} (hv : v.toInt = 0) : DR1 (sI w 147 13 v) := by
  intro k h0 h1
  have a1 : (sI w 147 13 v).1 147 13 = v := rfl
  rw [a1] at h1
  omega
theorem dr1_more {w : MW} {v : Int32} (h : DR1 w) (h2 : DR2 w) (hv : v.toInt = (w.1 147 13).toInt + 1) : DR1 (sI w 147 13 v) := by
  intro k h0 h1
  have a1 : (sI w 147 13 v).1 147 13 = v := rfl
  have a2 : (sI w 147 13 v).1 147 12 = w.1 147 12 := rfl
  have a3 : ∀ j, (sI w 147 13 v).1 154 j = w.1 154 j := fun _ => rfl
  rw [a1] at h1
  rw [a2, a3]
  refine dx_mv rfl (Int.le_refl _) (fun j _ => ⟨rfl, rfl, rfl⟩) (w := w) ?_
  by_cases c : k.toInt < (w.1 147 13).toInt
  · exact h k h0 c
  · have e : k.toInt = (w.1 147 13).toInt := by omega
    rw [e]
    exact h2
theorem dr1_154 {w : MW} {i v : Int32} (h : DR1 w) (hi : i.toInt = 40 * (1 - (w.1 147 12).toInt) + (w.1 147 13).toInt) (h0' : 0 ≤ (w.1 147 12).toInt) (h1' : (w.1 147 12).toInt ≤ 1) : DR1 (sI w 154 i.toInt.toNat v) := by
  intro k h0 h1
  have a1 : (sI w 154 i.toInt.toNat v).1 147 13 = w.1 147 13 := rfl
  have a2 : (sI w 154 i.toInt.toNat v).1 147 12 = w.1 147 12 := rfl
  rw [a1] at h1
  rw [a2, sI_ne _ _ _ _ _ (by omega)]
  exact dx_mv (w := w) rfl (Int.le_refl _) (fun j _ => ⟨rfl, rfl, rfl⟩) (h k h0 h1)
theorem dr2_154 {w : MW} {i v : Int32} (h : DX v w) (hi : i.toInt = 40 * (1 - (w.1 147 12).toInt) + (w.1 147 13).toInt) : DR2 (sI w 154 i.toInt.toNat v) := by
  have a1 : (sI w 154 i.toInt.toNat v).1 147 13 = w.1 147 13 := rfl
  have a2 : (sI w 154 i.toInt.toNat v).1 147 12 = w.1 147 12 := rfl
  unfold DR2
  rw [a1, a2, ← hi, sI_same]
  exact dx_mv (w := w) rfl (Int.le_refl _) (fun j _ => ⟨rfl, rfl, rfl⟩) h
theorem dr_154 {w : MW} {i v : Int32} (h : DR w) (hi : i.toInt = 40 * (1 - (w.1 147 12).toInt) + (w.1 147 13).toInt) (h0' : 0 ≤ (w.1 147 12).toInt) (h1' : (w.1 147 12).toInt ≤ 1) (h2' : 0 ≤ (w.1 147 13).toInt) (h3' : (w.1 147 13).toInt < 40) (h4' : (w.1 147 20).toInt ≤ 40) : DR (sI w 154 i.toInt.toNat v) := by
  intro k h0 h1
  have a1 : (sI w 154 i.toInt.toNat v).1 147 20 = w.1 147 20 := rfl
  have a2 : (sI w 154 i.toInt.toNat v).1 147 12 = w.1 147 12 := rfl
  rw [a1] at h1
  rw [a2, sI_ne _ _ _ _ _ (by omega)]
  exact dv_mv (w := w) rfl (fun j _ _ => ⟨rfl, rfl, rfl⟩) (h k h0 h1)
theorem dr_flip {w : MW} {v u : Int32} (h : DR1 w) (hv : v.toInt = 1 - (w.1 147 12).toInt) (hu : u.toInt = (w.1 147 13).toInt) (h3 : (w.1 147 11).toInt ≤ 3000) : DR (sI (sI w 147 12 v) 147 20 u) := by
  intro k h0 h1
  have a1 : (sI (sI w 147 12 v) 147 20 u).1 147 20 = u := rfl
  have a2 : (sI (sI w 147 12 v) 147 20 u).1 147 12 = v := rfl
  have a3 : ∀ j, (sI (sI w 147 12 v) 147 20 u).1 154 j = w.1 154 j := fun _ => rfl
  rw [a1] at h1
  rw [a2, a3, hv]
  obtain ⟨⟨n, hn, h4⟩, h5, h6⟩ := h k h0 (by omega)
  unfold DV
  rw [a2, hv]
  exact ⟨⟨n, hn, dt_mv (w := w) (w' := sI (sI w 147 12 v) 147 20 u) (hi := 3000 * (1 - (w.1 147 12).toInt) + (w.1 147 11).toInt) (hi' := 3000 * (1 - (w.1 147 12).toInt) + 3000) (by omega) (by omega) (fun j _ _ => ⟨rfl, rfl, rfl⟩) n n _ (Nat.le_refl n) h4⟩, by omega, by omega⟩
theorem dv_dr {w : MW} {i k : Int32} (h : DR w) (h0 : 0 ≤ k.toInt) (h1 : k.toInt < (w.1 147 20).toInt) (hi : i.toInt = 40 * (w.1 147 12).toInt + k.toInt) : DV (w.1 154 i.toInt.toNat) w := by
  rw [hi]
  exact h k h0 h1
/-- value ends, and changes nothing -/
theorem mr_value {lo hi : Int} {w : MW} (h0 : 0 ≤ lo) (h1 : hi ≤ 6000) : ∀ (n m : Nat) (x : Int32) (Q : Int32 → MW → Prop), n ≤ m → DT lo hi n x w → (∀ r : Int32, 0 ≤ r.toInt → r.toInt ≤ 1 → Q r w) → pn_Mr_value m w x Q := by
  intro n
  induction n with
  | zero => intro m x Q _ h; exact h.elim
  | succ n ih =>
    intro m x Q hm h hQ
    cases m with
    | zero => omega
    | succ m =>
      obtain ⟨h2, h3, h4, h5⟩ := h
      refine Eq.mpr (pe_Mr_value m w x Q) ?_
      refine Eq.mpr (pb_Mr_value.eq_1 _ _ _ _) ?_
      have hx : 0 ≤ x.toInt ∧ x.toInt < 6000 := ⟨by omega, by omega⟩
      have q0 : Q 0 w := hQ 0 (by decide) (by decide)
      have q1 : Q 1 w := hQ 1 (by decide) (by decide)
      refine ⟨hx, fun c => ⟨hx, ih m _ _ (by omega) (h4 c) (fun r _ _ => ⟨fun _ => q0, fun _ => q1⟩)⟩, fun _ => ⟨fun c => ⟨hx, ih m _ _ (by omega) (h5 (Or.inl c)).1 (fun r _ _ => ⟨fun _ => q0, fun _ => ⟨hx, ih m _ _ (by omega) (h5 (Or.inl c)).2 (fun r _ _ => ⟨fun _ => q0, fun _ => q1⟩)⟩⟩)⟩, fun _ => ⟨fun c => ⟨hx, ih m _ _ (by omega) (h5 (Or.inr c)).1 (fun r _ _ => ⟨fun _ => q1, fun _ => ⟨hx, ih m _ _ (by omega) (h5 (Or.inr c)).2 (fun r _ _ => ⟨fun _ => q0, fun _ => q1⟩)⟩⟩)⟩, fun _ => ⟨hx, fun _ => q0, fun _ => q1⟩⟩⟩⟩
/-! cutting into words -/
theorem mb_zero {w : MW} {v : Int32} (hv : v.toInt = 0) : MB (sI w 147 4 v) := by
  intro i h0 h1
  have a1 : (sI w 147 4 v).1 147 4 = v := rfl
  rw [a1] at h1
  omega
theorem mk_zero {w : MW} {a v : Int32} (hv : v.toInt = 0) : MK a (sI w 147 4 v) := by
  intro i h0 h1
  have a1 : (sI w 147 4 v).1 147 4 = v := rfl
  rw [a1] at h1
  omega
def cuW (w : MW) (x e : Int32) : MW := sI (sI (sI w 149 ((w.1 147 4).toInt.toNat) x) 150 ((w.1 147 4).toInt.toNat) e) 147 4 ((w.1 147 4) + (1 : Int32))
theorem cuw_149 {w : MW} {x e : Int32} (j : Nat) : (cuW w x e).1 149 j = if j = (w.1 147 4).toInt.toNat then x else w.1 149 j := by
  unfold cuW
  rw [sI_at, if_neg (fun e => absurd e.1 (by decide)), sI_at, if_neg (fun e => absurd e.1 (by decide)), sI_at]
  by_cases h : j = (w.1 147 4).toInt.toNat
  · rw [if_pos ⟨rfl, h⟩, if_pos h]
  · rw [if_neg (fun e => h e.2), if_neg h]
theorem cuw_150 {w : MW} {x e : Int32} (j : Nat) : (cuW w x e).1 150 j = if j = (w.1 147 4).toInt.toNat then e else w.1 150 j := by
  unfold cuW
  rw [sI_at, if_neg (fun e => absurd e.1 (by decide)), sI_at]
  by_cases h : j = (w.1 147 4).toInt.toNat
  · rw [if_pos ⟨rfl, h⟩, if_pos h]
  · rw [if_neg (fun e => h e.2), if_neg h, sI_at, if_neg (fun e => absurd e.1 (by decide))]
theorem cu_step {w : MW} {x e : Int32} (hB : MB w) (hK : MK x w) (hx : x.toInt < e.toInt) (h0 : 0 ≤ (w.1 147 4).toInt) (h1 : (w.1 147 4).toInt ≤ 4020) : MB (cuW w x e) ∧ MK e (cuW w x e) := by
  have e4 := ti_add2 (Eq.refl (w.1 147 4).toInt) (by decide : ((1 : Int32)).toInt = 1) (by omega) (by omega)
  have a1 : (cuW w x e).1 147 4 = (w.1 147 4) + (1 : Int32) := rfl
  refine ⟨?_, ?_⟩
  · intro i i0 i1
    rw [a1, e4] at i1 ⊢
    rw [cuw_149, cuw_150]
    by_cases c : i.toInt = (w.1 147 4).toInt
    · have q : i.toInt.toNat = (w.1 147 4).toInt.toNat := by rw [c]
      rw [if_pos q, if_pos q]
      exact ⟨hx, fun z => by omega⟩
    · have q : i.toInt.toNat ≠ (w.1 147 4).toInt.toNat := by omega
      rw [if_neg q, if_neg q]
      have h2 := hB i i0 (by omega)
      refine ⟨h2.1, fun z => ?_⟩
      rw [cuw_149]
      by_cases c2 : i.toInt + 1 = (w.1 147 4).toInt
      · rw [if_pos (by rw [c2])]
        exact hK i i0 (by omega)
      · rw [if_neg (by omega)]
        exact h2.2 (by omega)
  · intro i i0 i1
    rw [a1, e4] at i1
    rw [cuw_150]
    by_cases c : i.toInt = (w.1 147 4).toInt
    · rw [if_pos (by rw [c])]
      omega
    · rw [if_neg (by omega)]
      have := hK i i0 (by omega)
      omega
theorem mk_le {w : MW} {a b : Int32} (h : MK a w) (hab : a.toInt ≤ b.toInt) : MK b w := fun i h0 h1 => by have := h i h0 h1; omega
