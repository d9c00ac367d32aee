/-! the reference's run: places are laid -/
def lly : Pl := [(127, some 60), (207, none), (208, none), (209, none), (210, none)]
def o7 (w : MW) (j : Int) : Int := (w.1 207 j.toNat).toInt
def o8 (w : MW) (j : Int) : Int := (w.1 208 j.toNat).toInt
def o9 (w : MW) (j : Int) : Int := (w.1 209 j.toNat).toInt
def o0 (w : MW) (j : Int) : Int := (w.1 210 j.toNat).toInt
def plc (w : MW) : Int := (w.1 127 60).toInt
/-- a place that is laid; v is the tree -/
def POk (v w : MW) (P j : Int) : Prop := (0 ≤ o7 w j ∧ o7 w j < (v.1 129 13).toInt ∧ 10 ≤ Kb v (o7 w j) ∧ Kb v (o7 w j) ≤ 23) ∧ o0 w j = 0 ∧ (o8 w j = -1 ∨ (j < o8 w j ∧ o8 w j < P)) ∧ (o9 w j = -1 ∨ (j < o9 w j ∧ o9 w j < P)) ∧ ((Kb v (o7 w j) = 15 ∨ Kb v (o7 w j) = 16 ∨ Kb v (o7 w j) = 17) → 0 ≤ o8 w j) ∧ (Kb v (o7 w j) = 17 → 0 ≤ o9 w (o8 w j))
/-- below B nothing has changed -/
def UB (B : Int) (w w' : MW) : Prop := ∀ j : Int, 0 ≤ j → j < B → o7 w' j = o7 w j ∧ o8 w' j = o8 w j ∧ o9 w' j = o9 w j ∧ o0 w' j = o0 w j
theorem UB.refl (B : Int) (w : MW) : UB B w w := fun _ _ _ => ⟨rfl, rfl, rfl, rfl⟩
theorem UB.tr {B B2 : Int} {w w1 w2 : MW} (h : UB B w w1) (h2 : UB B2 w1 w2) (hb : B ≤ B2) : UB B w w2 := fun j a b => by
  have p := h j a b
  have q := h2 j a (by omega)
  exact ⟨q.1.trans p.1, q.2.1.trans p.2.1, q.2.2.1.trans p.2.2.1, q.2.2.2.trans p.2.2.2⟩
theorem pok_up {v w w' : MW} {P P' j : Int} (h : POk v w P j) (u : UB P w w') (j0 : 0 ≤ j) (j1 : j < P) (hP : P ≤ P') : POk v w' P' j := by
  have e := u j j0 j1
  unfold POk
  rw [e.1, e.2.1, e.2.2.1, e.2.2.2]
  refine ⟨h.1, h.2.1, by have := h.2.2.1; omega, by have := h.2.2.2.1; omega, h.2.2.2.2.1, fun q => ?_⟩
  have f := h.2.2.2.2.1 (Or.inr (Or.inr q))
  have g := h.2.2.1
  rw [(u (o8 w j) f (by omega)).2.2.1]
  exact h.2.2.2.2.2 q
theorem o9_set {w : MW} {l j : Int} {k : Int32} (l0 : 0 ≤ l) (j0 : 0 ≤ j) : o9 (sI w 209 l.toNat k) j = if j = l then k.toInt else o9 w j := by
  unfold o9
  by_cases c : j = l
  · rw [if_pos c, c, sI_same]
  · rw [if_neg c, sI_ne _ _ _ _ _ (by omega)]
theorem pok_9 {v w : MW} {P j l : Int} {k : Int32} (h : POk v w P j) (j0 : 0 ≤ j) (l0 : 0 ≤ l) (hl : l < k.toInt) (hk : k.toInt < P) : POk v (sI w 209 l.toNat k) P j := by
  have e7 : o7 (sI w 209 l.toNat k) j = o7 w j := rfl
  have e8 : o8 (sI w 209 l.toNat k) j = o8 w j := rfl
  have e0 : o0 (sI w 209 l.toNat k) j = o0 w j := rfl
  unfold POk
  rw [e7, e8, e0]
  refine ⟨h.1, h.2.1, h.2.2.1, ?_, h.2.2.2.2.1, fun q => ?_⟩
  · rw [o9_set l0 j0]
    by_cases c : j = l
    · rw [if_pos c]
      right
      omega
    · rw [if_neg c]
      exact h.2.2.2.1
  · have f := h.2.2.2.2.1 (Or.inr (Or.inr q))
    rw [o9_set l0 f]
    by_cases c : o8 w j = l
    · rw [if_pos c]
      omega
    · rw [if_neg c]
      exact h.2.2.2.2.2 q
theorem pok_8 {v w : MW} {P j i : Int} {k : Int32} (h : POk v w P j) (j0 : 0 ≤ j) (i0 : 0 ≤ i) (hj : j ≠ i) : POk v (sI w 208 i.toNat k) P j := by
  have e8 : o8 (sI w 208 i.toNat k) j = o8 w j := by unfold o8; rw [sI_ne _ _ _ _ _ (by omega)]
  have e7 : o7 (sI w 208 i.toNat k) j = o7 w j := rfl
  have e9 : ∀ x, o9 (sI w 208 i.toNat k) x = o9 w x := fun x => rfl
  have e0 : o0 (sI w 208 i.toNat k) j = o0 w j := rfl
  unfold POk
  rw [e7, e8, e9, e9, e0]
  exact h
/-- what lay gives: from w, node n, cost m -/
def LyO (v : MW) (m : Int) (w : MW) (r : Int32) (w' : MW) : Prop := BND w' ∧ FR lly w w' ∧ r.toInt = plc w ∧ plc w < plc w' ∧ plc w' ≤ plc w + m ∧ UB (plc w) w w' ∧ (∀ j, plc w ≤ j → j < plc w' → POk v w' (plc w') j)
/-- the loop of lay over the kids of n: i its place, last the last kid's -/
def LyL (v : MW) (S : Int) (w : MW) (n i la k : Int) (w' : MW) : Prop := BND w' ∧ FR lly w w' ∧ i = plc w ∧ i < plc w' ∧ plc w' ≤ i + 1 + S ∧ UB i w w' ∧ (∀ j, i < j → j < plc w' → POk v w' (plc w') j) ∧ (o7 w' i = n ∧ o0 w' i = 0 ∧ o9 w' i = -1) ∧ ((la = -1 ∧ o8 w' i = -1) ∨ (i < la ∧ la < plc w' ∧ i < o8 w' i ∧ o8 w' i < plc w')) ∧ ((Kb v n = 15 ∨ Kb v n = 16 ∨ Kb v n = 17) → (k ≤ 1 → la = -1) ∧ (2 ≤ k → 0 ≤ la)) ∧ (Kb v n = 17 → (k = 2 → la = o8 w' i) ∧ (3 ≤ k → 0 ≤ o9 w' (o8 w' i)))
theorem ly_9 {v w w' : MW} {S n i la k : Int} {r : Int32} (h : LyL v S w n i la k w') (i0 : 0 ≤ i) (ha : ¬ la = -1) (hl : la < r.toInt) (hr : r.toInt < plc w') (hk : (Kb v n = 15 ∨ Kb v n = 16 ∨ Kb v n = 17) → 1 ≤ k) : LyL v S w n i r.toInt (k + 1) (sI w' 209 la.toNat r) := by
  have hB := bd_127_60 h.1
  have hp : (w'.1 127 60).toInt = plc w' := rfl
  have L := h.2.2.2.2.2.2.2.2.1
  have e7 : ∀ x, o7 (sI w' 209 la.toNat r) x = o7 w' x := fun x => rfl
  have e8 : ∀ x, o8 (sI w' 209 la.toNat r) x = o8 w' x := fun x => rfl
  have e0 : ∀ x, o0 (sI w' 209 la.toNat r) x = o0 w' x := fun x => rfl
  have ep : plc (sI w' 209 la.toNat r) = plc w' := rfl
  have e9 : ∀ x, 0 ≤ x → o9 (sI w' 209 la.toNat r) x = if x = la then r.toInt else o9 w' x := fun x x0 => o9_set (by omega) x0
  refine ⟨wbd_209 h.1 _ (by omega) (by omega), FR.I h.2.1 rfl, h.2.2.1, by rw [ep]; exact h.2.2.2.1, by rw [ep]; exact h.2.2.2.2.1, fun j j0 j1 => ?_, fun j j0 j1 => ?_, ?_, ?_, fun q => ⟨fun c => by have := hk q; omega, fun _ => by omega⟩, fun q => ⟨fun c => ?_, fun c => ?_⟩⟩
  · have u := h.2.2.2.2.2.1 j j0 j1
    rw [e7, e8, e0, e9 j j0, if_neg (by omega)]
    exact u
  · rw [ep] at j1 ⊢
    exact pok_9 (h.2.2.2.2.2.2.1 j j0 j1) (by omega) (by omega) hl hr
  · rw [e7, e0, e9 i i0, if_neg (by omega)]
    exact h.2.2.2.2.2.2.2.1
  · right
    rw [e8, ep]
    omega
  · have z := (h.2.2.2.2.2.2.2.2.2.1 (Or.inr (Or.inr q))).1 (by omega)
    omega
  · have s8 : 0 ≤ o8 w' i := by omega
    rw [e8, e9 _ s8]
    by_cases c2 : o8 w' i = la
    · rw [if_pos c2]
      omega
    · rw [if_neg c2]
      by_cases c3 : k = 2
      · have z := (h.2.2.2.2.2.2.2.2.2.2 q).1 c3
        omega
      · exact (h.2.2.2.2.2.2.2.2.2.2 q).2 (by omega)
theorem ly_8 {v w w' : MW} {S n i la k : Int} {r : Int32} (h : LyL v S w n i la k w') (i0 : 0 ≤ i) (ha : la = -1) (hl : i < r.toInt) (hr : r.toInt < plc w') (hk : (Kb v n = 15 ∨ Kb v n = 16 ∨ Kb v n = 17) → k = 1) : LyL v S w n i r.toInt (k + 1) (sI w' 208 i.toNat r) := by
  have hB := bd_127_60 h.1
  have hp : (w'.1 127 60).toInt = plc w' := rfl
  have e7 : ∀ x, o7 (sI w' 208 i.toNat r) x = o7 w' x := fun x => rfl
  have e9 : ∀ x, o9 (sI w' 208 i.toNat r) x = o9 w' x := fun x => rfl
  have e0 : ∀ x, o0 (sI w' 208 i.toNat r) x = o0 w' x := fun x => rfl
  have ep : plc (sI w' 208 i.toNat r) = plc w' := rfl
  have e8 : ∀ x, 0 ≤ x → x ≠ i → o8 (sI w' 208 i.toNat r) x = o8 w' x := fun x x0 x1 => by unfold o8; rw [sI_ne _ _ _ _ _ (by omega)]
  have e8i : o8 (sI w' 208 i.toNat r) i = r.toInt := by unfold o8; rw [sI_same]
  refine ⟨wbd_208 h.1 _ (by omega) (by omega), FR.I h.2.1 rfl, h.2.2.1, by rw [ep]; exact h.2.2.2.1, by rw [ep]; exact h.2.2.2.2.1, fun j j0 j1 => ?_, fun j j0 j1 => ?_, ?_, ?_, fun q => ⟨fun c => ?_, fun _ => by omega⟩, fun q => ⟨fun c => ?_, fun c => ?_⟩⟩
  · have u := h.2.2.2.2.2.1 j j0 j1
    rw [e7, e9, e0, e8 j j0 (by omega)]
    exact u
  · rw [ep] at j1 ⊢
    exact pok_8 (h.2.2.2.2.2.2.1 j j0 j1) (by omega) i0 (by omega)
  · rw [e7, e0, e9]
    exact h.2.2.2.2.2.2.2.1
  · right
    rw [e8i, ep]
    omega
  · have := hk q
    omega
  · rw [e8i]
  · have := hk (Or.inr (Or.inr q))
    omega
theorem ly_rec {v w w2 w3 : MW} {S m n i la k : Int} {r : Int32} (h : LyL v S w n i la k w2) (i0 : 0 ≤ i) (t : LyO v m w2 r w3) : LyL v (S + m) w n i la k w3 := by
  have h4 := h.2.2.2.1
  have h5 := h.2.2.2.2.1
  have t4 := t.2.2.2.1
  have t5 := t.2.2.2.2.1
  have u := t.2.2.2.2.2.1 i i0 h4
  have L := h.2.2.2.2.2.2.2.2.1
  refine ⟨t.1, h.2.1.tr t.2.1 rfl, h.2.2.1, by omega, by omega, h.2.2.2.2.2.1.tr t.2.2.2.2.2.1 (by omega), fun j j0 j1 => ?_, ?_, ?_, h.2.2.2.2.2.2.2.2.2.1, fun q => ?_⟩
  · by_cases c : j < plc w2
    · exact pok_up (h.2.2.2.2.2.2.1 j j0 c) t.2.2.2.2.2.1 (by omega) c (by omega)
    · exact t.2.2.2.2.2.2 j (by omega) j1
  · rw [u.1, u.2.2.1, u.2.2.2]
    exact h.2.2.2.2.2.2.2.1
  · rw [u.2.1]
    omega
  · have z := h.2.2.2.2.2.2.2.2.2.2 q
    rw [u.2.1]
    refine ⟨z.1, fun c => ?_⟩
    have y := (h.2.2.2.2.2.2.2.2.2.1 (Or.inr (Or.inr q))).2 (by omega)
    rw [(t.2.2.2.2.2.1 (o8 w2 i) (by omega) (by omega)).2.2.1]
    exact z.2 c
theorem ly_skip {v w w2 : MW} {S m n i la k : Int} (h : LyL v S w n i la k w2) (m0 : 0 ≤ m) (hk : (Kb v n = 15 ∨ Kb v n = 16 ∨ Kb v n = 17) → ¬ k = 1) (hk2 : Kb v n = 17 → ¬ k = 2) (k0 : 0 ≤ k) : LyL v (S + m) w n i la (k + 1) w2 :=
  ⟨h.1, h.2.1, h.2.2.1, h.2.2.2.1, by have := h.2.2.2.2.1; omega, h.2.2.2.2.2.1, h.2.2.2.2.2.2.1, h.2.2.2.2.2.2.2.1, h.2.2.2.2.2.2.2.2.1, fun q => ⟨fun c => (h.2.2.2.2.2.2.2.2.2.1 q).1 (by omega), fun c => (h.2.2.2.2.2.2.2.2.2.1 q).2 (by have := hk q; omega)⟩, fun q => ⟨fun c => absurd (by omega) (hk (Or.inr (Or.inr q))), fun c => (h.2.2.2.2.2.2.2.2.2.2 q).2 (by have := hk2 q; have := hk (Or.inr (Or.inr q)); omega)⟩⟩
theorem ly_done {v w w2 : MW} {S C la : Int} {n i : Int32} {k : Int} (h : LyL v S w n.toInt i.toInt la k w2) (hS : 1 + S ≤ C) (i0 : 0 ≤ i.toInt) (n0 : 0 ≤ n.toInt) (n1 : n.toInt < (v.1 129 13).toInt) (k10 : 10 ≤ Kb v n.toInt) (k23 : Kb v n.toInt ≤ 23) (h2 : (Kb v n.toInt = 15 ∨ Kb v n.toInt = 16 ∨ Kb v n.toInt = 17) → 2 ≤ k) (h3 : Kb v n.toInt = 17 → 3 ≤ k) : LyO v C w i w2 := by
  have h3' := h.2.2.1
  have L := h.2.2.2.2.2.2.2.2.1
  have I := h.2.2.2.2.2.2.2.1
  refine ⟨h.1, h.2.1, h.2.2.1, by rw [← h3']; exact h.2.2.2.1, by have := h.2.2.2.2.1; omega, by rw [← h3']; exact h.2.2.2.2.2.1, fun j j0 j1 => ?_⟩
  rw [← h3'] at j0
  by_cases c : j = i.toInt
  · rw [c]
    unfold POk
    rw [I.1, I.2.1]
    refine ⟨⟨n0, n1, k10, k23⟩, rfl, by omega, Or.inl I.2.2, fun q => ?_, fun q => (h.2.2.2.2.2.2.2.2.2.2 q).2 (h3 q)⟩
    have := (h.2.2.2.2.2.2.2.2.2.1 q).2 (h2 q)
    omega
  · exact h.2.2.2.2.2.2.1 j (by omega) j1
theorem ly_n {b w : MW} (hF : FR lly b w) (n : Int) : nd1 w n = nd1 b n := by unfold nd1; rw [(hF 129 12 rfl).1]
theorem ly_K {b w : MW} (hb : BND b) (hF : FR lly b w) (n : Int) : (w.1 131 (nd1 w n)).toInt = Kb (fl b) n := by rw [fl_K hb, ly_n hF, (hF 131 _ rfl).1]
theorem ly_c {b w : MW} (hb : BND b) (hF : FR lly b w) (n : Int) : (w.1 136 (nd1 w n)).toInt = cnt (fl b) n := by
  unfold cnt
  rw [fl_n hb, ly_n hF, (hF 136 _ rfl).1]
  rfl
theorem ly_kd {b w : MW} (hb : BND b) (hF : FR lly b w) (n k : Int) : (kidV w n k).toInt = kidB (fl b) n k := by
  rw [fl_kid hb]
  unfold kidV
  rw [ly_n hF, (hF 129 12 rfl).1, (hF 135 _ rfl).1, (hF 137 _ rfl).1]
theorem ly_a {b w : MW} (hb : BND b) (hF : FR lly b w) (n : Int) : (w.1 135 (nd1 w n)).toInt = ((fl b).1 135 (nb (fl b) n)).toInt := by
  rw [fl_n hb, ly_n hF, (hF 135 _ rfl).1]
  rfl
theorem csum_le {f : Int → Int} (h : ∀ k, 0 ≤ f k) {m n : Nat} (hm : m ≤ n) : csum f m ≤ csum f n := by
  induction n with
  | zero =>
    have : m = 0 := by omega
    rw [this]
    exact Int.le_refl _
  | succ n ih =>
    by_cases c : m = n + 1
    · rw [c]
      exact Int.le_refl _
    · have := ih (by omega)
      have := h (n : Int)
      rw [csum_s]
      omega
/-- what lay at depth d does -/
def LyR (b : MW) (c : Int → Int) (N : Int) (R : MW → Int32 → (Int32 → MW → Prop) → Prop) : Prop := ∀ (m : Int32) (w : MW) (Q : Int32 → MW → Prop), 0 ≤ m.toInt → m.toInt < N → m.toInt < ((fl b).1 129 13).toInt → 10 ≤ Kb (fl b) m.toInt → Kb (fl b) m.toInt ≤ 23 → BND w → FR lly b w → c m.toInt ≤ 500 → plc w + c m.toInt ≤ 501 → (∀ r w', LyO (fl b) (c m.toInt) w r w' → Q r w') → R w m Q
theorem ly_131 {b w : MW} {c : Int → Int} {n i : Int32} {R : MW → Int32 → (Int32 → MW → Prop) → Prop} {E : MW → Prop} {Q : Int32 → MW → Prop} (hb : BND b) (hN : ∀ n, 0 ≤ n → n < ((fl b).1 129 13).toInt → TbN (fl b) n) (hc : CST (fl b) c) (n0 : 0 ≤ n.toInt) (n1 : n.toInt < ((fl b).1 129 13).toInt) (k10 : 10 ≤ Kb (fl b) n.toInt) (k23 : Kb (fl b) n.toInt ≤ 23) (hR : LyR b c n.toInt R) (hw : FR lly b w) (hp : plc w + c n.toInt ≤ 501) (hcn : c n.toInt ≤ 500) (i0 : 0 ≤ i.toInt) (hE : ∀ w', LyO (fl b) (c n.toInt) w i w' → E w') (m : Nat) : ∀ (la k : Int32) (w' : MW), LyL (fl b) (csum (fun k => c (kidB (fl b) n.toInt k)) k.toInt.toNat) w n.toInt i.toInt la.toInt k.toInt w' → 0 ≤ k.toInt → k.toInt ≤ cnt (fl b) n.toInt → (cnt (fl b) n.toInt - k.toInt).toNat < m → q_Mo_lay_131 R n i E Q m la k w' := by
  induction m with
  | zero => intros; omega
  | succ m ih =>
    intro la k w' hL k0 k1 hm
    have hF : FR lly b w' := hw.tr hL.2.1 rfl
    have bv := fl_b hb
    have b13 := bd_129_13 bv
    have b21 := bd_129_21 bv
    have bc := bd_136 bv (nb (fl b) n.toInt)
    have ec : ((fl b).1 136 (nb (fl b) n.toInt)).toInt = cnt (fl b) n.toInt := rfl
    have T := hN n.toInt n0 n1
    have T1 := T.1
    have Z := hc.2.1 n.toInt n0 n1 hcn k10 k23
    have e := nd_ix hL.1 n0 (by omega)
    have en : (((300 : Int32) * (w'.1 129 12)) + n).toInt.toNat = nd1 w' n.toInt := by rw [e]; rfl
    have b12 := bd_129_12 hL.1
    have b60 := bd_127_60 hL.1
    have hpl : (w'.1 127 60).toInt = plc w' := rfl
    have hi := hL.2.2.1
    have h4 := hL.2.2.2.1
    have h5 := hL.2.2.2.2.1
    have Lx := hL.2.2.2.2.2.2.2.2.1
    have fp : ∀ x, 0 ≤ (fun k => c (kidB (fl b) n.toInt k)) x := fun x => hc.1 _
    rw [q_Mo_lay_131.eq_2]
    refine Eq.mpr (p_Mo_kids.eq_1 _ _ _) (Eq.mpr (p_Tx_node1.eq_1 _ _ _) ⟨⟨by omega, by omega⟩, ?_⟩)
    rw [en, ly_c hb hF]
    refine ⟨fun d => hE w' ?_, fun d => ?_⟩
    · have ek : k.toInt.toNat = (cnt (fl b) n.toInt).toNat := by omega
      rw [ek] at hL
      refine ly_done hL Z.1 i0 n0 n1 k10 k23 (fun q => ?_) (fun q => ?_)
      · have := (T.2.2.2.2.2.2.2.2.1 q).1
        omega
      · have := (T.2.2.2.2.2.2.2.2.2.1 q).1
        omega
    · have t := T.2.1 k.toInt k0 (by omega)
      refine g_kid hL.1 n0 (by omega) k0 (by omega) (by rw [ly_a hb hF]; omega) (Eq.mpr (p_Tx_node1.eq_1 _ _ _) ?_)
      have kd := ly_kd hb hF n.toInt k.toInt
      generalize kidV w' n.toInt k.toInt = kd' at *
      have e2 := nd_ix (n := kd') hL.1 (by omega) (by omega)
      have en2 : (((300 : Int32) * (w'.1 129 12)) + kd').toInt.toNat = nd1 w' kd'.toInt := by rw [e2]; rfl
      have s1 := ti_add2 (Eq.refl k.toInt) i_1 (by omega) (by omega)
      have ek : (k + (1 : Int32)).toInt.toNat = k.toInt.toNat + 1 := by omega
      have qk : ((k.toInt.toNat : Nat) : Int) = k.toInt := by omega
      have eS : csum (fun k => c (kidB (fl b) n.toInt k)) (k + (1 : Int32)).toInt.toNat = csum (fun k => c (kidB (fl b) n.toInt k)) k.toInt.toNat + c (kidB (fl b) n.toInt k.toInt) := by rw [ek, csum_s, qk]
      have le := csum_le fp (m := (k + (1 : Int32)).toInt.toNat) (n := (cnt (fl b) n.toInt).toNat) (by omega)
      have ck := hc.1 (kidB (fl b) n.toInt k.toInt)
      have sp := (csum_le fp (m := 0) (n := k.toInt.toNat) (by omega))
      rw [csum_0] at sp
      rw [en2, ly_K hb hF, kd]
      refine ⟨⟨by omega, by omega⟩, fun g => ih la _ w' ?_ (by omega) (by omega) (by omega), fun g => hR kd' w' _ (by omega) (by omega) (by omega) (by rw [kd]; omega) (by rw [kd]; exact t.2.2) hL.1 hF (by rw [kd]; omega) (by rw [kd]; omega) (fun r w3 t3 => ?_)⟩
      · rw [eS, s1]
        refine ly_skip hL ck (fun q c1 => ?_) (fun q c2 => ?_) k0
        · have z := (T.2.2.2.2.2.2.2.2.1 q).2
          have z' : 10 ≤ Kb (fl b) (kidB (fl b) n.toInt 1) := z
          rw [← c1] at z'
          omega
        · have z := (T.2.2.2.2.2.2.2.2.2.1 q).2
          have z' : 10 ≤ Kb (fl b) (kidB (fl b) n.toInt 2) := z
          rw [← c2] at z'
          omega
      · rw [kd] at t3
        have L3 := ly_rec hL i0 t3
        have t3r := t3.2.2.1
        have t34 := t3.2.2.2.1
        have b603 := bd_127_60 t3.1
        have hpl3 : (w3.1 127 60).toInt = plc w3 := rfl
        have Lx3 := L3.2.2.2.2.2.2.2.2.1
        have Lm : (Kb (fl b) n.toInt = 15 ∨ Kb (fl b) n.toInt = 16 ∨ Kb (fl b) n.toInt = 17) → ¬ k.toInt = 0 := fun q c0 => by
          have z := (T.2.2.2.2.2.2.1 (by omega)).2
          have z' : Kb (fl b) (kidB (fl b) n.toInt 0) ≤ 9 := z
          rw [← c0] at z'
          omega
        refine Eq.mpr (p_Mo_hang.eq_1 _ _ _ _ _) ⟨fun a => ⟨⟨by omega, by omega⟩, ih r _ _ ?_ (by omega) (by omega) (by omega)⟩, fun a => ⟨⟨by omega, by omega⟩, ih r _ _ ?_ (by omega) (by omega) (by omega)⟩⟩
        · rw [eS, s1]
          exact ly_9 L3 i0 a (by omega) (by omega) (fun q => by have := Lm q; omega)
        · rw [eS, s1]
          refine ly_8 L3 i0 (by omega) (by omega) (by omega) (fun q => ?_)
          have z1 := (L3.2.2.2.2.2.2.2.2.2.1 q).2
          have := Lm q
          omega
theorem ly_start {v w : MW} {n : Int32} (hI : BND w) (p1 : plc w ≤ 500) (n0 : 0 ≤ n.toInt) (n1 : n.toInt < 300) : LyL v 0 w n.toInt (plc w) (-1) 0 (sI (sI (sI (sI (sI w 127 60 ((w.1 127 60) + (1 : Int32))) 207 ((w.1 127 60).toInt.toNat) n) 210 ((w.1 127 60).toInt.toNat) (vp_nar .boolean (0 : Int32))) 208 ((w.1 127 60).toInt.toNat) (-1)) 209 ((w.1 127 60).toInt.toNat) (-1)) := by
  have b60 := bd_127_60 hI
  have hp : plc w = (w.1 127 60).toInt := rfl
  have s := ti_add2 (Eq.refl (w.1 127 60).toInt) i_1 (by omega) (by omega)
  rw [hp]
  generalize hX : (w.1 127 60).toInt.toNat = X
  have X0 : (X : Int) = (w.1 127 60).toInt := by omega
  refine ⟨wbd_209 (wbd_208 (wbd_210 (wbd_207 (wbd_127_60 hI (by omega) (by omega)) X (by omega) (by omega)) X (by decide) (by decide)) X (by decide) (by decide)) X (by decide) (by decide), FR.I (FR.I (FR.I (FR.I (FR.I (FR.refl lly w) rfl) rfl) rfl) rfl) rfl, hp.symm, ?_, ?_, fun j j0 j1 => ?_, fun j j0 j1 => ?_, ?_, ?_, fun _ => ⟨fun _ => rfl, fun c => by omega⟩, fun _ => ⟨fun c => by omega, fun c => by omega⟩⟩
  · show (w.1 127 60).toInt < ((w.1 127 60) + (1 : Int32)).toInt
    omega
  · show ((w.1 127 60) + (1 : Int32)).toInt ≤ (w.1 127 60).toInt + 1 + 0
    omega
  · have nj : j.toNat ≠ X := by omega
    refine ⟨?_, ?_, ?_, ?_⟩
    · show ((sI w 207 X n).1 207 j.toNat).toInt = _
      rw [sI_ne _ _ _ _ _ nj]
      rfl
    · show ((sI w 208 X (-1)).1 208 j.toNat).toInt = _
      rw [sI_ne _ _ _ _ _ nj]
      rfl
    · show ((sI w 209 X (-1)).1 209 j.toNat).toInt = _
      rw [sI_ne _ _ _ _ _ nj]
      rfl
    · show ((sI w 210 X (vp_nar .boolean (0 : Int32))).1 210 j.toNat).toInt = _
      rw [sI_ne _ _ _ _ _ nj]
      rfl
  · have q : j < ((w.1 127 60) + (1 : Int32)).toInt := j1
    omega
  · refine ⟨?_, ?_, ?_⟩
    · show ((sI w 207 X n).1 207 (w.1 127 60).toInt.toNat).toInt = _
      rw [hX, sI_same]
    · show ((sI w 210 X (vp_nar .boolean (0 : Int32))).1 210 (w.1 127 60).toInt.toNat).toInt = _
      rw [hX, sI_same]
      exact nb_bool0
    · show ((sI w 209 X (-1)).1 209 (w.1 127 60).toInt.toNat).toInt = _
      rw [hX, sI_same]
      exact i_m1
  · left
    refine ⟨rfl, ?_⟩
    show ((sI w 208 X (-1)).1 208 (w.1 127 60).toInt.toNat).toInt = _
    rw [hX, sI_same]
    exact i_m1
theorem dd_ix {w : MW} {n : Int32} (hI : BND w) (n0 : 0 ≤ n.toInt) (n1 : n.toInt < 40) : (((40 : Int32) * (w.1 129 12)) + n).toInt = 40 * (w.1 129 12).toInt + n.toInt := by
  have b := bd_129_12 hI
  have m := ti_mul2 (by decide : ((40 : Int32)).toInt = 40) (Eq.refl (w.1 129 12).toInt) (by omega) (by omega)
  exact ti_add2 m (Eq.refl n.toInt) (by omega) (by omega)
theorem ly_all {b : MW} {c : Int → Int} (hb : BND b) (hN : ∀ n, 0 ≤ n → n < ((fl b).1 129 13).toInt → TbN (fl b) n) (hc : CST (fl b) c) (d : Nat) : LyR b c (d : Int) (pn_Mo_lay d) := by
  induction d with
  | zero => intro m w Q m0 m1; omega
  | succ d ih =>
    intro n w Q n0 nd n1 k10 k23 hI hF hcn hp hQ
    rw [pe_Mo_lay]
    have bv := fl_b hb
    have b13 := bd_129_13 bv
    have Z := hc.2.1 n.toInt n0 n1 hcn k10 k23
    have sp := (csum_le (f := fun k => c (kidB (fl b) n.toInt k)) (fun x => hc.1 _) (m := 0) (n := (cnt (fl b) n.toInt).toNat) (by omega))
    rw [csum_0] at sp
    have b60 := bd_127_60 hI
    have hpl : plc w = (w.1 127 60).toInt := rfl
    have L0 := ly_start (v := fl b) hI (by omega) n0 (by omega)
    have hr : 0 ≤ (w.1 127 60).toInt ∧ (w.1 127 60).toInt < 502 := ⟨by omega, by omega⟩
    have hRd : LyR b c n.toInt (pn_Mo_lay d) := fun m w Q m0 m1 m2 a1 a2 a3 a4 a5 a6 a7 => ih m w Q m0 (by omega) m2 a1 a2 a3 a4 a5 a6 a7
    refine Eq.mpr (pb_Mo_lay.eq_1 _ _ _ _) ⟨hr, hr, hr, hr, Eq.mpr (p_Tx_node1.eq_1 _ _ _) ?_⟩
    generalize (sI (sI (sI (sI (sI w 127 60 ((w.1 127 60) + (1 : Int32))) 207 ((w.1 127 60).toInt.toNat) n) 210 ((w.1 127 60).toInt.toNat) (vp_nar .boolean (0 : Int32))) 208 ((w.1 127 60).toInt.toNat) (-1)) 209 ((w.1 127 60).toInt.toNat) (-1)) = w5 at *
    have F5 : FR lly b w5 := hF.tr L0.2.1 rfl
    have b12 := bd_129_12 L0.1
    have e := nd_ix L0.1 n0 (by omega)
    have en : (((300 : Int32) * (w5.1 129 12)) + n).toInt.toNat = nd1 w5 n.toInt := by rw [e]; rfl
    rw [en, ly_K hb F5]
    refine ⟨⟨by omega, by omega⟩, fun _ => ?_, fun c19 => Eq.mpr (p_Tx_node1.eq_1 _ _ _) ?_⟩
    · refine ly_131 hb hN hc n0 n1 k10 k23 hRd hF hp hcn (by omega) (fun w' t' => hQ _ w' t') FU (-1) 0 w5 ?_ (by decide) (by rw [i_0]; exact (bd_136 bv _).1) (fu_lt (by rw [i_0]; show (((fl b).1 136 (nb (fl b) n.toInt)).toInt - 0).toNat < 100000000000000000000; have := bd_136 bv (nb (fl b) n.toInt); omega))
      rw [i_0, i_m1]
      show LyL (fl b) (csum _ 0) w n.toInt (w.1 127 60).toInt (-1) 0 w5
      rw [csum_0, ← hpl]
      exact L0
    · have D := tn_do bv hN n0 n1 (by omega)
      have en' : numB (fl b) n.toInt = (Int64.toInt32 (w5.2.1 132 (nd1 w5 n.toInt))).toInt := by
        rw [fl_num hb, ly_n F5, (F5 132 _ rfl).2.1]
      rw [en]
      refine ⟨⟨by omega, by omega⟩, ?_⟩
      have ix := dd_ix (n := Int64.toInt32 (w5.2.1 132 (nd1 w5 n.toInt))) L0.1 (by omega) (by omega)
      refine ⟨⟨by omega, by omega⟩, ?_⟩
      have est : (w5.1 143 ((((40 : Int32) * (w5.1 129 12)) + (Int64.toInt32 (w5.2.1 132 (nd1 w5 n.toInt)))).toInt.toNat)).toInt = stB (fl b) (numB (fl b) n.toInt) := by
        unfold stB
        rw [fl_h hb, ix, en', (F5 143 _ rfl).1, (F5 129 12 rfl).1]
        rfl
      generalize (w5.1 143 ((((40 : Int32) * (w5.1 129 12)) + (Int64.toInt32 (w5.2.1 132 (nd1 w5 n.toInt)))).toInt.toNat)) = st at *
      refine g_kid L0.1 (by omega) (by omega) (by decide) (by decide) (by rw [ly_a hb F5, est, i_0]; have := D.2.2.1; omega) ?_
      have kd := ly_kd hb F5 st.toInt (0 : Int32).toInt
      rw [est, i_0] at kd
      rw [est, i_0]
      generalize kidV w5 (stB (fl b) (numB (fl b) n.toInt)) 0 = kd' at *
      have ck := Z.2 (by omega)
      have c0 := hc.1 (kidB (fl b) (stB (fl b) (numB (fl b) n.toInt)) 0)
      have h4 := L0.2.2.2.1
      have h5 := L0.2.2.2.2.1
      refine hRd kd' w5 _ (by omega) (by omega) (by omega) (by rw [kd]; exact D.2.2.2.2.2.1) (by rw [kd]; exact D.2.2.2.2.2.2) L0.1 F5 (by rw [kd]; omega) (by rw [kd]; omega) (fun r21 w21 t21 => ⟨hr, hQ _ _ ?_⟩)
      rw [kd] at t21
      have t3 := t21.2.2.1
      have t4 := t21.2.2.2.1
      have L3 := ly_rec L0 (by omega) t21
      have L4 := ly_8 (r := r21) L3 (by omega) rfl (by omega) (by omega) (fun q => by omega)
      rw [hpl] at L4
      exact ly_done L4 (by omega) (by omega) n0 n1 k10 k23 (fun q => by omega) (fun q => by omega)
