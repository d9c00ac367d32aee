/-! the class reads interlocks -/
theorem rr_x {w : MW} {rs : List Rw} {i : Nat} {Q : MW → Prop} (hI : BND w) (h : WSt w i) (h17 : (w.1 99 17).toInt < 0) (i5 : i ≤ 4400) (hR : RosC w rs) (c40 : rs.length < 40) (hl : (cds rs).length ≤ lwn (cf w) (w.1 1 2).toInt i) (hQ : ∀ w' q, BND w' → FR lro w w' → RowS (cf w) (w.1 1 2).toInt i q → OuR w' rs q → (q.1 = true → q.2.2 ≤ 4001 ∧ (cds (rs ++ [q.2.1])).length ≤ lwn (cf w) (w.1 1 2).toInt q.2.2) → Q w') : p_Ro_readRows99 w Q := by
  obtain ⟨hC, gc, h15, hO⟩ := hR
  have b0 := bd_99_0 hI
  have gi : 0 ≤ (w.1 99 0).toInt ∧ (w.1 99 0).toInt < 40 := ⟨b0.1, by omega⟩
  have n0 : (w.1 99 0).toInt.toNat = rs.length := by omega
  refine Eq.mpr (p_Ro_readRows99.eq_1 _ _) ⟨fun _ => ⟨gi, gi, gi, gi, gi, ?_⟩, fun z => absurd gi.2 z⟩
  rw [n0, nar0z]
  have B1 : BND (sI (sI (sI (sI (sI w 100 rs.length 0) 101 rs.length 0) 102 rs.length 0) 103 rs.length 0) 104 rs.length 0) := wbd_104 (wbd_103 (wbd_102 (wbd_101 (wbd_100 hI _ (by decide) (by decide)) _ (by decide) (by decide)) _ (by decide) (by decide)) _) _ (by decide) (by decide)
  have F1 : FR [(100, none), (101, none), (102, none), (103, none), (104, none)] w (sI (sI (sI (sI (sI w 100 rs.length 0) 101 rs.length 0) 102 rs.length 0) 103 rs.length 0) 104 rs.length 0) := FR.I (FR.I (FR.I (FR.I (FR.I (FR.refl _ w) rfl) rfl) rfl) rfl) rfl
  have k0 : ∀ t, (sI (sI (sI (sI (sI w 100 rs.length 0) 101 rs.length 0) 102 rs.length 0) 103 rs.length 0) 104 rs.length 0).1 100 t = if t = rs.length then 0 else w.1 100 t := fun t => by
    rw [sI_oth _ _ _ _ _ _ (by decide), sI_oth _ _ _ _ _ _ (by decide), sI_oth _ _ _ _ _ _ (by decide), sI_oth _ _ _ _ _ _ (by decide), sI_if]
  have k1 : ∀ t, (sI (sI (sI (sI (sI w 100 rs.length 0) 101 rs.length 0) 102 rs.length 0) 103 rs.length 0) 104 rs.length 0).1 101 t = if t = rs.length then 0 else w.1 101 t := fun t => by
    rw [sI_oth _ _ _ _ _ _ (by decide), sI_oth _ _ _ _ _ _ (by decide), sI_oth _ _ _ _ _ _ (by decide), sI_if, sI_oth _ _ _ _ _ _ (by decide)]
  have k2 : ∀ t, (sI (sI (sI (sI (sI w 100 rs.length 0) 101 rs.length 0) 102 rs.length 0) 103 rs.length 0) 104 rs.length 0).1 102 t = if t = rs.length then 0 else w.1 102 t := fun t => by
    rw [sI_oth _ _ _ _ _ _ (by decide), sI_oth _ _ _ _ _ _ (by decide), sI_if, sI_oth _ _ _ _ _ _ (by decide), sI_oth _ _ _ _ _ _ (by decide)]
  have k3 : ∀ t, (sI (sI (sI (sI (sI w 100 rs.length 0) 101 rs.length 0) 102 rs.length 0) 103 rs.length 0) 104 rs.length 0).1 103 t = if t = rs.length then 0 else w.1 103 t := fun t => by
    rw [sI_oth _ _ _ _ _ _ (by decide), sI_if, sI_oth _ _ _ _ _ _ (by decide), sI_oth _ _ _ _ _ _ (by decide), sI_oth _ _ _ _ _ _ (by decide)]
  have k4 : ∀ t, (sI (sI (sI (sI (sI w 100 rs.length 0) 101 rs.length 0) 102 rs.length 0) 103 rs.length 0) 104 rs.length 0).1 104 t = if t = rs.length then 0 else w.1 104 t := fun t => by
    rw [sI_if, sI_oth _ _ _ _ _ _ (by decide), sI_oth _ _ _ _ _ _ (by decide), sI_oth _ _ _ _ _ _ (by decide), sI_oth _ _ _ _ _ _ (by decide)]
  generalize (sI (sI (sI (sI (sI w 100 rs.length 0) 101 rs.length 0) 102 rs.length 0) 103 rs.length 0) 104 rs.length 0) = w1 at *
  have S1 := wst_fr h F1 rfl
  have cn1 := cf_n F1 rfl
  have O1 : ∀ (r : Nat) (x : Rw), rs[r]? = some x → RwC w1 r (cds (rs.take r)).length x := roc_tr hO (fun kk t h1 h2 lt => by
    rcases k105 h1 h2 with rfl | rfl | rfl | rfl | rfl | rfl
    · rw [k0, if_neg (by omega)]
    · rw [k1, if_neg (by omega)]
    · rw [k2, if_neg (by omega)]
    · rw [k3, if_neg (by omega)]
    · rw [k4, if_neg (by omega)]
    · exact (F1 105 t rfl).1) (fun t _ => (F1 106 t rfl).1)
  have Z1 : Z0 w1 rs i := ⟨S1, by rw [(F1 99 17 rfl).1]; exact h17, by rw [(F1 99 15 rfl).1]; exact h15, by rw [(F1 99 0 rfl).1]; exact hC, O1, by rw [k0, if_pos rfl], by rw [k1, if_pos rfl], by rw [k2, if_pos rfl], by rw [k4, if_pos rfl], cod_fr gc F1 rfl⟩
  have G1 : FR lro w w1 := FR.tr (FR.refl _ w) F1 rfl
  have C1 : (w1.1 99 0).toInt < 40 := by rw [(F1 99 0 rfl).1]; omega
  refine tkw_6 B1 S1 (by omega) (fun _ q w7 B7 F7 S7 => ?_) (fun n17 q => ?_) (fun z => by rw [(F1 99 17 rfl).1] at z; omega)
  · rw [cn1.1, cn1.2] at q
    have cn7 := cf_n (FR.tr G1 F7 rfl) rfl
    have ln := wq_len q
    rw [ltln] at ln
    have i4 := i_le hI (i := i) (by omega)
    have G7 : FR lro w w7 := G1.tr F7 rfl
    have C7 : (w7.1 99 0).toInt = (rs.length : Int) := by rw [(F7 99 0 rfl).1]; exact Z1.2.2.2.1
    have n7 : (w7.1 99 17).toInt < 0 := by rw [(F7 99 17 rfl).1]; exact Z1.2.1
    refine ra_x B7 S7 n7 (by omega) C7 c40 (by rw [(F7 103 _ rfl).1, k3, if_pos rfl]) (fun w8 B8 F8 U8 => ?_)
    have aw := acF_w (f := cf w) (n := (w.1 1 2).toInt) 10 [] (i + 1)
    rw [cn7.1, cn7.2] at U8
    have G8 : FR lro w w8 := G7.tr F8 rfl
    have cn8 := cf_n G8 rfl
    obtain ⟨S8, i8, o8, U8⟩ := U8
    rcases U8 with ⟨ok, n8, bt⟩ | ⟨nk, e17⟩
    · have ww := aw.1 ok
      have lnw2 := wq_len ww
      rw [ltln] at lnw2
      have a4 := i_le hI (i := (acF (cf w) (w.1 1 2).toInt 10 [] (i + 1)).2.2) (by omega)
      have Z8 : Z0 w8 rs (acF (cf w) (w.1 1 2).toInt 10 [] (i + 1)).2.2 := by
        obtain ⟨_, _, z15, zC, zO, z0, z1, z2, z4, zc⟩ := Z1
        refine ⟨S8, n8, by rw [(F8 99 15 rfl).1, (F7 99 15 rfl).1]; exact z15, by rw [(F8 99 0 rfl).1]; exact C7, roc_tr zO (fun kk t h1 h2 lt => ?_) (fun t _ => by rw [(F8 106 t rfl).1, (F7 106 t rfl).1]), by rw [(F8 100 _ rfl).1, (F7 100 _ rfl).1]; exact z0, by rw [(F8 101 _ rfl).1, (F7 101 _ rfl).1]; exact z1, by rw [(F8 102 _ rfl).1, (F7 102 _ rfl).1]; exact z2, by rw [(F8 104 _ rfl).1, (F7 104 _ rfl).1]; exact z4, cod_fr (cod_fr zc F7 rfl) F8 rfl⟩
        rcases k105 h1 h2 with rfl | rfl | rfl | rfl | rfl | rfl
        · rw [(F8 100 t rfl).1, (F7 100 t rfl).1]
        · rw [(F8 101 t rfl).1, (F7 101 t rfl).1]
        · rw [(F8 102 t rfl).1, (F7 102 t rfl).1]
        · rw [o8 t (by omega), (F7 103 t rfl).1]
        · rw [(F8 104 t rfl).1, (F7 104 t rfl).1]
        · rw [(F8 105 t rfl).1, (F7 105 t rfl).1]
      have lm : lwn (cf w) (w.1 1 2).toInt i ≤ lwn (cf w) (w.1 1 2).toInt (acF (cf w) (w.1 1 2).toInt 10 [] (i + 1)).2.2 := lw_le (by omega)
      refine gtl B8 Z8 bt (by rw [cn8.1, cn8.2]; exact ww) (by omega) c40 (by rw [cn8.1, cn8.2]; omega) (fun w' q' r B' F' hk eq U' b' => ?_)
      rw [cn8.1, cn8.2] at hk eq b'
      refine hQ w' q' B' (G8.tr F' rfl) ?_ U' b'
      unfold RowS
      rw [if_pos q, if_pos ok]
      exact ⟨r, hk, eq⟩
    · refine tlr_b B8 S8 (by omega) (by omega) (by rw [(F8 99 0 rfl).1]; omega) (fun w' B' F' e' => hQ w' (rwF (acF (cf w) (w.1 1 2).toInt 10 [] (i + 1)).2.2) B' (G8.tr F' rfl) ?_ (ou_rF (by rw [e']; exact e17)) (fun z => absurd (show false = true from z) (by decide)))
      unfold RowS
      rw [if_pos q, if_neg (by rw [nk]; decide)]
  · rw [cn1.1, cn1.2] at q
    have F7 : FR [(99, some 17)] w1 (sI w1 99 17 (w1.1 99 14)) := FR.I (FR.refl _ w1) rfl
    have B7 : BND (sI w1 99 17 (w1.1 99 14)) := wbd_99_17 B1
    have e7 : ((sI w1 99 17 (w1.1 99 14)).1 99 17).toInt = (i : Int) := by rw [sI_same]; exact S1.2.2.1
    generalize (sI w1 99 17 (w1.1 99 14)) = w7 at *
    refine ra_b (by omega) (tlr_b B7 (wst_fr S1 F7 rfl) (by omega) (by omega) (by rw [(F7 99 0 rfl).1]; exact C1) (fun w' B' F' e' => hQ w' (rwF i) B' ((G1.tr F7 rfl).tr F' rfl) ?_ (ou_rF (by rw [e']; exact e7)) (fun z => absurd (show false = true from z) (by decide))))
    unfold RowS
    rw [if_neg (by rw [q]; decide)]
/-- all rows from word i on: r the word that is wrong, or -1 -/
def RdQ (f : Int → Int) (n : Int) : Nat → List Rw → Nat → Int → List Rw → Prop
  | 0, _, _, _, _ => False
  | k + 1, rs, i, r, rs' => (n ≤ wat f n i ∧ r = -1 ∧ rs' = rs) ∨ (wat f n i < n ∧ rs.length = 40 ∧ r = (i : Int) ∧ rs' = []) ∨ (wat f n i < n ∧ rs.length < 40 ∧ ∃ q, RowS f n i q ∧ ((q.1 = false ∧ r = (q.2.2 : Int) ∧ rs' = []) ∨ (q.1 = true ∧ RdQ f n k (rs ++ [q.2.1]) q.2.2 r rs')))
theorem row_det {f : Int → Int} {n : Int} {i : Nat} {q q' : Bool × Rw × Nat} (h : RowS f n i q) (h' : RowS f n i q') : q = q' := by
  unfold RowS at *
  by_cases c : wq f n i (ltr 6 3) = true
  · rw [if_pos c] at h h'
    by_cases d : (acF f n 10 [] (i + 1)).1 = true
    · rw [if_pos d] at h h'
      obtain ⟨r, ⟨k, hk⟩, e⟩ := h
      obtain ⟨r', ⟨k', hk'⟩, e'⟩ := h'
      rw [e, e', sp_det k k' 2 0 [] 0 _ r r' hk hk']
    · rw [if_neg d] at h h'
      rw [h, h']
  · rw [if_neg c] at h h'
    rw [h, h']
theorem rds_det {f : Int → Int} {n : Int} : ∀ (k k' : Nat) (rs : List Rw) (i : Nat) (r r' : Int) (x x' : List Rw), RdQ f n k rs i r x → RdQ f n k' rs i r' x' → r = r' ∧ x = x' := by
  intro k
  induction k with
  | zero => intro k' rs i r r' x x' h; exact absurd h (fun z => z)
  | succ k ih =>
    intro k' rs i r r' x x' h h'
    cases k' with
    | zero => exact absurd h' (fun z => z)
    | succ k' =>
      rcases h with ⟨a, b, c⟩ | ⟨a, b, c, d⟩ | ⟨a, b, q, hq, h⟩
      · rcases h' with ⟨a', b', c'⟩ | ⟨a', _⟩ | ⟨a', _⟩
        · exact ⟨b.trans b'.symm, c.trans c'.symm⟩
        · omega
        · omega
      · rcases h' with ⟨a', _⟩ | ⟨a', b', c', d'⟩ | ⟨a', b', _⟩
        · omega
        · exact ⟨c.trans c'.symm, d.trans d'.symm⟩
        · omega
      · rcases h' with ⟨a', _⟩ | ⟨a', b', _⟩ | ⟨a', b', q', hq', h'⟩
        · omega
        · omega
        · have e := row_det hq hq'
          rw [← e] at h'
          rcases h with ⟨u, v, s⟩ | ⟨u, v⟩
          · rcases h' with ⟨u', v', s'⟩ | ⟨u', _⟩
            · exact ⟨v.trans v'.symm, s.trans s'.symm⟩
            · rw [u] at u'
              exact absurd u' (by decide)
          · rcases h' with ⟨u', _⟩ | ⟨_, v'⟩
            · rw [u] at u'
              exact absurd u' (by decide)
            · exact ih k' _ _ _ _ _ _ v v'
theorem rd_41 {w0 : MW} {E : MW → Prop} {Q : Int32 → MW → Prop} (hE : ∀ w' (r : Int) rs', BND w' → FR lro w0 w' → (∃ k, RdQ (cf w0) (w0.1 1 2).toInt k [] 0 r rs') → ((r = -1 ∧ (w'.1 99 17).toInt < 0 ∧ RosC w' rs') ∨ (0 ≤ r ∧ (w'.1 99 17).toInt = r)) → E w') (m : Nat) : ∀ (w : MW) (rs : List Rw) (i : Nat), BND w → FR lro w0 w → WSt w i → (w.1 99 17).toInt < 0 → i ≤ 4400 → RosC w rs → rs.length ≤ 40 → (cds rs).length ≤ lwn (cf w0) (w0.1 1 2).toInt i → (∀ r x, (∃ k, RdQ (cf w0) (w0.1 1 2).toInt k rs i r x) → ∃ k, RdQ (cf w0) (w0.1 1 2).toInt k [] 0 r x) → 42 - rs.length < m → q_Ro_reads99_1_41 E Q m (nI rs.length) w := by
  induction m with
  | zero => intros; omega
  | succ m ih =>
    intro w rs i hI hF h h17 i5 hR c40 hl hc hm
    have cn := cf_n hF rfl
    have ti : (nI rs.length).toInt = (rs.length : Int) := nI_toInt (by omega)
    rw [q_Ro_reads99_1_41.eq_2]
    refine ⟨fun z => by omega, fun _ => ⟨fun z => by omega, fun _ => ⟨fun z => ?_, fun z => ?_⟩⟩⟩
    · rw [h.1, cn.1, cn.2] at z
      exact hE w (-1) rs hI hF (hc _ _ ⟨1, Or.inl ⟨z, rfl, rfl⟩⟩) (Or.inl ⟨rfl, h17, hR⟩)
    rw [h.1, cn.1, cn.2] at z
    by_cases l40 : rs.length < 40
    · refine rr_x hI h h17 i5 hR l40 (by rw [cn.1, cn.2]; exact hl) (fun w' q B' F' S' U' b' => ?_)
      rw [cn.1, cn.2] at S' b'
      have G' : FR lro w0 w' := hF.tr F' rfl
      cases hq : q.1 with
      | false =>
        have e17 := U'.2 hq
        obtain ⟨m', em⟩ : ∃ m', m = m' + 1 := ⟨m - 1, by omega⟩
        rw [em, q_Ro_reads99_1_41.eq_2]
        have fin : E w' := hE w' (q.2.2 : Int) [] B' G' (hc _ _ ⟨1, Or.inr (Or.inr ⟨by omega, l40, q, S', Or.inl ⟨hq, rfl, rfl⟩⟩)⟩) (Or.inr ⟨by omega, e17⟩)
        exact ⟨fun _ => fin, fun _ => ⟨fun _ => fin, fun y => absurd (by omega) y⟩⟩
      | true =>
        have u := U'.1 hq
        have bb := b' hq
        have el : (rs ++ [q.2.1]).length = rs.length + 1 := by
          rw [List.length_append]
          rfl
        rw [nI_1, ← el]
        refine ih w' (rs ++ [q.2.1]) q.2.2 B' G' u.1 u.2.1 (by omega) u.2.2 (by omega) bb.2 (fun r x hk => hc r x ?_) (by omega)
        obtain ⟨k, hk⟩ := hk
        exact ⟨k + 1, Or.inr (Or.inr ⟨by omega, l40, q, S', Or.inr ⟨hq, hk⟩⟩)⟩
    · have hC := hR.1
      refine Eq.mpr (p_Ro_readRows99.eq_1 _ _) ⟨fun y => by omega, fun _ => flr_x h17 ?_⟩
      have F1 : FR [(99, some 17)] w (sI w 99 17 (w.1 99 14)) := FR.I (FR.refl _ w) rfl
      have B1 : BND (sI w 99 17 (w.1 99 14)) := wbd_99_17 hI
      have e1 : ((sI w 99 17 (w.1 99 14)).1 99 17).toInt = (i : Int) := by rw [sI_same]; exact h.2.2.1
      generalize (sI w 99 17 (w.1 99 14)) = w1 at *
      obtain ⟨m', em⟩ : ∃ m', m = m' + 1 := ⟨m - 1, by omega⟩
      rw [em, q_Ro_reads99_1_41.eq_2]
      have fin : E w1 := hE w1 (i : Int) [] B1 (hF.tr F1 rfl) (hc _ _ ⟨1, Or.inr (Or.inl ⟨by omega, by omega, rfl, rfl⟩)⟩) (Or.inr ⟨by omega, e1⟩)
      exact ⟨fun _ => fin, fun _ => ⟨fun _ => fin, fun y => absurd (by omega) y⟩⟩
def lrq : Pl := (99, some 11) :: lro
/-- the class reads interlocks: r the wrong word, or less than 0 -/
theorem rq_read {w : MW} {Q : Int32 → MW → Prop} (hI : BND w) (hQ : ∀ (a : Int32) (w' : MW) (r : Int) rs', BND w' → FR lrq w w' → (∃ k, RdQ (cf w) (w.1 1 2).toInt k [] 0 r rs') → ((r = -1 ∧ a.toInt < 0 ∧ RosC w' rs') ∨ (0 ≤ r ∧ a.toInt = r)) → Q a w') : p_Ro_reads99_1 w Q := by
  have b2 := bd_1_2 hI
  refine Eq.mpr (p_Ro_reads99_1.eq_1 _ _) ?_
  have F0 : FR lrq w (sI (sI (sI (sI (sI (sI (sR w 99 11 (some 1)) 99 0 0) 99 10 0) 99 17 (-1)) 99 15 0) 99 14 (-1)) 99 13 0) := FR.I (FR.I (FR.I (FR.I (FR.I (FR.I (FR.R (FR.refl _ w) rfl) rfl) rfl) rfl) rfl) rfl) rfl
  have B0 : BND (sI (sI (sI (sI (sI (sI (sR w 99 11 (some 1)) 99 0 0) 99 10 0) 99 17 (-1)) 99 15 0) 99 14 (-1)) 99 13 0) := wbd_99_13 (wbd_99_14 (wbd_99_15 (wbd_99_17 (wbd_99_10 (wbd_99_0 (bnd_R hI) (by decide) (by decide)) (by decide) (by decide))) (by decide) (by decide))) (by decide) (by decide)
  have r0 : (sI (sI (sI (sI (sI (sI (sR w 99 11 (some 1)) 99 0 0) 99 10 0) 99 17 (-1)) 99 15 0) 99 14 (-1)) 99 13 0).2.2 99 11 = some 1 := sRs w 99 11 (some 1)
  have e13 : ((sI (sI (sI (sI (sI (sI (sR w 99 11 (some 1)) 99 0 0) 99 10 0) 99 17 (-1)) 99 15 0) 99 14 (-1)) 99 13 0).1 99 13).toInt = 0 := by rw [sI_same]; exact i_0
  have e14 : (sI (sI (sI (sI (sI (sI (sR w 99 11 (some 1)) 99 0 0) 99 10 0) 99 17 (-1)) 99 15 0) 99 14 (-1)) 99 13 0).1 99 14 = -1 := by rw [sI_ne _ _ _ _ _ (by decide), sI_same]
  have e15 : ((sI (sI (sI (sI (sI (sI (sR w 99 11 (some 1)) 99 0 0) 99 10 0) 99 17 (-1)) 99 15 0) 99 14 (-1)) 99 13 0).1 99 15).toInt = 0 := by rw [sI_ne _ _ _ _ _ (by decide), sI_ne _ _ _ _ _ (by decide), sI_same]; exact i_0
  have e17 : ((sI (sI (sI (sI (sI (sI (sR w 99 11 (some 1)) 99 0 0) 99 10 0) 99 17 (-1)) 99 15 0) 99 14 (-1)) 99 13 0).1 99 17).toInt = -1 := by rw [sI_ne _ _ _ _ _ (by decide), sI_ne _ _ _ _ _ (by decide), sI_ne _ _ _ _ _ (by decide), sI_same]; exact i_m1
  have e10 : ((sI (sI (sI (sI (sI (sI (sR w 99 11 (some 1)) 99 0 0) 99 10 0) 99 17 (-1)) 99 15 0) 99 14 (-1)) 99 13 0).1 99 10).toInt = 0 := by rw [sI_ne _ _ _ _ _ (by decide), sI_ne _ _ _ _ _ (by decide), sI_ne _ _ _ _ _ (by decide), sI_ne _ _ _ _ _ (by decide), sI_same]; exact i_0
  have e0 : ((sI (sI (sI (sI (sI (sI (sR w 99 11 (some 1)) 99 0 0) 99 10 0) 99 17 (-1)) 99 15 0) 99 14 (-1)) 99 13 0).1 99 0).toInt = 0 := by rw [sI_ne _ _ _ _ _ (by decide), sI_ne _ _ _ _ _ (by decide), sI_ne _ _ _ _ _ (by decide), sI_ne _ _ _ _ _ (by decide), sI_ne _ _ _ _ _ (by decide), sI_same]; exact i_0
  generalize (sI (sI (sI (sI (sI (sI (sR w 99 11 (some 1)) 99 0 0) 99 10 0) 99 17 (-1)) 99 15 0) 99 14 (-1)) 99 13 0) = z at *
  have cz := cf_n F0 rfl
  have bz := bd_1_2 B0
  refine nw_x B0 r0 e13 bz.1 (fun w1 B1 F1 a1 b1 c1 => ?_)
  have cn1 := cf_n F1 rfl
  have S1 : WSt w1 0 := by
    refine ⟨?_, ?_, ?_, ((F1 99 11 rfl).2.2).trans r0⟩
    · rw [cn1.1, cn1.2]
      exact a1
    · rw [cn1.1, cn1.2]
      exact b1
    · rw [c1, e14]
      decide
  have R1 : RosC w1 [] := ⟨by rw [(F1 99 0 rfl).1]; exact e0, ⟨by rw [(F1 99 10 rfl).1]; exact e10, fun j x q => (by cases q)⟩, by rw [(F1 99 15 rfl).1]; exact e15, fun r x q => (by cases q)⟩
  have cc : cf w1 = cf w ∧ w1.1 1 2 = w.1 1 2 := ⟨cn1.1.trans cz.1, cn1.2.trans cz.2⟩
  refine rd_41 (w0 := w1) (fun w' r rs' B' F' k q => ?_) FU w1 [] 0 B1 (FR.refl _ w1) S1 (by rw [(F1 99 17 rfl).1]; omega) (by omega) R1 (by decide) (Nat.zero_le _) (fun r x hk => hk) (fu_lt (by decide))
  rw [cc.1, cc.2] at k
  exact hQ _ w' r rs' B' ((F0.tr F1 rfl).tr F' rfl) k q
