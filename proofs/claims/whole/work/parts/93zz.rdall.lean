/-! the class reads all rows -/
/-- what a row that begins at word i is -/
def RowS (f : Int → Int) (n : Int) (i : Nat) (q : Bool × Rw × Nat) : Prop := if wq f n i (ltr 6 3) = true then (if (acF f n 10 [] (i + 1)).1 = true then ∃ r, (∃ k, SP f n k 2 0 [] 0 ((acF f n 10 [] (i + 1)).2.2 + 1) r) ∧ q = (if r.1 = true then tlS f n (acF f n 10 [] (i + 1)).2.1 r.2.1 r.2.2.2 else rwF r.2.2.2) else q = rwF (acF f n 10 [] (i + 1)).2.2) else q = rwF i
theorem acF_w {f : Int → Int} {n : Int} : ∀ (k : Nat) (as : List Int) (i : Nat), ((acF f n k as i).1 = true → wq f n (acF f n k as i).2.2 (ltr 7 4) = true) ∧ i ≤ (acF f n k as i).2.2 := by
  intro k
  induction k with
  | zero => intro as i; exact ⟨fun z => absurd (show false = true from z) (by decide), Nat.le_refl _⟩
  | succ k ih =>
    intro as i
    rw [acF_u]
    by_cases c : ¬ as = [] ∧ wq f n i (ltr 7 4) = true
    · rw [if_pos c]
      exact ⟨fun _ => c.2, Nat.le_refl _⟩
    · rw [if_neg c]
      by_cases d : actw f n i < 0 ∨ as.length = 8 ∨ actw f n i ∈ as
      · rw [if_pos d]
        exact ⟨fun z => absurd (show false = true from z) (by decide), Nat.le_refl _⟩
      · rw [if_neg d]
        have := ih (as ++ [actw f n i]) (i + 1)
        exact ⟨this.1, by omega⟩
theorem lw_le {f : Int → Int} {n : Int} {i j : Nat} (h : i ≤ j) : lwn f n i ≤ lwn f n j := by
  induction h with
  | refl => exact Nat.le_refl _
  | step _ ih => exact Nat.le_trans ih (lw_m _)
theorem rwT_i {w : MW} (hI : BND w) {as c : List Int} {v : Int} {j : Nat} (h : (rwT (cf w) (w.1 1 2).toInt as c v j).1 = true) : (rwT (cf w) (w.1 1 2).toInt as c v j).2.2 ≤ 4001 ∧ j ≤ (rwT (cf w) (w.1 1 2).toInt as c v j).2.2 ∧ (rwT (cf w) (w.1 1 2).toInt as c v j).2.1.2.1 = c := by
  unfold rwT at *
  by_cases q : wq (cf w) (w.1 1 2).toInt j (ltr 14 7) = true
  · rw [if_pos q] at h ⊢
    by_cases q2 : wq (cf w) (w.1 1 2).toInt (j + 1) (ltr 15 1) = true
    · rw [if_pos q2]
      have ln := wq_len q2
      rw [ltln] at ln
      have := i_le hI (i := j + 1) (by omega)
      exact ⟨by show j + 2 ≤ 4001; omega, by show j ≤ j + 2; omega, rfl⟩
    · rw [if_neg q2] at h
      exact absurd (show false = true from h) (by decide)
  · rw [if_neg q] at h ⊢
    by_cases q2 : wq (cf w) (w.1 1 2).toInt j (ltr 15 1) = true
    · rw [if_pos q2]
      have ln := wq_len q2
      rw [ltln] at ln
      have := i_le hI (i := j) (by omega)
      exact ⟨by show j + 1 ≤ 4001; omega, by show j ≤ j + 1; omega, rfl⟩
    · rw [if_neg q2] at h
      exact absurd (show false = true from h) (by decide)
theorem tlS_i {w : MW} (hI : BND w) {as c : List Int} {j : Nat} (h : (tlS (cf w) (w.1 1 2).toInt as c j).1 = true) : (tlS (cf w) (w.1 1 2).toInt as c j).2.2 ≤ 4001 ∧ j ≤ (tlS (cf w) (w.1 1 2).toInt as c j).2.2 ∧ (tlS (cf w) (w.1 1 2).toInt as c j).2.1.2.1 = c := by
  unfold tlS at *
  by_cases q : wq (cf w) (w.1 1 2).toInt j (ltr 13 3) = true
  · rw [if_pos q] at h ⊢
    by_cases q2 : nbv (cf w) (w.1 1 2).toInt (j + 1) 0 3600 < 0
    · rw [if_pos q2] at h
      exact absurd (show false = true from h) (by decide)
    · rw [if_neg q2] at h ⊢
      have := rwT_i hI h
      exact ⟨this.1, by omega, this.2.2⟩
  · rw [if_neg q] at h ⊢
    exact rwT_i hI h
/-- a row is begun -/
def Z0 (w : MW) (rs : List Rw) (j : Nat) : Prop := WSt w j ∧ (w.1 99 17).toInt < 0 ∧ (w.1 99 15).toInt = 0 ∧ (w.1 99 0).toInt = (rs.length : Int) ∧ (∀ (r : Nat) (x : Rw), rs[r]? = some x → RwC w r (cds (rs.take r)).length x) ∧ w.1 100 rs.length = 0 ∧ w.1 101 rs.length = 0 ∧ w.1 102 rs.length = 0 ∧ w.1 104 rs.length = 0 ∧ Cod w 0 (cds rs)
/-- behind the acts -/
theorem gtl {w : MW} {rs : List Rw} {as : List Int} {j : Nat} {Q : MW → Prop} (hI : BND w) (h : Z0 w rs j) (hb : BtS (w.1 103 rs.length) as) (hw : wq (cf w) (w.1 1 2).toInt j (ltr 7 4) = true) (i5 : j ≤ 4500) (c40 : rs.length < 40) (hl : (cds rs).length ≤ lwn (cf w) (w.1 1 2).toInt j) (hQ : ∀ w' q r, BND w' → FR lro w w' → (∃ k, SP (cf w) (w.1 1 2).toInt k 2 0 [] 0 (j + 1) r) → q = (if r.1 = true then tlS (cf w) (w.1 1 2).toInt as r.2.1 r.2.2.2 else rwF r.2.2.2) → OuR w' rs q → (q.1 = true → q.2.2 ≤ 4001 ∧ (cds (rs ++ [q.2.1])).length ≤ lwn (cf w) (w.1 1 2).toInt q.2.2) → Q w') : TLr w Q := by
  obtain ⟨hS, h17, h15, hC, hO, g0, g1, g2, g4, gc⟩ := h
  have b2 := bd_1_2 hI
  refine tkw_7 hI hS (by omega) (fun _ _ w1 B1 F1 S1 => ?_) (fun _ q => by rw [hw] at q; exact absurd q (by decide)) (fun z => by omega)
  have cn1 := cf_n F1 rfl
  have C1 : (w1.1 99 0).toInt = (rs.length : Int) := by rw [(F1 99 0 rfl).1]; exact hC
  have n0 : (w1.1 99 0).toInt.toNat = rs.length := by omega
  have gc1 : Cod w1 0 (cds rs) := cod_fr gc F1 rfl
  have u1 : (w1.1 99 10).toInt = ((cds rs).length : Int) := by
    rw [gc1.1]
    omega
  have b10 := bd_99_10 B1
  refine ⟨⟨by omega, by omega⟩, ?_⟩
  rw [n0]
  have B2 : BND (sI (sI w1 106 rs.length (w1.1 99 10)) 99 16 0) := wbd_99_16 (wbd_106 B1 _ b10.1 b10.2) (by decide) (by decide)
  have F2 : FR [(99, some 16), (106, none)] w1 (sI (sI w1 106 rs.length (w1.1 99 10)) 99 16 0) := FR.I (FR.I (FR.refl _ w1) rfl) rfl
  have k6 : ∀ t, (sI (sI w1 106 rs.length (w1.1 99 10)) 99 16 0).1 106 t = if t = rs.length then w1.1 99 10 else w1.1 106 t := fun t => by
    rw [sI_oth _ _ _ _ _ _ (by decide), sI_if]
  have k16 : ((sI (sI w1 106 rs.length (w1.1 99 10)) 99 16 0).1 99 16).toInt = ((0 : Nat) : Int) := by
    rw [sI_same]
    exact i_0
  generalize (sI (sI w1 106 rs.length (w1.1 99 10)) 99 16 0) = w2 at *
  have FF : FR [(99, some 12), (99, some 13), (99, some 14), (99, some 16), (106, none)] w w2 := (FR.tr (FR.refl _ w) F1 rfl).tr F2 rfl
  have cn2 := cf_n FF rfl
  have S2 := wst_fr S1 F2 rfl
  have gc2 : Cod w2 0 (cds rs) := cod_fr gc1 F2 rfl
  have O2 : ∀ (r : Nat) (x : Rw), rs[r]? = some x → RwC w2 r (cds (rs.take r)).length x := fun r x hx => by
    have lt := (List.getElem?_eq_some_iff.mp hx).1
    have g := hO r x hx
    unfold RwC at *
    have e6r : w2.1 106 r = w.1 106 r := by rw [k6, if_neg (show ¬ r = rs.length by omega), (F1 106 r rfl).1]
    rw [(FF 100 r rfl).1, (FF 101 r rfl).1, (FF 102 r rfl).1, (FF 103 r rfl).1, (FF 104 r rfl).1, (FF 105 r rfl).1, e6r]
    refine ⟨g.1, g.2.1, g.2.2.1, g.2.2.2.1, g.2.2.2.2.1, g.2.2.2.2.2.1, g.2.2.2.2.2.2.1, ?_⟩
    by_cases e : r + 1 = rs.length
    · rw [k6, if_pos e, u1]
      have et : rs = rs.take r ++ [x] := by
        have q := List.take_succ (l := rs) (i := r)
        rw [hx, e, List.take_length] at q
        exact q
      have el : (cds rs).length = (cds (rs.take r)).length + x.2.1.length := by
        have q := congrArg (fun z => (cds z).length) et
        simp only [cds_s, List.length_append] at q
        exact q
      rw [el]
    · rw [k6, if_neg e, (F1 106 (r + 1) rfl).1]
      exact g.2.2.2.2.2.2.2
  have CS2 : CSt w2 0 0 (cds rs) 0 (j + 1) := ⟨S2, by rw [(FF 99 17 rfl).1]; exact h17, by rw [(FF 99 15 rfl).1]; exact h15, k16, gc2⟩
  have lm := lw_m (f := cf w) (n := (w.1 1 2).toInt) j
  refine ror B2 CS2 (by omega) (by omega) (by rw [cn2.1, cn2.2]; omega) (fun w3 r B3 F3 S3 U3 => ?_)
  rw [cn2.1, cn2.2] at S3
  obtain ⟨k, hk⟩ := S3
  have hk2 : SP (cf w) (w.1 1 2).toInt k 2 0 (cds rs ++ []) 0 (j + 1) r := by
    rw [List.append_nil]
    exact hk
  obtain ⟨r0, h0, e0⟩ := sp_pre (cds rs) k 2 0 [] 0 (j + 1) r hk2
  have ri := sp_i _ _ _ _ _ _ _ h0
  have G3 : FR lro w w3 := (FR.tr (FR.refl _ w) FF rfl).tr F3 rfl
  have cn3 := cf_n G3 rfl
  have i3 := U3.2.2.1
  by_cases ok : r0.1 = true
  · rw [preR_t ok] at e0
    rw [e0] at U3 i3
    rcases U3.2.2.2 with ⟨_, C3, t3, l3⟩ | ⟨z, _⟩
    · have mx := lw_max (f := cf w) b2.1 b2.2 r0.2.2.2
      rw [cn3.1, cn3.2] at l3
      have l3' : (cds rs ++ r0.2.1).length ≤ lwn (cf w) (w.1 1 2).toInt r0.2.2.2 := by
        have : 0 + (cds rs ++ r0.2.1).length + 0 ≤ lwn (cf w) (w.1 1 2).toInt r0.2.2.2 := l3
        omega
      have GS3 : GS w3 rs as r0.2.1 0 r0.2.2.2 := ⟨C3.1, C3.2.1, C3.2.2.1, by rw [(F3 99 0 rfl).1, (FF 99 0 rfl).1]; exact hC, roc_tr O2 (fun kk t h1 h2 lt => by
        rcases k105 h1 h2 with rfl | rfl | rfl | rfl | rfl | rfl
        · exact (F3 100 t rfl).1
        · exact (F3 101 t rfl).1
        · exact (F3 102 t rfl).1
        · exact (F3 103 t rfl).1
        · exact (F3 104 t rfl).1
        · exact (F3 105 t rfl).1) (fun t _ => (F3 106 t rfl).1), by rw [(F3 100 _ rfl).1, (FF 100 _ rfl).1]; exact g0, by rw [(F3 101 _ rfl).1, (FF 101 _ rfl).1]; exact g1, by rw [(F3 102 _ rfl).1, (FF 102 _ rfl).1]; exact g2, by rw [(F3 103 _ rfl).1, (FF 103 _ rfl).1]; exact hb, by rw [(F3 104 _ rfl).1, (FF 104 _ rfl).1, g4]; exact i_0, by rw [(F3 106 _ rfl).1, k6, if_pos rfl]; exact u1, C3.2.2.2.2⟩
      have i3' : r0.2.2.2 ≤ 5000 := i3
      refine gtf B3 GS3 (by omega) c40 (by omega) (fun w' B' F' U' => ?_)
      rw [cn3.1, cn3.2] at U'
      refine hQ w' (tlS (cf w) (w.1 1 2).toInt as r0.2.1 r0.2.2.2) r0 B' (G3.tr F' rfl) ⟨k, h0⟩ (by rw [if_pos ok]) U' (fun q => ?_)
      have ti := tlS_i hI q
      refine ⟨ti.1, ?_⟩
      rw [cds_s, ti.2.2]
      exact Nat.le_trans l3' (lw_le ti.2.1)
    · exact absurd (show true = false from z) (by decide)
  · rw [preR_f ok] at e0
    rw [e0] at U3 i3
    have nk : r0.1 = false := by
      cases hh : r0.1 with
      | false => rfl
      | true => exact absurd hh ok
    rcases U3.2.2.2 with ⟨z, _⟩ | ⟨_, e17⟩
    · exact absurd z ok
    · refine tfr_b B3 U3.1 (by omega) (by omega) (by rw [(F3 99 0 rfl).1, (FF 99 0 rfl).1]; omega) (fun w' B' F' e' => hQ w' (rwF r0.2.2.2) r0 B' (G3.tr F' rfl) ⟨k, h0⟩ (by rw [if_neg ok]) (ou_rF (by rw [e']; exact e17)) (fun z => absurd (show false = true from z) (by decide)))
