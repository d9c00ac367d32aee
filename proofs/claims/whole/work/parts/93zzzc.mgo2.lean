/-! the reference's next word of a program: the whole -/
theorem lts_n {f : Int → Int} {n : Int} (hf : ∀ p : Int, ¬ (0 ≤ p ∧ p < n) → f p = -1) : ∀ (k : Nat) (p : Int), 0 ≤ p → p ≤ n → p + ((lts f k p).length : Int) ≤ n := by
  intro k
  induction k with
  | zero => intro p _ h; show p + ((0 : Nat) : Int) ≤ n; omega
  | succ k ih =>
    intro p p0 pn
    rw [lts_u]
    by_cases q : ld1 (f p) = true
    · rw [if_pos q, List.length_cons]
      have t := ld1_t.mp q
      have lt : p < n := by
        by_cases u : 0 ≤ p ∧ p < n
        · exact u.2
        · have := hf p u
          omega
      have := ih (p + 1) (by omega) (by omega)
      omega
    · rw [if_neg q]
      show p + ((0 : Nat) : Int) ≤ n
      omega
theorem lts_g (f : Int → Int) : ∀ (k : Nat) (p : Int) (i : Nat) (c : Int), (lts f k p)[i]? = some c → c = f (p + (i : Int)) := by
  intro k
  induction k with
  | zero => intro p i c h; cases h
  | succ k ih =>
    intro p i c h
    rw [lts_u] at h
    by_cases q : ld1 (f p) = true
    · rw [if_pos q] at h
      cases i with
      | zero =>
        have e : f p = c := Option.some.inj h
        rw [← e, show p + ((0 : Nat) : Int) = p by omega]
      | succ i =>
        have t := ih (p + 1) i c h
        rw [t, show p + 1 + (i : Int) = p + ((i + 1 : Nat) : Int) by omega]
    · rw [if_neg q] at h
      cases h
theorem lts_1 {f : Int → Int} {k : Nat} {p : Int} (h : ld1 (f p) = true) : 1 ≤ (lts f (k + 1) p).length := by
  rw [lts_u, if_pos h, List.length_cons]
  omega
def tkm (k : Int) : Int := if k = 32 then 1 else if k = 31 then 2000 else if k ≤ 30 then 1000 + mng k else k
/-- the word t stands in the reference's text -/
def TkM (w : MW) (t : Tk) : Prop := (w.1 129 4).toInt = tkm t.1 ∧ (w.1 129 5).toInt = t.2.1 ∧ (w.1 129 2).toInt = t.2.2.1 ∧ (w.1 129 6).toInt = t.2.2.1 ∧ (t.1 = 31 → (w.2.1 129 8).toInt = t.2.2.2.2.1 ∧ (w.1 129 9).toInt = (if t.2.2.2.2.2 = true then 1 else 0))
def mtl (r8 : Int32) (w27 : MW) (Q : Int32 → MW → Prop) : Prop := (p_Tx_at (sI w27 129 6 (w27.1 129 2)) (w27.1 129 2) (fun r28 w28 => (p_Tx_isLetter w28 r28 (fun r29 w29 => ((¬ r29.toInt = 0 → (Q 0 (sI w29 129 10 (w29.1 129 2)))) ∧ (¬ (¬ r29.toInt = 0) → (p_Tx_isDigit w29 r28 (fun r31 w31 => ((¬ r31.toInt = 0 → (Q 0 (sI w31 129 10 (w31.1 129 2)))) ∧ (¬ (¬ r31.toInt = 0) → ((¬ r28.toInt = 46 → (p_Tx_isLetter w31 r8 (fun r34 w34 => ((r34.toInt = 0 → (Q 1 (sI w34 129 4 2000))) ∧ (¬ (r34.toInt = 0) → (p_Tx_meaning w34  (fun r36 w36 => (Q 1 (sI w36 129 4 ((1000 : Int32) + r36)))))))))) ∧ (¬ (¬ r28.toInt = 46) → (Q 0 (sI w31 129 10 (w31.1 129 2)))))))))))))))
theorem mt_x {w : MW} {f : Int → Int} {n e : Int} {r8 : Int32} {Q : Int32 → MW → Prop} (X : TXm w f n) (hI : BND w) (he : (w.1 129 2).toInt = e) (h0 : bd1 (f e) = true → ∀ w', BND w' → FR [(129, some 6), (129, some 10)] w w' → (w'.1 129 10).toInt = e → Q 0 w') (h1 : bd1 (f e) = false → ∀ w', BND w' → FR [(129, some 6)] w w' → (w'.1 129 6).toInt = e → p_Tx_isLetter w' r8 (fun r34 w34 => ((r34.toInt = 0 → (Q 1 (sI w34 129 4 2000))) ∧ (¬ (r34.toInt = 0) → (p_Tx_meaning w34  (fun r36 w36 => (Q 1 (sI w36 129 4 ((1000 : Int32) + r36)))))))) ) : mtl r8 w Q := by
  have b2 := bd_129_2 hI
  have B1 : BND (sI w 129 6 (w.1 129 2)) := wbd_129_6 hI b2.1 b2.2
  have F1 : FR [(129, some 6)] w (sI w 129 6 (w.1 129 2)) := FR.I (FR.refl _ w) rfl
  have a6 : ((sI w 129 6 (w.1 129 2)).1 129 6).toInt = e := by rw [sI_same]; exact he
  have a2 : (sI w 129 6 (w.1 129 2)).1 129 2 = w.1 129 2 := sI_ne _ _ _ _ _ (by decide)
  unfold mtl
  generalize (sI w 129 6 (w.1 129 2)) = w1 at *
  have X1 := txm_fr X F1 rfl
  have bad : bd1 (f e) = true → Q 0 (sI w1 129 10 (w1.1 129 2)) := fun b => h0 b _ (wbd_129_10 B1) (FR.I (FR.tr (FR.refl _ w) F1 rfl) rfl) (by rw [sI_same, a2]; exact he)
  refine ta_x X1 he (by omega) (fun y a => ml_x a (fun d => ⟨fun _ => bad (bd1_t.mpr (Or.inl (Or.inl (lt1_t.mp d)))), fun z => absurd i1n z⟩) (fun d => ⟨fun z => absurd i_0 z, fun _ => md_x a (fun d2 => ⟨fun _ => bad (bd1_t.mpr (Or.inl (Or.inr (dg1_t.mp d2)))), fun z => absurd i1n z⟩) (fun d2 => ⟨fun z => absurd i_0 z, fun _ => ⟨fun z => h1 (bd1_f.mpr ⟨⟨lt1_f.mp d, dg1_f.mp d2⟩, ?_⟩) w1 B1 F1 a6, fun z => bad (bd1_t.mpr (Or.inr ?_))⟩⟩)⟩))
  · have a' : y.toInt = f e ∨ (y.toInt = 0 ∧ f e = -1) := a
    omega
  · have a' : y.toInt = f e ∨ (y.toInt = 0 ∧ f e = -1) := a
    omega
def lgt : Pl := [(129, some 2), (129, some 3), (129, some 4), (129, some 5), (129, some 6), (129, some 7), (129, some 8), (129, some 9), (129, some 10)]
theorem mng_b : ∀ k : Int, (1 ≤ k ∧ k ≤ 26) ∨ k = 30 → -1 ≤ mng k ∧ mng k ≤ 46 := by
  intro k h
  have t : ∀ j : Nat, j < 31 → -1 ≤ mng (j : Int) ∧ mng (j : Int) ≤ 46 := by decide +kernel
  have := t k.toNat (by omega)
  rw [show ((k.toNat : Nat) : Int) = k by omega] at this
  exact this
theorem pg_x {w : MW} {f : Int → Int} {n p : Int} {Q : Int32 → MW → Prop} (hI : BND w) (hX : TXm w f n) (hp : (w.1 129 2).toInt = p) (pn : p ≤ n) (h1 : ¬ (wrd f n p).1 = 33 → ∀ w', BND w' → FR lgt w w' → TkM w' (wrd f n p) → w'.1 129 10 = w.1 129 10 → Q 1 w') (h0 : (wrd f n p).1 = 33 → ∀ w', BND w' → FR lgt w w' → (w'.1 129 10).toInt = (wrd f n p).2.1 → Q 0 w') : p_Tx_go w Q := by
  have b2 := bd_129_2 hI
  have n4 := hX.2.1
  refine Eq.mpr (p_Tx_go.eq_1 _ _) (go_0 (w0 := w) hX (fun w7 B7 F7 e7 => ?_) FU w hI (FR.refl _ w) (by omega) rfl (fu_lt (by omega)))
  rw [hp] at e7
  have kb := skp_b f n 4001 p
  have ew : wrd f n p = wrq f n (skp f n 4001 p) := rfl
  rw [ew] at h1 h0
  have q1 := kb.2 pn
  have q0 := kb.1
  generalize skp f n 4001 p = q at *
  have b7 := bd_129_2 B7
  have B8 : BND (sI (sI w7 129 5 (w7.1 129 2)) 129 7 (w7.1 129 3)) := bnd_set (wbd_129_5 B7 b7.1 b7.2) (ti_lo _) (ti_hi _)
  have F8 : FR lgt w (sI (sI w7 129 5 (w7.1 129 2)) 129 7 (w7.1 129 3)) := FR.I (FR.I (FR.tr (FR.refl _ w) F7 rfl) rfl) rfl
  have a2 : ((sI (sI w7 129 5 (w7.1 129 2)) 129 7 (w7.1 129 3)).1 129 2).toInt = q := by rw [sI_ne _ _ _ _ _ (by decide), sI_ne _ _ _ _ _ (by decide)]; exact e7
  have a5 : ((sI (sI w7 129 5 (w7.1 129 2)) 129 7 (w7.1 129 3)).1 129 5).toInt = q := by rw [sI_ne _ _ _ _ _ (by decide), sI_same]; exact e7
  have a10 : (sI (sI w7 129 5 (w7.1 129 2)) 129 7 (w7.1 129 3)).1 129 10 = w.1 129 10 := by rw [sI_ne _ _ _ _ _ (by decide), sI_ne _ _ _ _ _ (by decide)]; exact (F7 129 10 rfl).1
  generalize (sI (sI w7 129 5 (w7.1 129 2)) 129 7 (w7.1 129 3)) = w8 at *
  have X8 := txm_fr hX F8 rfl
  refine ta_x X8 e7 (by omega) (fun y a => ⟨fun c => ?_, fun c => ?_⟩)
  · have a' : y.toInt = f q ∨ (y.toInt = 0 ∧ f q = -1) := a
    rw [a2, X8.1] at c
    have nq : ¬ n ≤ q := by omega
    refine ml_x a (fun d => ⟨fun z => absurd z i1n, fun _ => ?_⟩) (fun d => ⟨fun _ => md_x a (fun d2 => ⟨fun z => absurd z i1n, fun _ => ?_⟩) (fun d2 => ⟨fun _ => ?_, fun z => absurd i_0 z⟩), fun z => absurd i_0 z⟩)
    · have ew : wrq f n q = wrL f q := by
        unfold wrq
        rw [if_neg nq, if_pos d]
      rw [ew] at h1 h0
      have ln := lts_n hX.2.2.2 12 q (by omega) (by omega)
      have ll := (lts_m f 12 q).1
      refine go_124 (w0 := w8) X8 a5 (by omega) (fun w9 B9 F9 e9 => ?_) FU 0 w8 B8 (FR.refl _ w8) (Nat.zero_le _) (by rw [a2]; omega) (by omega) rfl (fu_lt (by decide))
      rw [show q + ((0 : Nat) : Int) = q by omega] at e9
      have F19 : FR lgt w w9 := F8.tr F9 rfl
      have X9 := txm_fr hX F19 rfl
      have g5 : (w9.1 129 5).toInt = q := by rw [(F9 129 5 rfl).1]; exact a5
      have g10 : w9.1 129 10 = w.1 129 10 := ((F9 129 10 rfl).1).trans a10
      refine (mt_x (e := q + ((lts f 12 q).length : Int)) X9 B9 e9 (fun b w' B' F' e' => ?_) (fun b w' B' F' e' => ?_) : mtl y w9 Q)
      · have e : wrL f q = (33, q + ((lts f 12 q).length : Int), q + ((lts f 12 q).length : Int), lts f 12 q, 0, false) := by
          unfold wrL
          rw [if_pos b]
        rw [e] at h0
        exact h0 rfl w' B' (F19.tr F' rfl) e'
      · have e : wrL f q = (kwd (lts f 12 q), q, q + ((lts f 12 q).length : Int), lts f 12 q, 0, false) := by
          unfold wrL
          rw [if_neg (nt b)]
        rw [e] at h1
        have kb := kwd_b (lts f 12 q)
        have X' := txm_fr X9 F' rfl
        have h5 : (w'.1 129 5).toInt = q := by rw [(F' 129 5 rfl).1]; exact g5
        have sg : SgM w' q.toNat (lts f 12 q) := ⟨by rw [h5]; omega, by rw [e']; omega, by omega, fun i c hi => by
          have il : i < (lts f 12 q).length := (List.getElem?_eq_some_iff.mp hi).1
          rw [X'.2.2.1 (q.toNat + i) (by omega), lts_g f 12 q i c hi]
          congr 1
          omega⟩
        refine ml_x a (fun _ => ⟨fun z => absurd z i1n, fun _ => me_x sg (fun r er => ?_)⟩) (fun d3 => absurd d (nt d3))
        have mb := mng_b (kwd (lts f 12 q)) (by omega)
        have et := ti_add2 (show (1000 : Int32).toInt = 1000 by decide) er (by omega) (by omega)
        refine h1 (fun z => by have z' : kwd (lts f 12 q) = 33 := z; omega) _ (wbd_129_4 B' (by omega) (by omega)) (FR.I (F19.tr F' rfl) rfl) ⟨?_, ?_, ?_, ?_, fun z => ?_⟩ ?_
        · rw [sI_same, et]
          show _ = tkm (kwd (lts f 12 q))
          unfold tkm
          rw [if_neg (by omega), if_neg (by omega), if_pos (by omega)]
        · rw [sI_ne _ _ _ _ _ (by decide)]
          exact h5
        · rw [sI_ne _ _ _ _ _ (by decide), (F' 129 2 rfl).1]
          exact e9
        · rw [sI_ne _ _ _ _ _ (by decide)]
          exact e'
        · have z' : kwd (lts f 12 q) = 31 := z
          omega
        · rw [sI_ne _ _ _ _ _ (by decide), (F' 129 10 rfl).1]
          exact g10
    · have ew : wrq f n q = wrN f q := by
        unfold wrq
        rw [if_neg nq, if_neg (nt d), if_pos d2]
      rw [ew] at h1 h0
      refine dg_x B8 X8 a2 a5 (by omega) (fun w9 B9 F9 e8 e2 e9 en => ?_)
      have F19 : FR lgt w w9 := F8.tr F9 rfl
      have X9 := txm_fr hX F19 rfl
      have g5 : (w9.1 129 5).toInt = q := by rw [(F9 129 5 rfl).1]; exact a5
      have g10 : w9.1 129 10 = w.1 129 10 := ((F9 129 10 rfl).1).trans a10
      refine (mt_x (e := dgn f q) X9 B9 e2 (fun b w' B' F' e' => ?_) (fun b w' B' F' e' => ?_) : mtl y w9 Q)
      · have e : wrN f q = (33, dgn f q, dgn f q, [], dgz f q, dgp f q) := by
          unfold wrN
          rw [if_pos b]
        rw [e] at h0
        exact h0 rfl w' B' (F19.tr F' rfl) e'
      · have e : wrN f q = (31, q, dgn f q, [], dgz f q, dgp f q) := by
          unfold wrN
          rw [if_neg (nt b)]
        rw [e] at h1
        refine ml_x a (fun d3 => absurd d3 (nt d)) (fun _ => ⟨fun _ => ?_, fun z => absurd i_0 z⟩)
        refine h1 (by show ¬ (31 : Int) = 33; decide) _ (wbd_129_4 B' (by decide) (by decide)) (FR.I (F19.tr F' rfl) rfl) ⟨?_, ?_, ?_, ?_, fun _ => ⟨?_, ?_⟩⟩ ?_
        · rw [sI_same]
          show (2000 : Int32).toInt = tkm 31
          decide
        · rw [sI_ne _ _ _ _ _ (by decide), (F' 129 5 rfl).1]
          exact g5
        · rw [sI_ne _ _ _ _ _ (by decide), (F' 129 2 rfl).1]
          exact e2
        · rw [sI_ne _ _ _ _ _ (by decide)]
          exact e'
        · show (w'.2.1 129 8).toInt = _
          rw [(F' 129 8 rfl).2.1]
          exact e8
        · rw [sI_ne _ _ _ _ _ (by decide), (F' 129 9 rfl).1]
          exact e9
        · rw [sI_ne _ _ _ _ _ (by decide), (F' 129 10 rfl).1]
          exact g10
    · have s := ti_add2 a2 i_1 (by omega) (by omega)
      have bY := ti_lo y
      have cc := lt1_f.mp d
      have cd := dg1_f.mp d2
      have fin : ∀ v : Int32, (v = w8.1 129 10 ∨ v = w8.1 129 2) → BND (sI (sI (sI (sI w8 129 10 v) 129 2 ((w8.1 129 2) + (1 : Int32))) 129 6 ((w8.1 129 2) + (1 : Int32))) 129 4 y) := fun v hv => by
        have bn := hX.2.2.1 q.toNat (by omega)
        rw [show ((q.toNat : Nat) : Int) = q by omega] at bn
        have b130 := bd_130 hI q.toNat
        exact wbd_129_4 (wbd_129_6 (wbd_129_2 (wbd_129_10 B8) (by omega) (by omega)) (by omega) (by omega)) (by omega) (by omega)
      have good : (f q = 123 ∨ f q = 125 ∨ f q = 40 ∨ f q = 41 ∨ f q = 59 ∨ f q = 43 ∨ f q = 45 ∨ f q = 42 ∨ f q = 47 ∨ f q = 60 ∨ f q = 61 ∨ f q = 62) → q_Tx_go_287 y 1 (w8.1 129 10) w8 Q := fun g => by
        have ew : wrq f n q = (f q, q, q + 1, [], 0, false) := by
          unfold wrq
          rw [if_neg nq, if_neg (nt d), if_neg (nt d2), if_pos (mk1_t.mpr g)]
        rw [ew] at h1
        refine Eq.mpr (q_Tx_go_287.eq_1 _ _ _ _ _) ⟨Or.inr i_1, h1 (fun z => by have z' : f q = 33 := z; omega) _ (fin _ (Or.inl rfl)) (FR.I (FR.I (FR.I (FR.I F8 rfl) rfl) rfl) rfl) ⟨?_, ?_, ?_, ?_, fun z => ?_⟩ ?_⟩
        · rw [sI_same]
          show _ = tkm (f q)
          unfold tkm
          rw [if_neg (by omega), if_neg (by omega), if_neg (by omega)]
          omega
        · rw [sI_ne _ _ _ _ _ (by decide), sI_ne _ _ _ _ _ (by decide), sI_ne _ _ _ _ _ (by decide), sI_ne _ _ _ _ _ (by decide)]
          exact a5
        · rw [sI_ne _ _ _ _ _ (by decide), sI_ne _ _ _ _ _ (by decide), sI_same]
          exact s
        · rw [sI_ne _ _ _ _ _ (by decide), sI_same]
          exact s
        · have z' : f q = 31 := z
          omega
        · rw [sI_ne _ _ _ _ _ (by decide), sI_ne _ _ _ _ _ (by decide), sI_ne _ _ _ _ _ (by decide), sI_same]
          exact a10
      have bad : ¬ (f q = 123 ∨ f q = 125 ∨ f q = 40 ∨ f q = 41 ∨ f q = 59 ∨ f q = 43 ∨ f q = 45 ∨ f q = 42 ∨ f q = 47 ∨ f q = 60 ∨ f q = 61 ∨ f q = 62) → q_Tx_go_287 y 0 (w8.1 129 2) w8 Q := fun g => by
        have ew : wrq f n q = (33, q, q + 1, [], 0, false) := by
          unfold wrq
          rw [if_neg nq, if_neg (nt d), if_neg (nt d2), if_neg (nt (mk1_f.mpr g))]
        rw [ew] at h0
        refine Eq.mpr (q_Tx_go_287.eq_1 _ _ _ _ _) ⟨Or.inl i_0, h0 rfl _ (fin _ (Or.inr rfl)) (FR.I (FR.I (FR.I (FR.I F8 rfl) rfl) rfl) rfl) ?_⟩
        rw [sI_ne _ _ _ _ _ (by decide), sI_ne _ _ _ _ _ (by decide), sI_ne _ _ _ _ _ (by decide), sI_same]
        exact a2
      exact ⟨fun d => good (by omega), fun d0 => ⟨fun d => good (by omega), fun d1 => ⟨fun d => good (by omega), fun d2 => ⟨fun d => good (by omega), fun d3 => ⟨fun d => good (by omega), fun d4 => ⟨fun d => good (by omega), fun d5 => ⟨fun d => good (by omega), fun d6 => ⟨fun d => good (by omega), fun d7 => ⟨fun d => good (by omega), fun d8 => ⟨fun d => good (by omega), fun d9 => ⟨fun d => good (by omega), fun d10 => ⟨fun d => bad (by omega), fun d => good (by omega)⟩⟩⟩⟩⟩⟩⟩⟩⟩⟩⟩⟩
  · rw [a2, X8.1] at c
    have cq := Classical.not_not.mp c
    have ew : wrq f n q = (32, q, q, [], 0, false) := by
      unfold wrq
      rw [if_pos (by omega)]
    rw [ew] at h1
    refine h1 (by show ¬ (32 : Int) = 33; decide) _ (wbd_129_4 (wbd_129_6 B8 (by omega) (by omega)) (by decide) (by decide)) (FR.I (FR.I F8 rfl) rfl) ⟨?_, ?_, ?_, ?_, fun z => absurd z (by show ¬ (32 : Int) = 31; decide)⟩ ?_
    · rw [sI_same]
      show (1 : Int32).toInt = tkm 32
      decide
    · rw [sI_ne _ _ _ _ _ (by decide), sI_ne _ _ _ _ _ (by decide)]
      exact a5
    · rw [sI_ne _ _ _ _ _ (by decide), sI_ne _ _ _ _ _ (by decide)]
      exact a2
    · rw [sI_ne _ _ _ _ _ (by decide), sI_same]
      exact a2
    · rw [sI_ne _ _ _ _ _ (by decide), sI_ne _ _ _ _ _ (by decide)]
      exact a10
