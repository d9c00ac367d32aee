/-! the class takes a program: what stands then -/
theorem pgv_f {l : Pl} {w w' : MW} {ns : List Nod} {nm : List Nm} (h : PGv w ns nm) (hF : FR l w w') (ho : off l [(88, none), (89, none), (108, some 1), (108, some 10), (109, none), (110, none), (111, none), (112, none), (113, none), (114, none), (115, none), (116, none), (117, none), (118, none), (119, none)] = true) : PGv w' ns nm := by
  obtain ⟨h1, h2, h3, h4, h5, h6⟩ := h
  refine ⟨fun i d hd hn => ?_, h2, h3, nmc_fr h4 hF (off_mono ho (by decide)), ⟨by rw [(hF 108 1 (off_hit ho rfl)).1]; exact h5.1, fun i d hd => ?_⟩, fun i x hx x0 => ?_⟩
  · have q := h1 i d hd hn
    unfold LkN at q ⊢
    rw [(hF 88 i (off_hit ho rfl)).1, (hF 89 i (off_hit ho rfl)).1, (hF 111 i (off_hit ho rfl)).1, (hF 112 i (off_hit ho rfl)).1, (hF 113 i (off_hit ho rfl)).1]
    exact ⟨q.1, q.2.1, q.2.2.1, chc_k _ _ q.2.2.2.1 (fun c _ => (hF 114 c (off_hit ho rfl)).1), q.2.2.2.2⟩
  · rw [(hF 109 i (off_hit ho rfl)).1, (hF 110 i (off_hit ho rfl)).1, (hF 115 i (off_hit ho rfl)).2.1]
    exact h5.2 i d hd
  · rw [(hF 114 _ (off_hit ho rfl)).1]
    exact h6 i x hx x0
theorem k_take9 {w : MW} {ns : List Nod} {nm : List Nm} {ks : List Nat} {Q : MW → Prop} (hI : BND w) (hG : PrG w) (hP : PGv w ns nm) (hc : CHc w ks (w.1 108 2).toInt) (hO : ∀ c ∈ ks, OwA ns c) (hQ : ∀ w', BND w' → FR ltk8 w w' → w'.2.2 61 3 = some 108 → (w'.1 61 4).toInt = 4 → (w'.1 77 0).toInt = -1 → (1 ≤ (w'.1 61 5).toInt ∧ (w'.1 61 5).toInt ≤ 501) → LyC ns w' ks 1 (w'.1 78 0).toInt (w'.1 61 5).toInt.toNat → Q w') : p_Ru_take_108 w Q := by
  have hF : FR ltk8 w (sI (sI (sI (sR w 61 3 (some 108)) 61 4 4) 61 5 1) 77 0 (-1)) := FR.I (FR.I (FR.I (FR.R (FR.refl _ w) rfl) rfl) rfl) rfl
  have hB : BND (sI (sI (sI (sR w 61 3 (some 108)) 61 4 4) 61 5 1) 77 0 (-1)) := wbd_77 (wbd_61_5 (wbd_61_4 (show BND (sR w 61 3 (some 108)) from hI) (by decide) (by decide)) (by decide) (by decide)) _ (by decide) (by decide)
  have r3 : (sI (sI (sI (sR w 61 3 (some 108)) 61 4 4) 61 5 1) 77 0 (-1)).2.2 61 3 = some 108 := rfl
  have e4 : ((sI (sI (sI (sR w 61 3 (some 108)) 61 4 4) 61 5 1) 77 0 (-1)).1 61 4).toInt = 4 := by show (4 : Int32).toInt = 4; decide
  have e7 : ((sI (sI (sI (sR w 61 3 (some 108)) 61 4 4) 61 5 1) 77 0 (-1)).1 77 0).toInt = -1 := by show (-1 : Int32).toInt = -1; decide
  have e5 : pts (sI (sI (sI (sR w 61 3 (some 108)) 61 4 4) 61 5 1) 77 0 (-1)) = 1 := i_1
  have eo : (w.1 108 2).toInt = opn (sI (sI (sI (sR w 61 3 (some 108)) 61 4 4) 61 5 1) 77 0 (-1)) := rfl
  refine Eq.mpr (p_Ru_take_108.eq_1 _ _) ?_
  generalize (sI (sI (sI (sR w 61 3 (some 108)) 61 4 4) 61 5 1) 77 0 (-1)) = v at *
  have hG2 : PrG v := PrG_fr hG hF rfl
  have hP2 : PGv v ns nm := pgv_f hP hF rfl
  have hc2 : CHc v ks (w.1 108 2).toInt := chc_k _ _ hc (fun c _ => (hF 114 c rfl).1)
  have fin : ∀ (S : Int) (r : Int32) (w1 : MW), S ≤ 500 → EyO ns S ks v r w1 → Q (sI (sI w1 78 0 r) 79 0 (-1)) := fun S r w1 hS t => by
    obtain ⟨tB, tF, t1, t2, t3, kk, tL⟩ := t
    rw [e5] at t1 t2 tL
    have le := LayA_le _ _ _ _ _ tL
    have h5 : (w1.1 61 5).toInt = pts w1 := rfl
    have rb : -1 ≤ r.toInt ∧ r.toInt ≤ 500 := by
      by_cases z : ks = []
      · have := le.2.2 z
        omega
      · have := (le.2.1 z).2
        omega
    have F1 : FR ltk8 v w1 := (FR.refl ltk8 v).tr tF rfl
    have F2 : FR [(78, none), (79, none)] w1 (sI (sI w1 78 0 r) 79 0 (-1)) := FR.I (FR.I (FR.refl _ w1) rfl) rfl
    have B2 : BND (sI (sI w1 78 0 r) 79 0 (-1)) := wbd_79 (wbd_78 tB _ rb.1 rb.2) _ (by decide) (by decide)
    have e78 : (sI (sI w1 78 0 r) 79 0 (-1)).1 78 0 = r := by rw [sI_oth _ _ _ _ _ _ (by decide), sI_same]
    have en : ∀ j : Nat, 1 ≤ j → (sI (sI w1 78 0 r) 79 0 (-1)).1 77 j = w1.1 77 j ∧ (sI (sI w1 78 0 r) 79 0 (-1)).1 78 j = w1.1 78 j ∧ (sI (sI w1 78 0 r) 79 0 (-1)).1 79 j = w1.1 79 j := fun j j1 => by
      refine ⟨rfl, ?_, ?_⟩
      · rw [sI_oth _ _ _ _ _ _ (by decide), sI_ne _ _ _ _ _ (by omega)]
      · rw [sI_ne _ _ _ _ _ (by omega), sI_oth _ _ _ _ _ _ (by decide)]
    refine hQ _ B2 ((hF.tr F1 rfl).tr F2 rfl) ?_ ?_ ?_ ?_ ?_
    · rw [(F2 61 3 rfl).2.2, (tF 61 3 rfl).2.2]; exact r3
    · rw [(F2 61 4 rfl).1, (tF 61 4 rfl).1]; exact e4
    · rw [(F2 77 0 rfl).1, (t3 0 (by rw [e5]; decide)).1]; exact e7
    · rw [(F2 61 5 rfl).1]; omega
    · rw [(F2 61 5 rfl).1, e78]
      refine ⟨kk, LayA_g _ _ _ _ _ tL (fun j ja jb => ?_)⟩
      have t := en j ja
      show ((sI (sI w1 78 0 r) 79 0 (-1)).1 77 j).toInt = (w1.1 77 j).toInt ∧ ((sI (sI w1 78 0 r) 79 0 (-1)).1 78 j).toInt = (w1.1 78 j).toInt ∧ ((sI (sI w1 78 0 r) 79 0 (-1)).1 79 j).toInt = (w1.1 79 j).toInt
      rw [t.1, t.2.1, t.2.2]
      exact ⟨rfl, rfl, rfl⟩
  have X := ey_all hB hG2.1 hP2 400
  cases hG2.2 with
  | inl a =>
    exact X (w.1 108 2) 0 v _ 80 0 0 False ks (by omega) (by omega) ⟨by rw [eo]; exact a, Int.le_refl _⟩ hc2 hO hB (FR.refl _ v) r3 (by omega) (by omega) (by decide) (by rw [i_0]; omega) (fun r w1 t => fin 0 r w1 (by omega) t)
  | inr a =>
    obtain ⟨k, S, hS, hC⟩ := a.2
    exact X (w.1 108 2) 0 v _ 80 S k False ks (by omega) (by omega) (by rw [eo]; exact CHn.mp (fun x x0 p => ⟨⟨⟨p.1, ⟨fun e => p.2.2.1 e, fun q => q.elim⟩⟩, p.2.1, fun e => absurd e p.2.2.1, fun _ => by have := p.2.2.2; omega⟩, rfl, rfl⟩) k _ _ hC) hc2 hO hB (FR.refl _ v) r3 (by omega) (by omega) (by decide) (by rw [i_0]; omega) (fun r w1 t => fin S r w1 hS t)
/-- what a program that was read says of its nodes -/
theorem pgs_of {f : Int → Int} {n m : Int} {w : MW} {ns : List Nod} {nm : List Nm} {ks : List Nat} (h : PGM f n (true, 0, m, ns, nm, ks)) (l3 : ns.length ≤ 300) (hp : PGc w ns nm ks) : PGS ns nm ∧ DpL ns ks 0 ∧ (∀ c ∈ ks, OwB ns false c) ∧ (∀ (i : Nat) (d : Nod), ns[i]? = some d → ¬ own d.1 = 0 → RGv ns i d (w.1 111 i).toInt (w.1 112 i).toInt) := by
  have k := pgm_ko h
  have rg : ∀ (i : Nat) (d : Nod), ns[i]? = some d → ¬ own d.1 = 0 → RGv ns i d (w.1 111 i).toInt (w.1 112 i).toInt := fun i d hd ho => (hp.2.1 i d hd ho).2.2.2.2
  refine ⟨⟨k.1, k.2.2.2.1, k.2.2.2.2.1, k.2.1, fun i d hd ho => ⟨_, _, rg i d hd ho⟩, fun i x hx x0 => (hp.2.2.2.1 i x hx x0).1, l3, pgm_ct h⟩, fun c hc => ?_, k.2.2.1, rg⟩
  have t : ¬ 40 < gD (csl ns []) c := fun z => k.2.2.2.2.2 (Or.inr ⟨c, hc, z⟩)
  show (0 : Int) + gD (csl ns []) c ≤ 40
  omega
