/-! a way moves its litres: the class, all of it -/
theorem cOut_s (B : Nat → Bool) (L m : Nat) : cOut B L (m + 1) = cOut B L m + bn (Bm B (m + 1) L) := by
  unfold cOut bn
  rw [ctb_s]
/-- what the move of way k wants of the stock -/
def StZ (z : MW) (fr to : Nat) : Prop := NoC z fr ∧ NoC z to ∧ (∀ x : Nat, x = fr ∨ x = to → 0 ≤ (z.1 18 x).toInt ∧ (z.1 18 x).toInt ≤ 1000000 ∧ (¬ (z.1 17 x).toInt = 0 → 1 ≤ (z.1 18 x).toInt)) ∧ ∀ x : Nat, 0 ≤ (z.1 19 x).toInt ∧ (z.1 19 x).toInt ≤ 14
theorem fr_no {z v : MW} {fr m : Nat} {ca : Int32} (nz : NoC z fr) (h : FrS z v fr m ca) : NoC v fr := by
  intro q i i1 i2
  rw [h.2.2.2 i i1 i2]
  refine nz (fun e => q ?_) i i1 i2
  by_cases c : m = 0
  · rw [(h.2.1 c).1]
    exact e
  · have g := h.2.2.1 (by omega)
    rw [g.2.2.1]
    by_cases d : (m : Int) < (z.1 18 fr).toInt
    · rw [if_pos d, ← g.1]
      exact e
    · rw [if_neg d]
      exact i_0
theorem to_no {z v : MW} {to c : Nat} {ca : Int32} (nz : NoC z to) (h : ToS z v to c ca) : NoC v to := by
  intro q i i1 i2
  rw [h.2.2.2 i i1 i2]
  by_cases d : 0 < c
  · rw [if_pos d]
  · rw [if_neg d]
    rw [h.2.1, if_neg d] at q
    exact nz q i i1 i2
/-- one litre leaves the tank -/
theorem fr_s {z v w : MW} {fr m : Nat} {ca : Int32} (c0 : ¬ ca.toInt = 0) (nz : NoC z fr) (z17 : z.1 17 fr = ca) (lt : (m : Int) < (z.1 18 fr).toInt) (h : FrS z v fr m ca) (e18 : (w.1 18 fr).toInt = (v.1 18 fr).toInt - 1) (e17 : w.1 17 fr = (if (v.1 18 fr).toInt.toNat = 1 then 0 else v.1 17 fr)) (e19 : w.1 19 fr = (if (v.1 18 fr).toInt.toNat = 1 then v.1 17 fr else v.1 19 fr)) (e23 : ∀ i, 1 ≤ i → i ≤ 5 → w.1 23 (6 * fr + i) = -1) : FrS z w fr (m + 1) ca := by
  have v17 : v.1 17 fr = ca := by
    by_cases c : m = 0
    · rw [(h.2.1 c).1]
      exact z17
    · rw [(h.2.2.1 (by omega)).2.2.1, if_pos lt]
  have v19 : v.1 19 fr = z.1 19 fr := by
    by_cases c : m = 0
    · exact (h.2.1 c).2
    · rw [(h.2.2.1 (by omega)).2.2.2, if_pos lt]
  have h1 := h.1
  refine ⟨by omega, fun q => by omega, fun _ => ⟨z17, by omega, ?_, ?_⟩, fun i i1 i2 => ?_⟩
  · rw [e17, v17]
    by_cases d : (((m + 1 : Nat)) : Int) < (z.1 18 fr).toInt
    · rw [if_pos d, if_neg (by omega)]
    · rw [if_neg d, if_pos (by omega)]
  · rw [e19, v17, v19]
    by_cases d : (((m + 1 : Nat)) : Int) < (z.1 18 fr).toInt
    · rw [if_pos d, if_neg (by omega)]
    · rw [if_neg d, if_pos (by omega)]
  · rw [e23 i i1 i2]
    exact (nz (by rw [z17]; exact c0) i i1 i2).symm
theorem to_s {z v w : MW} {to c : Nat} {ca : Int32} (h : ToS z v to c ca) (b : 0 ≤ (v.1 18 to).toInt ∧ (v.1 18 to).toInt ≤ 1000000000) (e17 : w.1 17 to = ca) (e18 : w.1 18 to = v.1 18 to + (1 : Int32)) (e19 : w.1 19 to = v.1 19 to) (e23 : ∀ i, 1 ≤ i → i ≤ 5 → w.1 23 (6 * to + i) = -1) : ToS z w to (c + 1) ca := by
  have q := ti_add2 (Eq.refl (v.1 18 to).toInt) i_1 (by omega) (by omega)
  have h1 := h.1
  refine ⟨?_, ?_, ?_, fun i i1 i2 => ?_⟩
  · rw [e18, q]
    omega
  · rw [e17, if_pos (by omega)]
  · rw [e19]
    exact h.2.2.1
  · rw [e23 i i1 i2, if_pos (by omega)]
theorem McO_to {z v : MW} {to c : Nat} {ca : Int32} (c0 : ¬ ca.toInt = 0) (mo : ∀ k j, ¬ k = 17 → ¬ k = 18 → ¬ k = 19 → ¬ k = 21 → ¬ k = 23 → v.1 k j = z.1 k j) (h : ToS z v to c ca) : McO v to ca ↔ 0 < c ∨ McO z to ca := by
  by_cases d : 0 < c
  · refine ⟨fun _ => Or.inl d, fun _ => Or.inl ?_⟩
    rw [h.2.1, if_pos d]
    exact ⟨c0, rfl⟩
  · have e17 : v.1 17 to = z.1 17 to := by rw [h.2.1, if_neg d]
    have e23 : ∀ i, 1 ≤ i → i ≤ 5 → v.1 23 (6 * to + i) = z.1 23 (6 * to + i) := fun i i1 i2 => by rw [h.2.2.2 i i1 i2, if_neg d]
    have eh : hlC v to = hlC z to := by
      unfold hlC
      rw [mo 7 1 (by decide) (by decide) (by decide) (by decide) (by decide)]
      exact hlF_c rfl 5 (-1) (fun j j1 j2 => ⟨e23 j j1 j2, mo 25 j (by decide) (by decide) (by decide) (by decide) (by decide)⟩)
    have em : McO v to ca ↔ McO z to ca := by
      unfold McO
      rw [eh, e17, h.2.2.1, mo 24 _ (by decide) (by decide) (by decide) (by decide) (by decide)]
    rw [em]
    exact ⟨fun q => Or.inr q, fun q => q.elim (fun y => absurd y d) id⟩
theorem mvl_x {z v : MW} {k n : Nat} {pp : Nat → Nat} {dd : Nat → Bool} {fr to : Nat} {ca : Int32} {X : Nat → Int32} {B : Nat → Bool} {m : Nat} {a : Int32} {Q Q' : Int32 → MW → Prop} (h : p_Wa_movesLitre v a Q) (ka : a.toInt.toNat = k) (W : WcS z k n pp dd fr to ca) (sz : StZ z fr to) (m100 : m ≤ 1000) (C : CMv z v n pp dd fr to ca X B m) (k0 : ¬ decZ z (of' z pp n) fr to ca B m → Q 0 v → Q' 0 v) (k1 : decZ z (of' z pp n) fr to ca B m → ∀ w, CMv z w n pp dd fr to ca X B (m + 1) → Q 1 w → Q' 1 w) : p_Wa_movesLitre v a Q' := by
  obtain ⟨mo, pi, fs, ts⟩ := C
  have Wv := WcS_m mo W
  have n24 := W.1.2.1
  have T := W.2.2.2.1
  have ft := W.2.2.2.2.1
  have ft1 := ft.2.2.1
  have ft2 := ft.2.2.2.1
  have ca1 := W.2.2.2.2.2.2
  have ca0 : ¬ ca.toInt = 0 := by omega
  have tv : tC v = tC z := by
    unfold tC
    rw [mo.2.1 8 0 (by decide) (by decide) (by decide) (by decide) (by decide)]
  have e27 : (v.1 27 a.toInt.toNat).toInt = fr := by rw [ka]; exact Wv.2.2.2.2.1.1
  have e28 : (v.1 28 a.toInt.toNat).toInt = to := by rw [ka]; exact Wv.2.2.2.2.1.2.1
  have e30 : v.1 30 a.toInt.toNat = ca := by rw [ka]; exact Wv.2.2.2.2.2.1
  have e33 : v.1 33 a.toInt.toNat = nI (pp (n - 1)) := by rw [ka]; exact Wv.1.2.2.2
  have n27 : (v.1 27 a.toInt.toNat).toInt.toNat = fr := by omega
  have n28 : (v.1 28 a.toInt.toNat).toInt.toNat = to := by omega
  have bf := sz.2.2.1 fr (Or.inl rfl)
  have bt := sz.2.2.1 to (Or.inr rfl)
  have ifr : v.1 17 fr = ca ↔ (z.1 17 fr = ca ∧ (m : Int) < (z.1 18 fr).toInt) := by
    have f1 := fs.1
    by_cases c : m = 0
    · rw [(fs.2.1 c).1]
      refine ⟨fun q => ⟨q, ?_⟩, fun q => q.1⟩
      have := bf.2.2 (by rw [q]; exact ca0)
      omega
    · have g := fs.2.2.1 (by omega)
      rw [g.2.2.1]
      by_cases d : (m : Int) < (z.1 18 fr).toInt
      · rw [if_pos d]
        exact ⟨fun _ => ⟨g.1, d⟩, fun _ => rfl⟩
      · rw [if_neg d]
        refine ⟨fun q => ?_, fun q => absurd q.2 d⟩
        rw [← q] at ca0
        exact absurd i_0 ca0
  rw [p_Wa_movesLitre.eq_1] at h ⊢
  rw [n27, e30, e33] at h ⊢
  refine ⟨h.1, h.2.1, h.2.2.1, h.2.2.2.1, fun d => ?_, fun d => k0 (fun q => d ?_) (h.2.2.2.2.2 d)⟩
  case refine_2 => rw [ifr.mpr q.1]
  have zf := ifr.mp (ti_inj d)
  have H := h.2.2.2.2.1 d
  have pl : pp (n - 1) < 24 := (W.2.1 (n - 1) (by omega)).1
  have pI : (nI (pp (n - 1))).toInt = (pp (n - 1) : Int) := nI_toInt (by omega)
  have pN : (nI (pp (n - 1))).toInt.toNat = pp (n - 1) := by omega
  have Cl := pi (n - 1) (by omega)
  have er : rmC v (pp (n - 1)) = rmC z (pp (n - 1)) := by
    unfold rmC
    rw [Cl.2.1]
  have r1 : 1 ≤ rmC z (pp (n - 1)) := by
    have := Cl.1.1.1
    rw [← er]
    unfold rmC
    omega
  have oL : of' z pp n = of' z pp (n - 1) + rmC z (pp (n - 1)) := by
    have q := ofs_s (fun j => rmC z (pp j)) (n - 1)
    rw [show n - 1 + 1 = n by omega] at q
    exact q
  have out : lp v (pp (n - 1)) (dd (n - 1)) (rmC v (pp (n - 1)) - 1) = Bm B (m + 1) (of' z pp n) := by
    rw [er, Cl.2.2.1 _ (by omega), ← Bm_s, oL, show of' z pp (n - 1) + (rmC z (pp (n - 1)) - 1) + 1 = of' z pp (n - 1) + rmC z (pp (n - 1)) by omega]
  have go : decZ z (of' z pp n) fr to ca B m → q_Wa_movesLitre_98 a ca (v.1 28 a.toInt.toNat) v Q → q_Wa_movesLitre_98 a ca (v.1 28 a.toInt.toNat) v Q' := fun dz g => by
    rw [q_Wa_movesLitre_98.eq_1] at g ⊢
    refine ⟨g.1, lve_x (n := (v.1 18 fr).toInt.toNat) g.2 (by omega) (by omega) ?_ ?_ ?_ ?_ ?_ (fun w o e18 e17 e19 e23 g2 => ⟨g2.1, ?_⟩)⟩
    · rw [n27, ti_inj d]
      exact ca0
    · rw [n27]
      have := fs.1
      omega
    · have := fs.1
      omega
    · have := fs.1
      omega
    · rw [n27]
      exact fr_no sz.1 fs
    · rw [n27] at o e18 e17 e19 e23
      have f1 := fs.1
      have fs' := fr_s ca0 sz.1 zf.1 zf.2 fs (by omega) e17 e19 e23
      have moS : MvO (fun y => y = fr) (fun _ => False) v w := mv_sp rfl o
      have moW : MvO (SpW z n pp fr to) (PpW n pp) v w := mv_sp (Or.inl rfl) o
      have W32 : w.1 32 a.toInt.toNat = nI (pp 0) := by
        rw [moW.2.1 32 _ (by decide) (by decide) (by decide) (by decide) (by decide), ka]
        exact Wv.1.2.2.1
      rw [W32] at g2 ⊢
      have pipes : ∀ j, j < n → CPi z w (xs z pp j) (pp j) (of' z pp j) (dd j) ca (X j) B m := fun j hj => cp_f (S := fun y => y = fr) (Pp := fun _ => False) (by unfold xs; omega) id moS (pi j hj)
      refine mvl_126 (m := m) (c := cOut B (of' z pp n) m) ka W (fun f w2 f01 ef mo2 pi2 fs2 ts2 g3 => ?_) _ _ _ _ 0 _ g2.2 i_0 (by omega) (Or.inr i_1) ?_ (fun _ => rfl) (mv_t mo moW) ⟨fun j _ hj => absurd hj (Nat.not_lt_zero j), fun j hj _ => pipes j hj⟩ fs' (to_f (by omega) moS ts)
      · have pi3 : ∀ j, j < n → CPi z w2 (xs z pp j) (pp j) (of' z pp j) (dd j) ca (X j) B (m + 1) := fun j hj => pi2.1 j hj hj
        refine ⟨fun e => k1 dz w2 ⟨mo2, pi3, fs2, ?_⟩ (g3.1 e), fun e => ?_⟩
        · have fb : Bm B (m + 1) (of' z pp n) = false := by
            rw [← ef]
            exact decide_eq_false (fun q => q e)
          rw [cOut_s, fb]
          exact ts2
        · have fb : Bm B (m + 1) (of' z pp n) = true := by
            rw [← ef]
            exact decide_eq_true e
          have co := ctb_n (fun j => Bm B (j + 1) (of' z pp n)) m
          have t1 := ts2.1
          have cb : cOut B (of' z pp n) m ≤ m := co
          refine arr_x (g3.2 e) (by omega) (by omega) (by rw [n28]; exact to_no sz.2.1 ts2) (fun w3 o3 y17 y18 y19 y23 g4 => k1 dz w3 ?_ g4)
          rw [n28] at o3 y17 y18 y19 y23
          have moT : MvO (fun y => y = to) (fun _ => False) w2 w3 := mv_sp rfl o3
          have moX : MvO (SpW z n pp fr to) (PpW n pp) w2 w3 := mv_sp (Or.inr (Or.inl rfl)) o3
          refine ⟨mv_t mo2 moX, fun j hj => cp_f (S := fun y => y = to) (Pp := fun _ => False) (by unfold xs; omega) id moT (pi3 j hj), fr_f (by omega) moT fs2, ?_⟩
          rw [cOut_s, fb]
          exact to_s ts2 (by omega) y17 y18 y19 y23
      · show bD 1 = Bm B (m + 1) 0
        rw [Bm_0]
        rfl
  have mcv := McO_to ca0 mo.2.1 ts
  have e10 : ∀ j, v.1 10 j = z.1 10 j := fun j => mo.2.1 10 j (by decide) (by decide) (by decide) (by decide) (by decide)
  refine ⟨H.1, H.2.1, gf_x (d := dd (n - 1)) H.2.2 (by rw [pN]; exact (Wv.2.1 (n - 1) (by omega)).2.2) (fun r8 e8 g8 => wl_x g8 (by omega) (by omega) (by rw [pN]; exact Cl.1) (fun r9 r01 e9 g9 => ?_))⟩
  rw [pN, e8, out] at e9
  refine ⟨fun q => go ⟨zf, Or.inl (e9.mp q)⟩ (g9.1 q), fun q => ?_⟩
  have fb : Bm B (m + 1) (of' z pp n) = true := by
    cases y : Bm B (m + 1) (of' z pp n) with
    | true => rfl
    | false => exact absurd (e9.mpr y) q
  have G := g9.2 q
  rw [n28, e10] at G
  rw [n28, e10]
  have t1 := ts.1
  have nodec : ∀ P : Prop, (decZ z (of' z pp n) fr to ca B m → P) → ((z.1 18 to).toInt + cOut B (of' z pp n) m < (z.1 10 to).toInt → (0 < cOut B (of' z pp n) m ∨ McO z to ca) → P) := fun P hp a b => hp ⟨zf, Or.inr ⟨a, b⟩⟩
  refine ⟨G.1, G.2.1, G.2.2.1, fun y => k0 (fun dz => ?_) (G.2.2.2.1 y), fun y => mc_x (G.2.2.2.2 y) ca1.1 ca1.2 ?_ (fun r27 h27 g27 => ⟨fun t => ?_, fun t => k0 (fun dz => ?_) (g27.2 t)⟩)⟩
  · rcases dz.2 with dz | dz
    · rw [fb] at dz
      cases dz
    · have := dz.1
      omega
  · rw [n28, ts.2.2.1]
    exact sz.2.2.2 to
  · rw [n28] at h27
    refine go ⟨zf, Or.inr ⟨by omega, ?_⟩⟩ (g27.1 t)
    rcases h27 with h27 | h27
    · exact mcv.mp h27.2
    · rw [h27.1] at t
      exact absurd i_0 t
  · rw [n28] at h27
    rcases h27 with h27 | h27
    · rw [h27.1] at t
      exact absurd (by decide) t
    · refine h27.2 (mcv.mpr ?_)
      rcases dz.2 with dz | dz
      · rw [fb] at dz
        cases dz
      · exact dz.2
/-- how many litres go: M -/
def MvN (z : MW) (L fr to : Nat) (ca : Int32) (B : Nat → Bool) (ra : Int) (M : Nat) : Prop := (∀ m, m < M → decZ z L fr to ca B m) ∧ (M : Int) ≤ ra ∧ ((M : Int) = ra ∨ ¬ decZ z L fr to ca B M)
theorem mvn_u {z : MW} {L fr to : Nat} {ca : Int32} {B : Nat → Bool} {ra : Int} {M M' : Nat} (h : MvN z L fr to ca B ra M) (h' : MvN z L fr to ca B ra M') : M = M' := by
  by_cases c : M < M'
  · have := h'.2.1
    rcases h.2.2 with q | q
    · omega
    · exact absurd (h'.1 M c) q
  · by_cases c2 : M' < M
    · have := h.2.1
      rcases h'.2.2 with q | q
      · omega
      · exact absurd (h.1 M' c2) q
    · omega
theorem mv_12 {z : MW} {k n : Nat} {pp : Nat → Nat} {dd : Nat → Bool} {fr to : Nat} {ca : Int32} {X : Nat → Int32} {B : Nat → Bool} {a : Int32} {E E' Q Q' : MW → Prop} (ka : a.toInt.toNat = k) (W : WcS z k n pp dd fr to ca) (sz : StZ z fr to) (ra : 0 ≤ (z.1 29 k).toInt ∧ (z.1 29 k).toInt ≤ 100) (kE : ∀ w M, MvN z (of' z pp n) fr to ca B (z.1 29 k).toInt M → CMv z w n pp dd fr to ca X B M → E w → E' w) : ∀ (u : Nat) (x : Int32) (m : Nat) (v : MW), q_Wa_move_12 a E Q u x v → x.toInt = m → (m : Int) ≤ (z.1 29 k).toInt → (∀ m', m' < m → decZ z (of' z pp n) fr to ca B m') → CMv z v n pp dd fr to ca X B m → q_Wa_move_12 a E' Q' u x v := by
  intro u
  induction u with
  | zero => exact fun _ _ _ h _ _ _ _ => False.elim h
  | succ u ih =>
    intro x m v h ex mr dz C
    have e29 : (v.1 29 a.toInt.toNat).toInt = (z.1 29 k).toInt := by
      rw [ka, C.1.2.1 29 k (by decide) (by decide) (by decide) (by decide) (by decide)]
    rw [q_Wa_move_12.eq_2, e29] at h ⊢
    refine ⟨h.1, fun d => kE v m ⟨dz, mr, Or.inl (by omega)⟩ C (h.2.1 d), fun d => ?_⟩
    have x1 : (x + (1 : Int32)).toInt = ((m + 1 : Nat) : Int) := by
      have q := ti_add2 ex i_1 (by omega) (by omega)
      omega
    refine mvl_x (h.2.2 d) ka W sz (by omega) C (fun nd g => ⟨fun _ => kE v m ⟨dz, mr, Or.inr nd⟩ C (g.1 i_0), fun q => absurd i_0 q⟩) (fun yd w C' g => ⟨fun q => absurd q (by decide), fun q => ih _ (m + 1) _ (g.2 q) x1 (by omega) (fun m' hm' => ?_) C'⟩)
    by_cases c : m' = m
    · rw [c]
      exact yd
    · exact dz m' (by omega)
