/-! programs: steps and nodes fit; read of the reference -/
theorem lki_app {l : List Int} : ∀ (xs t : List Nm) (i : Int), ¬ lki l xs i = (-1, 0, 0, 0) → lki l (xs ++ t) i = lki l xs i := by
  intro xs
  induction xs with
  | nil => exact fun _ _ h => absurd rfl h
  | cons x xs ih =>
    intro t i h
    show lki l (x :: (xs ++ t)) i = _
    rw [lki_u, lki_u]
    rw [lki_u] at h
    by_cases c : x.1 = l
    · rw [if_pos c, if_pos c]
    · rw [if_neg c] at h
      rw [if_neg c, if_neg c]
      exact ih t (i + 1) h
theorem lkn_mono {nm t : List Nm} {l : List Int} {j u b : Int} (h : lkn nm l = (j, 10, u, b)) (j0 : 0 ≤ j) : lkn (nm ++ t) l = (j, 10, u, b) := by
  have e : lki l nm 0 = (j, 10, u, b) := by
    unfold lkn at h
    by_cases c : (lki l nm 0).2.1 = 10 ∧ (lki l nm 0).2.2.2 < 0
    · rw [if_pos c] at h
      have t : (-1 : Int) = j := congrArg Prod.fst h
      omega
    · rw [if_neg c] at h
      exact h
  have a := lki_app nm t 0 (fun z => by
    rw [e] at z
    have t : j = -1 := congrArg Prod.fst z
    omega)
  rw [← h]
  unfold lkn
  rw [a]
theorem nwf_mono {nm t : List Nm} {ns : List Nod} (h : NWf (lkn nm) ns) : NWf (lkn (nm ++ t)) ns := fun i d hd => by
  have q := h i d hd
  refine ⟨q.1, fun k => ?_⟩
  have w := q.2 k
  obtain ⟨l, u, el, e0⟩ := w.2.1
  exact ⟨w.1, ⟨l, u, lkn_mono el e0, e0⟩, w.2.2⟩
def DWf (s : DS) : Prop := NWf (lkn s.2.2.2) s.2.1 ∧ WNm s.2.1 s.2.2.2
theorem dwf_l {s : DS} (h : DWf s) : LkB (lkn s.2.2.2) s.2.1 := fun l h0 h1 => by
  obtain ⟨i, x, hx, _, _, xb, b0⟩ := lkn_x (nm := s.2.2.2) (l := l) (j := (lkn s.2.2.2 l).1) (u := (lkn s.2.2.2 l).2.2.1) (b := (lkn s.2.2.2 l).2.2.2) (by rw [← h1]) h0
  have t := h.2 i x hx (by omega)
  have lt := (List.getElem?_eq_some_iff.mp t).1
  exact ⟨b0, by omega⟩
theorem der_t {s : DS} {e : Int} (h : dok s = der e) : False := absurd (show true = false from congrArg Prod.fst h) (by decide)
theorem dok_i {s t : DS} (h : dok s = dok t) : s = t := congrArg (fun r : DQ => r.2.2) h
theorem dun_wf {f : Int → Int} {n c u p : Int} {s s' : DS} {l : List Int} (h : dok s' = dun f n s c u p l) (hD : DWf s) : DWf s' := by
  unfold dun at h
  by_cases k : (wrd f n p).1 = 59
  · rw [if_pos k] at h
    by_cases b : (wrd f n (wrd f n p).2.2.1).1 = 33
    · rw [if_pos b] at h
      exact (der_t h).elim
    · rw [if_neg b] at h
      rw [dok_i h]
      refine ⟨nwf_mono hD.1, fun i x hx x0 => ?_⟩
      rcases app_get hx with q | ⟨q, q2⟩
      · exact hD.2 i x q x0
      · rw [q2] at x0
        exact absurd x0 (show ¬ (0 : Int) ≤ -1 by decide)
  · rw [if_neg k] at h
    exact (der_t h).elim
theorem dcl_wf {f : Int → Int} {n : Int} {s s' : DS} (h : dcl f n s (dok s')) (hD : DWf s) : DWf s' := by
  unfold dcl at h
  by_cases c1 : (wrd f n (wrd f n s.1).2.2.1).1 = 33
  · rw [if_pos c1] at h
    exact (der_t h).elim
  rw [if_neg c1] at h
  by_cases c2 : ¬ ((wrd f n (wrd f n s.1).2.2.1).1 = 30 ∧ (lki (wrd f n (wrd f n s.1).2.2.1).2.2.2.1 s.2.2.2 0).1 < 0 ∧ s.2.2.2.length < 40)
  · rw [if_pos c2] at h
    exact (der_t h).elim
  rw [if_neg c2] at h
  by_cases c3 : (wrd f n (wrd f n (wrd f n s.1).2.2.1).2.2.1).1 = 33
  · rw [if_pos c3] at h
    exact (der_t h).elim
  rw [if_neg c3] at h
  by_cases c4 : (wrd f n s.1).1 = 10
  · rw [if_pos c4] at h
    obtain ⟨r1, a, b⟩ := h
    by_cases g : r1.1 = true
    · rw [if_pos g] at b
      obtain ⟨k, a⟩ := a
      have t := zit_wf (ZZ_wf f n (lkn s.2.2.2) k) a g (hN := hD.1) (dwf_l hD) (fun c hc => (by cases hc))
      have kd : 0 < r1.2.2.2.1.length := by
        have a' : zbl f n (ZZ f n (lkn s.2.2.2) k) 0 (dbl ((wrd f n (wrd f n s.1).2.2.1).2.2.1, s.2)) r1 := a
        unfold zbl at a'
        by_cases q : (wrd f n (dbl ((wrd f n (wrd f n s.1).2.2.1).2.2.1, s.2)).1).1 = 123 ∧ 0 < 20
        · rw [if_pos q] at a'
          obtain ⟨r2, _, b2⟩ := a'
          by_cases g2 : r2.1 = true
          · rw [if_pos g2] at b2
            unfold znd at b2
            by_cases q3 : r2.2.2.2.1.length = 300
            · rw [if_pos q3] at b2
              exact (zer_t b2 g).elim
            · rw [if_neg q3] at b2
              rw [b2]
              show 0 < (r2.2.2.2.1 ++ [_]).length
              rw [List.length_append, List.length_singleton]
              omega
          · rw [if_neg g2] at b2
            rw [b2] at g
            exact absurd g g2
        · rw [if_neg q] at a'
          exact (zer_t a' g).elim
      unfold dst at b
      by_cases q3 : r1.2.2.2.1.length = 300
      · rw [if_pos q3] at b
        exact (der_t b).elim
      · rw [if_neg q3] at b
        rw [dok_i b]
        have pre : PRE s.2.1 r1.2.2.2.1 := t.2.1
        have pre2 := pre.tr (PRE.one r1.2.2.2.1 (10, 0, 0, [r1.2.2.2.1.length - 1]))
        refine ⟨nwf_mono (nwf_s t.1 (fun c hc => by rw [List.mem_singleton.mp hc]; omega) (fun z => absurd z (show ¬ (10 : Int) = 23 by decide))), fun i x hx x0 => ?_⟩
        rcases app_get hx with q | ⟨q, q2⟩
        · exact pre2.get (hD.2 i x q x0)
        · rw [q2]
          show (r1.2.2.2.1 ++ [(10, 0, 0, [r1.2.2.2.1.length - 1])])[((r1.2.2.2.1.length : Int) - 1 + 1).toNat]? = some (10, 0, 0, [((r1.2.2.2.1.length : Int) - 1).toNat])
          rw [show ((r1.2.2.2.1.length : Int) - 1 + 1).toNat = r1.2.2.2.1.length by omega, show ((r1.2.2.2.1.length : Int) - 1).toNat = r1.2.2.2.1.length - 1 by omega, List.getElem?_append_right (Nat.le_refl _), Nat.sub_self]
          rfl
    · rw [if_neg g] at b
      exact (der_t b).elim
  · rw [if_neg c4] at h
    unfold dsg at h
    by_cases u : 1 ≤ (wrd f n (wrd f n (wrd f n s.1).2.2.1).2.2.1).1 ∧ (wrd f n (wrd f n (wrd f n s.1).2.2.1).2.2.1).1 ≤ 5
    · rw [if_pos u] at h
      by_cases b : (wrd f n (wrd f n (wrd f n (wrd f n s.1).2.2.1).2.2.1).2.2.1).1 = 33
      · rw [if_pos b] at h
        exact (der_t h).elim
      · rw [if_neg b] at h
        exact dun_wf h hD
    · rw [if_neg u] at h
      exact dun_wf h hD
theorem dcl_ok {f : Int → Int} {n : Int} {s : DS} {r : DQ} (h : dcl f n s r) (g : r.1 = true) : r = dok r.2.2 := by
  have no : ∀ {e : Int}, r = der e → r = dok r.2.2 := fun e => by
    rw [e] at g
    exact absurd (show false = true from g) (by decide)
  have yes : ∀ {t : DS}, r = dok t → r = dok r.2.2 := fun e => by
    rw [e]
    rfl
  have un : ∀ (c u p : Int) (l : List Int), r = dun f n s c u p l → r = dok r.2.2 := fun c u p l e => by
    unfold dun at e
    by_cases k : (wrd f n p).1 = 59
    · rw [if_pos k] at e
      by_cases b : (wrd f n (wrd f n p).2.2.1).1 = 33
      · rw [if_pos b] at e
        exact no e
      · rw [if_neg b] at e
        exact yes e
    · rw [if_neg k] at e
      exact no e
  unfold dcl at h
  by_cases c1 : (wrd f n (wrd f n s.1).2.2.1).1 = 33
  · rw [if_pos c1] at h
    exact no h
  rw [if_neg c1] at h
  by_cases c2 : ¬ ((wrd f n (wrd f n s.1).2.2.1).1 = 30 ∧ (lki (wrd f n (wrd f n s.1).2.2.1).2.2.2.1 s.2.2.2 0).1 < 0 ∧ s.2.2.2.length < 40)
  · rw [if_pos c2] at h
    exact no h
  rw [if_neg c2] at h
  by_cases c3 : (wrd f n (wrd f n (wrd f n s.1).2.2.1).2.2.1).1 = 33
  · rw [if_pos c3] at h
    exact no h
  rw [if_neg c3] at h
  by_cases c4 : (wrd f n s.1).1 = 10
  · rw [if_pos c4] at h
    obtain ⟨r1, _, b⟩ := h
    by_cases g1 : r1.1 = true
    · rw [if_pos g1] at b
      unfold dst at b
      by_cases q3 : r1.2.2.2.1.length = 300
      · rw [if_pos q3] at b
        exact no b
      · rw [if_neg q3] at b
        exact yes b
    · rw [if_neg g1] at b
      exact no b
  · rw [if_neg c4] at h
    unfold dsg at h
    by_cases u : 1 ≤ (wrd f n (wrd f n (wrd f n s.1).2.2.1).2.2.1).1 ∧ (wrd f n (wrd f n (wrd f n s.1).2.2.1).2.2.1).1 ≤ 5
    · rw [if_pos u] at h
      by_cases b : (wrd f n (wrd f n (wrd f n (wrd f n s.1).2.2.1).2.2.1).2.2.1).1 = 33
      · rw [if_pos b] at h
        exact no h
      · rw [if_neg b] at h
        exact un _ _ _ _ h
    · rw [if_neg u] at h
      exact un _ _ _ _ h
theorem DP_ok (f : Int → Int) (n : Int) : ∀ (k : Nat) (s : DS) (r : DQ), DP f n k s r → r.1 = true → r = dok r.2.2 := by
  intro k
  induction k with
  | zero => exact fun _ _ h _ => False.elim h
  | succ k ih =>
    intro s r h g
    rw [DP_u] at h
    by_cases c : (wrd f n s.1).1 = 8 ∨ (wrd f n s.1).1 = 9 ∨ (wrd f n s.1).1 = 10
    · rw [if_pos c] at h
      obtain ⟨r1, a, b⟩ := h
      by_cases g1 : r1.1 = true
      · rw [if_pos g1] at b
        exact ih _ _ b g
      · rw [if_neg g1] at b
        rw [b] at g
        exact absurd g g1
    · rw [if_neg c] at h
      rw [h]
      rfl
theorem DP_wf (f : Int → Int) (n : Int) : ∀ (k : Nat) (s s' : DS), DP f n k s (dok s') → DWf s → DWf s' := by
  intro k
  induction k with
  | zero => exact fun _ _ h _ => False.elim h
  | succ k ih =>
    intro s s' h hD
    rw [DP_u] at h
    by_cases c : (wrd f n s.1).1 = 8 ∨ (wrd f n s.1).1 = 9 ∨ (wrd f n s.1).1 = 10
    · rw [if_pos c] at h
      obtain ⟨r1, a, b⟩ := h
      by_cases g : r1.1 = true
      · rw [if_pos g] at b
        have er : r1 = dok r1.2.2 := dcl_ok a g
        rw [er] at a
        exact ih r1.2.2 s' b (dcl_wf a hD)
      · rw [if_neg g] at b
        exact absurd (show r1.1 = true from (congrArg Prod.fst b).symm) g
    · rw [if_neg c] at h
      rw [dok_i h]
      exact hD
theorem PG1_wf {f : Int → Int} {n : Int} {z : ZS} {nm : List Nm} (h : PG1 f n (true, 0) z nm) : NWf (lkn nm) z.2.1 ∧ WNm z.2.1 nm := by
  unfold PG1 at h
  by_cases c : (wrd f n 0).1 = 33
  · rw [if_pos c] at h
    exact absurd (show true = false from congrArg Prod.fst h) (by decide)
  · rw [if_neg c] at h
    obtain ⟨k, d, a, b⟩ := h
    by_cases g : d.1 = true
    · rw [if_pos g] at b
      obtain ⟨y, yz, yb⟩ := b
      by_cases gy : y.1 = true
      · rw [if_pos gy] at yb
        have D0 : DWf (0, [], 0, []) := ⟨fun i d hd => (by cases hd), fun i x hx => (by cases hx)⟩
        have ed : d = dok d.2.2 := DP_ok f n k _ _ a g
        rw [ed] at a
        have D := DP_wf f n k _ _ a D0
        obtain ⟨kk, yz⟩ := yz
        have t := zit_wf (ZZ_wf f n _ kk) yz gy (hN := D.1) (dwf_l D) (fun c hc => (by cases hc))
        rw [yb.2.1, yb.2.2]
        have pre : PRE d.2.2.2.1 y.2.2.2.1 := t.2.1
        exact ⟨t.1, fun i x hx x0 => pre.get (D.2 i x hx x0)⟩
      · rw [if_neg gy] at yb
        exact absurd (show true = false from congrArg Prod.fst yb) (by decide)
    · rw [if_neg g] at b
      exact absurd (show true = false from congrArg Prod.fst b) (by decide)
