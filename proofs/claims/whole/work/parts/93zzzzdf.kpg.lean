/-! a program: what stands inside, and its names -/
def DKo (s : DS) : Prop := DWf s ∧ KOn s.2.1 ∧ NmL (s.2.2.2.length : Int) s.2.1
theorem nml_m {L L' : Int} {ns : List Nod} (h : NmL L ns) (hL : L ≤ L') : NmL L' ns := fun i d hd hk => by
  have := h i d hd hk
  omega
theorem dun_ko {f : Int → Int} {n c u p : Int} {s s' : DS} {l : List Int} (h : dok s' = dun f n s c u p l) (hD : DKo s) : DKo s' := by
  refine ⟨dun_wf h hD.1, ?_⟩
  unfold dun at h
  by_cases k : (wrd f n p).1 = 59
  · rw [if_pos k] at h
    by_cases b : (wrd f n (wrd f n p).2.2.1).1 = 33
    · rw [if_pos b] at h
      exact (der_t h).elim
    · rw [if_neg b] at h
      rw [dok_i h]
      refine ⟨hD.2.1, nml_m hD.2.2 ?_⟩
      show (s.2.2.2.length : Int) ≤ ((s.2.2.2 ++ [(l, c, u, -1)]).length : Int)
      rw [List.length_append, List.length_singleton]
      omega
  · rw [if_neg k] at h
    exact (der_t h).elim
theorem dcl_ko {f : Int → Int} {n : Int} {s s' : DS} (h : dcl f n s (dok s')) (hD : DKo s) : DKo s' := by
  refine ⟨dcl_wf h hD.1, ?_⟩
  unfold dcl at h
  by_cases c1 : (wrd f n (wrd f n s.1).2.2.1).1 = 33
  · rw [if_pos c1] at h
    exact (der_t h).elim
  rw [if_neg c1] at h
  by_cases c2 : ¬ ((wrd f n (wrd f n s.1).2.2.1).1 = 30 ∧ (lki (wrd f n (wrd f n s.1).2.2.1).2.2.2.1 s.2.2.2 0).1 < 0 ∧ s.2.2.2.length < 40)
  · rw [if_pos c2] at h
    exact (der_t h).elim
  rw [if_neg c2] at h
  by_cases c3 : (wrd f n (wrd f n (wrd f n s.1).2.2.1).2.2.1).1 = 33
  · rw [if_pos c3] at h
    exact (der_t h).elim
  rw [if_neg c3] at h
  by_cases c4 : (wrd f n s.1).1 = 10
  · rw [if_pos c4] at h
    obtain ⟨r1, a, b⟩ := h
    by_cases g : r1.1 = true
    · rw [if_pos g] at b
      obtain ⟨k, a⟩ := a
      have k0 : KLt (dbl ((wrd f n (wrd f n s.1).2.2.1).2.2.1, s.2)) := fun c hc => (by cases hc)
      have t := zit_ko (ZZ_ko f n (lkn s.2.2.2) k) a g (hN := hD.1.1) (dwf_l hD.1) k0 hD.2.1 true (fun _ => alw_d (by decide))
      have u := zit_nm (lkn_L s.2.2.2) (ZZ_nm f n (lkn s.2.2.2) (lkn_L s.2.2.2) k).1 (ZZ_nm f n (lkn s.2.2.2) (lkn_L s.2.2.2) k).2 a g hD.2.2
      unfold dst at b
      by_cases q3 : r1.2.2.2.1.length = 300
      · rw [if_pos q3] at b
        exact (der_t b).elim
      · rw [if_neg q3] at b
        rw [dok_i b]
        refine ⟨kon_x t.1 (PRE.one _ _) (now_1 (show own 10 = 0 by decide)), nml_m (nml_s u.1 (fun z => absurd z (show ¬ ((10 : Int) = 30 ∨ (10 : Int) = 11 ∨ (10 : Int) = 14 ∨ (10 : Int) = 22) by decide))) ?_⟩
        show (s.2.2.2.length : Int) ≤ ((s.2.2.2 ++ [_]).length : Int)
        rw [List.length_append, List.length_singleton]
        omega
    · rw [if_neg g] at b
      exact (der_t b).elim
  · rw [if_neg c4] at h
    have key : ∀ (u p : Int), dok s' = dun f n s (wrd f n s.1).1 u p (wrd f n (wrd f n s.1).2.2.1).2.2.2.1 → KOn s'.2.1 ∧ NmL (s'.2.2.2.length : Int) s'.2.1 := fun u p e => (dun_ko e hD).2
    unfold dsg at h
    by_cases u : 1 ≤ (wrd f n (wrd f n (wrd f n s.1).2.2.1).2.2.1).1 ∧ (wrd f n (wrd f n (wrd f n s.1).2.2.1).2.2.1).1 ≤ 5
    · rw [if_pos u] at h
      by_cases b : (wrd f n (wrd f n (wrd f n (wrd f n s.1).2.2.1).2.2.1).2.2.1).1 = 33
      · rw [if_pos b] at h
        exact (der_t h).elim
      · rw [if_neg b] at h
        exact key _ _ h
    · rw [if_neg u] at h
      exact key _ _ h
theorem DP_ko (f : Int → Int) (n : Int) : ∀ (k : Nat) (s s' : DS), DP f n k s (dok s') → DKo s → DKo s' := by
  intro k
  induction k with
  | zero => exact fun _ _ h _ => False.elim h
  | succ k ih =>
    intro s s' h hD
    rw [DP_u] at h
    by_cases c : (wrd f n s.1).1 = 8 ∨ (wrd f n s.1).1 = 9 ∨ (wrd f n s.1).1 = 10
    · rw [if_pos c] at h
      obtain ⟨r1, a, b⟩ := h
      by_cases g : r1.1 = true
      · rw [if_pos g] at b
        have e := dcl_ok a g
        rw [e] at a
        exact ih _ _ b (dcl_ko a hD)
      · rw [if_neg g] at b
        exact absurd (show r1.1 = true from (congrArg Prod.fst b).symm) g
    · rw [if_neg c] at h
      rw [dok_i h]
      exact hD
/-- a program that is right -/
theorem pgm_ko {f : Int → Int} {n m : Int} {ns : List Nod} {nm : List Nm} {ks : List Nat} (h : PGM f n (true, 0, m, ns, nm, ks)) : KOn ns ∧ NmL (nm.length : Int) ns ∧ (∀ c ∈ ks, OwB ns false c) ∧ NWf (lkn nm) ns ∧ WNm ns nm ∧ ¬ tooM ns ks := by
  unfold PGM at h
  by_cases c : (wrd f n 0).1 = 33
  · rw [if_pos c] at h
    exact absurd (show true = false from congrArg Prod.fst h) (by decide)
  · rw [if_neg c] at h
    obtain ⟨k, d, a, b⟩ := h
    by_cases g : d.1 = true
    · rw [if_pos g] at b
      have e := DP_ok f n k _ _ a g
      rw [e] at a
      have D := DP_ko f n k _ _ a ⟨⟨fun i d hd => (by cases hd), fun i x hx => (by cases hx)⟩, fun i d hd => (by cases hd), fun i d hd => (by cases hd)⟩
      obtain ⟨z, ⟨kz, hz⟩, b⟩ := b
      by_cases gz : z.1 = true
      · rw [if_pos gz] at b
        have k0 : KLt (dbl d.2.2) := fun c hc => (by cases hc)
        have w := zit_wf (ZZ_wf f n (lkn d.2.2.2.2.2) kz) hz gz D.1.1 (dwf_l D.1) k0
        have t := zit_ko (ZZ_ko f n (lkn d.2.2.2.2.2) kz) hz gz D.1.1 (dwf_l D.1) k0 D.2.1 false (fun _ => alw_d (by decide))
        have u := zit_nm (lkn_L d.2.2.2.2.2) (ZZ_nm f n (lkn d.2.2.2.2.2) (lkn_L d.2.2.2.2.2) kz).1 (ZZ_nm f n (lkn d.2.2.2.2.2) (lkn_L d.2.2.2.2.2) kz).2 hz gz D.2.2
        rcases b with ⟨_, b⟩ | ⟨nt, b⟩
        · exact absurd (show true = false from congrArg Prod.fst b) (by decide)
        · have e1 : ns = z.2.2.2.1 := congrArg (fun r : Bool × Int × Int × List Nod × List Nm × List Nat => r.2.2.2.1) b
          have e2 : nm = d.2.2.2.2.2 := congrArg (fun r : Bool × Int × Int × List Nod × List Nm × List Nat => r.2.2.2.2.1) b
          have e3 : ks = z.2.2.2.2.2.1 := congrArg (fun r : Bool × Int × Int × List Nod × List Nm × List Nat => r.2.2.2.2.2) b
          rw [e1, e2, e3]
          obtain ⟨t1, t2, es, kk, t3, t4, t5⟩ := t
          have e0 : es = [] := List.length_eq_zero_iff.mp t4
          refine ⟨t1, u.1, fun c hc => ?_, w.1, fun i x hx x0 => t2.get (D.1.2 i x hx x0), nt⟩
          rw [t3, e0] at hc
          exact t5 c hc
      · rw [if_neg gz] at b
        exact absurd (show true = false from congrArg Prod.fst b) (by decide)
    · rw [if_neg g] at b
      exact absurd (show true = false from congrArg Prod.fst b) (by decide)
