/-! a way is closed: the house stays one -/
theorem ctb_s (f : Nat → Bool) (n : Nat) : ctb f (n + 1) = ctb f n + (if f n = true then 1 else 0) := rfl
theorem ctb_n (f : Nat → Bool) : ∀ n, ctb f n ≤ n := by
  intro n
  induction n with
  | zero => exact Nat.le_refl _
  | succ n ih =>
    rw [ctb_s]
    by_cases q : f n = true
    · rw [if_pos q]
      omega
    · rw [if_neg q]
      omega
/-- one is left out -/
def sg (k j : Nat) : Nat := if j < k then j else j + 1
theorem ctb_sh (f : Nat → Bool) (k : Nat) : ∀ n, k ≤ n → ctb (fun j => f (sg k j)) n + (if f k = true then 1 else 0) = ctb f (n + 1) := by
  intro n
  induction n with
  | zero =>
    intro h
    rw [show k = 0 by omega, ctb_s]
    rfl
  | succ n ih =>
    intro h
    by_cases q : k ≤ n
    · rw [ctb_s (fun j => f (sg k j)) n, ctb_s f (n + 1), ← ih q]
      have e : sg k n = n + 1 := if_neg (by omega)
      show ctb (fun j => f (sg k j)) n + (if f (sg k n) = true then 1 else 0) + _ = _
      rw [e]
      omega
    · have e : k = n + 1 := by omega
      rw [ctb_s f (n + 1), e]
      congr 1
      exact ctb_same _ (fun x hx => by
        show f (sg (n + 1) x) = f x
        rw [show sg (n + 1) x = x from if_pos (by omega)])
theorem ctb_0 {f : Nat → Bool} : ∀ n, ctb f n = 0 → ∀ x, x < n → f x = false := by
  intro n
  induction n with
  | zero => exact fun _ x hx => by omega
  | succ n ih =>
    intro h x hx
    rw [ctb_s] at h
    by_cases q : f n = true
    · rw [if_pos q] at h
      omega
    · rw [if_neg q] at h
      by_cases e : x = n
      · rw [e]
        exact Bool.eq_false_iff.mpr q
      · exact ih (by omega) x (by omega)
def lCw : Pl := [(16, none), (26, some 1), (27, none), (28, none), (29, none), (30, none), (31, none), (32, none), (33, none), (36, none), (37, none), (127, some 26), (167, none), (181, none), (182, none), (183, none), (184, none), (185, none), (186, none), (187, none)]
/-- way k is gone: N are left -/
def CwF (z z' : MW) (k N : Nat) : Prop := (∀ m : Pl, off lCw m = true → Ag m z z') ∧ z'.1 26 1 = z'.1 127 26 ∧ (z'.1 127 26).toInt = N ∧ N + 1 = nwy z ∧ k ≤ N ∧ (∀ c j, shC c = true ∨ msC c = true → j < N → z'.1 c j = z.1 c (sg k j)) ∧ (∀ j i, j < N → i < 24 → z'.1 186 (24 * j + i) = z.1 186 (24 * sg k j + i)) ∧ (∀ j i, j < N → i < 20 → z'.1 187 (20 * j + i) = z.1 187 (20 * sg k j + i)) ∧ (∀ p, ((∃ i, i < wln z k ∧ ent z k i / 2 = p) → z'.1 36 p = 0) ∧ ((∀ i, i < wln z k → ¬ ent z k i / 2 = p) → z'.1 36 p = z.1 36 p)) ∧ (∀ t, ((∃ i, i + 1 < wln z k ∧ (atM z (ent z k (i + 1))).toNat = t) → z'.1 37 t = z.1 37 t - 1 ∧ z'.1 16 t = (if (z.1 37 t - 1).toInt = 0 ∧ ¬ (z.1 9 t).toInt = 8 then (if (z.1 9 t).toInt = 1 then 2 else 0) else z.1 16 t)) ∧ ((∀ i, i + 1 < wln z k → ¬ (atM z (ent z k (i + 1))).toNat = t) → z'.1 37 t = z.1 37 t ∧ z'.1 16 t = z.1 16 t)) ∧ (∀ t : Nat, (t : Int) < tM z → (clT z k t → z'.1 167 t = clX z t) ∧ (¬ clT z k t → z'.1 167 t = z.1 167 t))
theorem sg_lt {k N j : Nat} (hj : j < N) : sg k j < N + 1 ∧ ¬ sg k j = k := by
  unfold sg
  by_cases q : j < k
  · rw [if_pos q]
    omega
  · rw [if_neg q]
    omega
theorem sg_i {k a b : Nat} (h : sg k a = sg k b) : a = b := by
  unfold sg at h
  by_cases q : a < k
  · rw [if_pos q] at h
    by_cases q2 : b < k
    · rw [if_pos q2] at h
      exact h
    · rw [if_neg q2] at h
      omega
  · rw [if_neg q] at h
    by_cases q2 : b < k
    · rw [if_pos q2] at h
      omega
    · rw [if_neg q2] at h
      omega
theorem sg_on {k N x : Nat} (hx : x < N + 1) (nx : ¬ x = k) (hk : k ≤ N) : ∃ j, j < N ∧ sg k j = x := by
  by_cases q : x < k
  · exact ⟨x, by omega, if_pos q⟩
  · refine ⟨x - 1, by omega, ?_⟩
    unfold sg
    rw [if_neg (by omega)]
    omega
/-- where the things of way k stand and are counted -/
theorem cw_t {z z' : MW} {k N : Nat} (P : pM z ≤ 24) (T : 0 ≤ tM z ∧ tM z ≤ 20) (hp : HPl z) (hy : HWy z) (f : CwF z z' k N) {t : Nat} (ht : (t : Int) < tM z) : (z'.1 37 t).toInt = ctb (hldB z' t) N ∧ z'.1 16 t = z'.1 167 t ∧ ((∃ j, j < N ∧ hldB z' t j = true) → z'.1 167 t = z.1 167 t) := by
  obtain ⟨ag, f1, f2, f3, f4, f5, f6, f7, f8, f9, f10⟩ := f
  obtain ⟨hy1, hy2, hy3, hy4, hy5, hy6⟩ := hy
  have n := w_n hy1
  have kn : k < nwy z := by omega
  have e37 := hy5.2.2 t ht
  have hs : ∀ j, j < N → hldB z' t j = hldB z t (sg k j) := fun j hj => by
    unfold hldB
    rw [f7 j t hj (by omega)]
  have cs : ctb (hldB z' t) N = ctb (fun j => hldB z t (sg k j)) N := ctb_same _ hs
  have sh := ctb_sh (hldB z t) k N f4
  rw [f3] at sh
  have le := ctb_n (hldB z t) (nwy z)
  have on : hldB z t k = true ↔ ∃ i, i + 1 < wln z k ∧ (atM z (ent z k (i + 1))).toNat = t := by
    unfold hldB
    rw [decide_eq_true_iff, hy5.1 k t kn ht]
    constructor
    · intro q
      obtain ⟨i, q1, q2⟩ := q
      exact ⟨i, q1, by omega⟩
    · intro q
      obtain ⟨i, q1, q2⟩ := q
      exact ⟨i, q1, by have := ((hy4 k kn).2.2.1 i q1).2.1; omega⟩
  have kd := hp.1.2.2.1 t ht
  by_cases q : ∃ i, i + 1 < wln z k ∧ (atM z (ent z k (i + 1))).toNat = t
  · have hk : hldB z t k = true := on.mpr q
    rw [if_pos hk] at sh
    have F := (f9 t).1 q
    have em : (z.1 37 t - 1).toInt = (z.1 37 t).toInt - 1 := ti_sub2 rfl i_1 (by omega) (by omega)
    have ntk : ¬ (z.1 163 t).toInt = 0 := by
      obtain ⟨i, q1, q2⟩ := q
      have D := (hy4 k kn).2.2.1 i q1
      have e : (atM z (ent z k (i + 1))) = (t : Int) := by omega
      have D2 := D.2.2
      rw [e] at D2
      exact D2
    have kk : ((z.1 9 t).toInt = 8 ↔ ¬ 2 ≤ (z.1 163 t).toInt) ∧ (2 ≤ (z.1 163 t).toInt → ((z.1 9 t).toInt = 1 ↔ (z.1 163 t).toInt = 3)) := by
      have e := kd.2.1
      unfold kC kmp at e
      have b := kd.1
      by_cases c1 : (z.1 163 t).toInt = 1
      · rw [if_neg ntk, if_pos c1] at e
        omega
      · rw [if_neg ntk, if_neg c1] at e
        omega
    have ones : (z.1 37 t - 1).toInt = 0 ↔ ∀ k' : Nat, (k' : Int) < (z.1 127 26).toInt → ¬ k' = k → (z.1 187 (20 * k' + t)).toInt = -1 := by
      constructor
      · intro e k' hk' nk
        have z0 : ctb (fun j => hldB z t (sg k j)) N = 0 := by omega
        obtain ⟨j, hj, ej⟩ := sg_on (k := k) (N := N) (x := k') (by omega) nk f4
        have q3 := ctb_0 N z0 j hj
        rw [ej] at q3
        unfold hldB at q3
        exact Classical.not_not.mp (of_decide_eq_false q3)
      · intro al
        have z0 : ctb (fun j => hldB z t (sg k j)) N = 0 := ctb_z _ (fun j hj => by
          have s := sg_lt (k := k) hj
          unfold hldB
          exact decide_eq_false (fun c => c (al (sg k j) (by omega) s.2)))
        omega
    have ct : clT z k t ↔ ((z.1 37 t - 1).toInt = 0 ∧ ¬ (z.1 9 t).toInt = 8) := by
      unfold clT
      rw [ones, kk.1]
      have hk' : ¬ (z.1 187 (20 * k + t)).toInt = -1 := by
        unfold hldB at hk
        exact of_decide_eq_true hk
      constructor
      · intro c
        exact ⟨c.2.2, fun c2 => c2 c.2.1⟩
      · intro c
        exact ⟨hk', Classical.not_not.mp c.2, c.1⟩
    refine ⟨?_, ?_, fun ex => ?_⟩
    · rw [F.1, cs]
      omega
    · rw [F.2]
      by_cases c : (z.1 37 t - 1).toInt = 0 ∧ ¬ (z.1 9 t).toInt = 8
      · rw [if_pos c, (f10 t ht).1 (ct.mpr c)]
        unfold clX
        have v2 : 2 ≤ (z.1 163 t).toInt := (ct.mpr c).2.1
        have k2 := kk.2 v2
        by_cases c3 : (z.1 9 t).toInt = 1
        · rw [if_pos c3, if_pos (k2.mp c3)]
        · rw [if_neg c3, if_neg (fun c4 => c3 (k2.mpr c4))]
      · rw [if_neg c, (f10 t ht).2 (fun c2 => c (ct.mp c2))]
        exact kd.2.2
    · refine (f10 t ht).2 (fun c => ?_)
      obtain ⟨j, hj, ej⟩ := ex
      have s := sg_lt (k := k) hj
      rw [hs j hj] at ej
      unfold hldB at ej
      exact (of_decide_eq_true ej) (c.2.2 (sg k j) (by omega) s.2)
  · have hk : ¬ hldB z t k = true := fun c => q (on.mp c)
    rw [if_neg hk] at sh
    have F := (f9 t).2 (fun i hi e => q ⟨i, hi, e⟩)
    have nc : ¬ clT z k t := fun c => by
      refine hk ?_
      unfold hldB
      exact decide_eq_true c.1
    have e167 := (f10 t ht).2 nc
    refine ⟨?_, ?_, fun _ => e167⟩
    · rw [F.1, cs]
      omega
    · rw [F.2, e167]
      exact kd.2.2
theorem cw_wy {z z' : MW} {k N : Nat} (P : pM z ≤ 24) (T : 0 ≤ tM z ∧ tM z ≤ 20) (hp : HPl z) (hy : HWy z) (f : CwF z z' k N) : HWy z' := by
  have ct := fun (t : Nat) (ht : (t : Int) < tM z) => cw_t P T hp hy f ht
  obtain ⟨ag, f1, f2, f3, f4, f5, f6, f7, f8, f9, f10⟩ := f
  obtain ⟨hy1, hy2, hy3, hy4, hy5, hy6⟩ := hy
  have n := w_n hy1
  obtain ⟨m1, m2, m3, m4⟩ := tM_m (ag lPm rfl)
  have nn : nwy z' = N := by
    unfold nwy
    omega
  have sn : ∀ j, j < N → sg k j < nwy z := fun j hj => by
    have := (sg_lt (k := k) hj).1
    omega
  have fl : ∀ j, j < N → wln z' j = wln z (sg k j) := fun j hj => by
    unfold wln
    rw [f5 185 j (Or.inr rfl) hj]
  have l24 : ∀ j, j < N → wln z (sg k j) ≤ 24 := fun j hj => (w_l hy1 (sn j hj)).2.2
  have fe : ∀ j i, j < N → i < wln z (sg k j) → ent z' j i = ent z (sg k j) i := fun j i hj hi => by
    unfold ent
    rw [f6 j i hj (by have := l24 j hj; omega)]
  have on : ∀ p, onN z' p ↔ ∃ j i, j < N ∧ i < wln z (sg k j) ∧ ent z (sg k j) i / 2 = p := fun p => by
    unfold onN
    rw [nn]
    constructor
    · intro q
      obtain ⟨j, i, hj, hi, e⟩ := q
      rw [fl j hj] at hi
      rw [fe j i hj hi] at e
      exact ⟨j, i, hj, hi, e⟩
    · intro q
      obtain ⟨j, i, hj, hi, e⟩ := q
      exact ⟨j, i, hj, by rw [fl j hj]; exact hi, by rw [fe j i hj hi]; exact e⟩
  refine ⟨?_, ?_, ?_, ?_, ?_, ?_⟩
  · unfold WRa
    rw [nn, m1, m4]
    refine ⟨f1, by omega, by omega, fun j hj => ?_⟩
    rw [f5 27 j (Or.inl rfl) hj, f5 28 j (Or.inl rfl) hj, f5 29 j (Or.inl rfl) hj, f5 30 j (Or.inl rfl) hj, f5 31 j (Or.inl rfl) hj, f5 181 j (Or.inr rfl) hj, f5 182 j (Or.inr rfl) hj, f5 183 j (Or.inr rfl) hj, f5 184 j (Or.inr rfl) hj, f5 185 j (Or.inr rfl) hj]
    exact hy1.2.2.2 (sg k j) (sn j hj)
  · unfold WRb
    rw [nn, m2]
    intro j hj
    have B := hy2 (sg k j) (sn j hj)
    have l1 := (w_l hy1 (sn j hj)).2.1
    rw [fl j hj, f5 32 j (Or.inl rfl) hj, f5 33 j (Or.inl rfl) hj, fe j 0 hj (by omega), fe j _ hj (by omega)]
    refine ⟨fun i hi => ?_, B.2⟩
    have B1 := B.1 i hi
    rw [f6 j i hj (by have := l24 j hj; omega), fe j i hj hi, ag [(34, none)] rfl 34 _ rfl, ag [(35, none)] rfl 35 _ rfl]
    refine ⟨B1.1, B1.2.1, ?_⟩
    rw [B1.2.2]
    by_cases c : i + 1 < wln z (sg k j)
    · rw [if_pos c, if_pos c, fe j (i + 1) hj c]
    · rw [if_neg c, if_neg c]
  · unfold WRc
    rw [nn, m2]
    refine ⟨fun p hp' => ?_, fun a i b i' ha hi hb hi' e => ?_⟩
    · rw [on p]
      by_cases q : ∃ i, i < wln z k ∧ ent z k i / 2 = p
      · rw [(f8 p).1 q]
        refine ⟨fun _ c => ?_, fun _ => i_0⟩
        obtain ⟨i, hi, e⟩ := q
        obtain ⟨j, i', hj, hi', e'⟩ := c
        have := (hy3.2 (sg k j) i' k i (sn j hj) hi' (by omega) hi (by rw [e', e])).1
        exact (sg_lt (k := k) hj).2 this
      · rw [(f8 p).2 (fun i hi e => q ⟨i, hi, e⟩), hy3.1 p hp']
        constructor
        · intro c d
          obtain ⟨j, i, hj, hi, e⟩ := d
          exact c ⟨sg k j, i, sn j hj, hi, e⟩
        · intro c d
          obtain ⟨x, i, hx, hi, e⟩ := d
          by_cases xk : x = k
          · rw [xk] at hi e
            exact q ⟨i, hi, e⟩
          · obtain ⟨j, hj, ej⟩ := sg_on (k := k) (N := N) (x := x) (by omega) xk f4
            exact c ⟨j, i, hj, by rw [ej]; exact hi, by rw [ej]; exact e⟩
    · rw [fl a ha] at hi
      rw [fl b hb] at hi'
      rw [fe a i ha hi, fe b i' hb hi'] at e
      have r := hy3.2 _ _ _ _ (sn a ha) hi (sn b hb) hi' e
      exact ⟨sg_i r.1, r.2⟩
  · unfold WRd
    rw [nn, m3, m4]
    intro j hj
    have D := hy4 (sg k j) (sn j hj)
    have l1 := (w_l hy1 (sn j hj)).2.1
    rw [fl j hj, f5 181 j (Or.inr rfl) hj, f5 182 j (Or.inr rfl) hj, fe j 0 hj (by omega), fe j _ hj (by omega)]
    refine ⟨D.1, D.2.1, fun i hi => ?_, fun a b ha hb e => ?_⟩
    · rw [fe j i hj (by omega), fe j (i + 1) hj hi]
      exact D.2.2.1 i hi
    · rw [fe j (a + 1) hj ha, fe j (b + 1) hj hb] at e
      exact D.2.2.2 a b ha hb e
  · unfold WRe
    rw [nn, m1, m3]
    refine ⟨fun j t hj ht => ?_, fun j t hj ht n1 k2 => ?_, fun t ht => (ct t ht).1⟩
    · rw [f7 j t hj (by omega), fl j hj, hy5.1 (sg k j) t (sn j hj) ht]
      constructor
      · intro q
        obtain ⟨i, q1, q2⟩ := q
        exact ⟨i, q1, by rw [fe j (i + 1) hj q1]; exact q2⟩
      · intro q
        obtain ⟨i, q1, q2⟩ := q
        rw [fe j (i + 1) hj q1] at q2
        exact ⟨i, q1, q2⟩
    · rw [m1] at ht
      have hj' : j < N := by omega
      have held : hldB z' t j = true := by
        unfold hldB
        exact decide_eq_true n1
      rw [(ct t ht).2.2 ⟨j, hj', held⟩]
      rw [f7 j t hj' (by omega)] at n1 ⊢
      rw [ag [(163, none)] rfl 163 t rfl] at k2
      exact hy5.2.1 (sg k j) t (by have := sn j hj'; omega) ht n1 k2
  · unfold WRf
    rw [nn, m1]
    intro j i hj hi
    rw [fl j hj] at hi
    rw [fe j i hj hi, f5 183 j (Or.inr rfl) hj, ag [(17, none)] rfl 17 _ rfl]
    exact hy6 (sg k j) i (sn j hj) hi
theorem cw_hr {z z' : MW} {k N : Nat} (P : pM z ≤ 24) (T : 0 ≤ tM z ∧ tM z ≤ 20) (hr : HRq z) (f : CwF z z' k N) (h20 : ∀ j, z'.2.1 20 j = z.2.1 20 j) : HRq z' := ⟨HPl_p (f.1 lP0 rfl) (fun t ht => (cw_t P T hr.1 hr.2.2.2 f ht).2.1) hr.1, HTb_ag (f.1 lTq rfl) hr.2.1, HSk_p (f.1 lPm rfl) (f.1 lSk rfl) h20 hr.2.2.1, cw_wy P T hr.1 hr.2.2.2 f⟩
