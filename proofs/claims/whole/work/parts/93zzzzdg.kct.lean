/-! how many blocks a statement has -/
def KCt (ns : List Nod) : Prop := ∀ (i : Nat) (d : Nod), ns[i]? = some d → (d.1 = 19 → d.2.2.2.length = 2) ∧ (d.1 = 20 → d.2.2.2.length = 3) ∧ (d.1 = 17 → 2 ≤ d.2.2.2.length)
theorem kct_s {ns : List Nod} {d : Nod} (h : KCt ns) (hd : (d.1 = 19 → d.2.2.2.length = 2) ∧ (d.1 = 20 → d.2.2.2.length = 3) ∧ (d.1 = 17 → 2 ≤ d.2.2.2.length)) : KCt (ns ++ [d]) := fun i x hx => by
  rcases app_get hx with q | ⟨_, q2⟩
  · exact h i x q
  · rw [q2]
    exact hd
theorem kct_o {ns ms : List Nod} (h : KCt ns) (hp : PRE ns ms) (ho : NOw ns ms) : KCt ms := fun i d hd => by
  by_cases q : i < ns.length
  · obtain ⟨t, et⟩ := id hp
    have hd' : ns[i]? = some d := by
      rw [et, List.getElem?_append_left q] at hd
      exact hd
    exact h i d hd'
  · have o := ho i d (by omega) hd
    have no : ∀ k : Int, isS k = true → ¬ d.1 = k := fun k hk e => by
      rw [e] at o
      unfold own at o
      rw [if_pos (Or.inl hk)] at o
      exact absurd o (by decide)
    exact ⟨fun z => absurd z (no 19 (by decide)), fun z => absurd z (no 20 (by decide)), fun z => absurd z (no 17 (by decide))⟩
/-- how many kids a piece adds -/
theorem zi_len {f : Int → Int} {n : Int} {lk : List Int → Int × Int × Int × Int} {X : ZQ} {op : Nat} {c a : Int} {s : ZS} {r : ZR} (h : zit f n lk X op c a s r) (g : r.1 = true) : (c = 0 → r.2.2.2.2.2.1.length = s.2.2.2.1.length) ∧ ((c = 2 ∨ c = 3 ∨ c = 4) → r.2.2.2.2.2.1.length = s.2.2.2.1.length + 1) := by
  unfold zit at h
  refine ⟨fun z => ?_, fun z => ?_⟩
  · rw [if_pos z] at h
    unfold ztk at h
    by_cases q : (wrd f n s.1).1 = a
    · rw [if_pos q] at h
      rw [zgo_t h g]
      rfl
    · rw [if_neg q] at h
      exact (zer_t h g).elim
  · rcases z with z | z | z
    · rw [if_neg (by omega), if_neg (by omega), if_pos z] at h
      obtain ⟨x, hx, b⟩ := h
      by_cases gx : x.1 = true
      · rw [if_pos gx] at b
        by_cases u : x.2.2.1 = (if a < 0 then s.2.2.2.2.2.1 else a)
        · rw [if_pos u] at b
          rw [b]
          show (s.2.2.2.1 ++ [x.2.2.2.2.length - 1]).length = _
          rw [List.length_append, List.length_singleton]
        · rw [if_neg u] at b
          exact (zer_t b g).elim
      · rw [if_neg gx] at b
        exact (zer_t b g).elim
    · rw [if_neg (by omega), if_neg (by omega), if_neg (by omega), if_pos z] at h
      obtain ⟨x, hx, b⟩ := h
      by_cases gx : x.1 = true
      · rw [if_pos gx] at b
        rw [b]
        show (s.2.2.2.1 ++ [x.2.2.2.2.length - 1]).length = _
        rw [List.length_append, List.length_singleton]
      · rw [if_neg gx] at b
        exact (zer_t b g).elim
    · rw [if_neg (by omega), if_neg (by omega), if_neg (by omega), if_neg (by omega), if_pos z] at h
      unfold zbl at h
      by_cases q : (wrd f n s.1).1 = 123 ∧ op < 20
      · rw [if_pos q] at h
        obtain ⟨r1, x, b⟩ := h
        by_cases g1 : r1.1 = true
        · rw [if_pos g1] at b
          unfold znd at b
          by_cases q3 : r1.2.2.2.1.length = 300
          · rw [if_pos q3] at b
            exact (zer_t b g).elim
          · rw [if_neg q3] at b
            rw [b]
            show (s.2.2.2.1 ++ [r1.2.2.2.1.length]).length = _
            rw [List.length_append, List.length_singleton]
        · rw [if_neg g1] at b
          rw [b] at g
          exact absurd g g1
      · rw [if_neg q] at h
        exact (zer_t h g).elim
/-- the first piece, and the rest -/
theorem zz_c1 {f : Int → Int} {n : Int} {lk : List Int → Int × Int × Int × Int} {k op : Nat} {i : Int × Int} {is : List (Int × Int)} {s : ZS} {r : ZR} (h : ZZ f n lk k op (i :: is) s r) (g : r.1 = true) : ∃ (k' : Nat) (r1 : ZR), r1.1 = true ∧ zit f n lk (ZZ f n lk k') op i.1 i.2 s r1 ∧ ZZ f n lk k' op is r1.2.2 r := by
  cases k with
  | zero => exact False.elim h
  | succ k =>
    rw [ZZ_c] at h
    obtain ⟨r1, a, b⟩ := h
    by_cases g1 : r1.1 = true
    · rw [if_pos g1] at b
      exact ⟨k, r1, g1, a, b⟩
    · rw [if_neg g1] at b
      rw [b] at g
      exact absurd g g1
theorem zz_n1 {f : Int → Int} {n : Int} {lk : List Int → Int × Int × Int × Int} {k op : Nat} {s : ZS} {r : ZR} (h : ZZ f n lk k op [] s r) : r = zok s := by
  cases k with
  | zero => exact False.elim h
  | succ k => exact h
theorem zz_19 {f : Int → Int} {n : Int} {lk : List Int → Int × Int × Int × Int} {k op : Nat} {s : ZS} {r : ZR} (h : ZZ f n lk k op [(0, 19), (2, 0), (4, 0)] s r) (g : r.1 = true) : r.2.2.2.2.2.1.length = s.2.2.2.1.length + 2 := by
  obtain ⟨k1, r1, g1, a1, h1⟩ := zz_c1 h g
  obtain ⟨k2, r2, g2, a2, h2⟩ := zz_c1 h1 g
  obtain ⟨k3, r3, g3, a3, h3⟩ := zz_c1 h2 g
  have e := zz_n1 h3
  have l1 := (zi_len a1 g1).1 rfl
  have l2 := (zi_len a2 g2).2 (Or.inl rfl)
  have l3 := (zi_len a3 g3).2 (Or.inr (Or.inr rfl))
  rw [e]
  show r3.2.2.2.2.2.1.length = _
  omega
theorem zz_20 {f : Int → Int} {n : Int} {lk : List Int → Int × Int × Int × Int} {k op : Nat} {s : ZS} {r : ZR} (h : ZZ f n lk k op [(0, 20), (3, 0), (4, 0), (0, 21), (4, 0)] s r) (g : r.1 = true) : r.2.2.2.2.2.1.length = s.2.2.2.1.length + 3 := by
  obtain ⟨k1, r1, g1, a1, h1⟩ := zz_c1 h g
  obtain ⟨k2, r2, g2, a2, h2⟩ := zz_c1 h1 g
  obtain ⟨k3, r3, g3, a3, h3⟩ := zz_c1 h2 g
  obtain ⟨k4, r4, g4, a4, h4⟩ := zz_c1 h3 g
  obtain ⟨k5, r5, g5, a5, h5⟩ := zz_c1 h4 g
  have e := zz_n1 h5
  have l1 := (zi_len a1 g1).1 rfl
  have l2 := (zi_len a2 g2).2 (Or.inr (Or.inl rfl))
  have l3 := (zi_len a3 g3).2 (Or.inr (Or.inr rfl))
  have l4 := (zi_len a4 g4).1 rfl
  have l5 := (zi_len a5 g5).2 (Or.inr (Or.inr rfl))
  rw [e]
  show r5.2.2.2.2.2.1.length = _
  omega
theorem zz_17 {f : Int → Int} {n : Int} {lk : List Int → Int × Int × Int × Int} {k op : Nat} {s : ZS} {r : ZR} (h : ZZ f n lk k op [(0, 17), (3, 0), (4, 0), (6, 0)] s r) (g : r.1 = true) : s.2.2.2.1.length + 2 ≤ r.2.2.2.2.2.1.length := by
  obtain ⟨k1, r1, g1, a1, h1⟩ := zz_c1 h g
  obtain ⟨k2, r2, g2, a2, h2⟩ := zz_c1 h1 g
  obtain ⟨k3, r3, g3, a3, h3⟩ := zz_c1 h2 g
  obtain ⟨k4, r4, g4, a4, h4⟩ := zz_c1 h3 g
  have e := zz_n1 h4
  have l1 := (zi_len a1 g1).1 rfl
  have l2 := (zi_len a2 g2).2 (Or.inr (Or.inl rfl))
  have l3 := (zi_len a3 g3).2 (Or.inr (Or.inr rfl))
  have l4 : r3.2.2.2.2.2.1.length ≤ r4.2.2.2.2.2.1.length := by
    have z : (if (wrd f n r3.2.2.1).1 = 18 then ZZ f n lk k4 op [(0, 18), (4, 0)] r3.2.2 r4 else r4 = zok r3.2.2) := a4
    by_cases q : (wrd f n r3.2.2.1).1 = 18
    · rw [if_pos q] at z
      obtain ⟨k5, r5, g5, a5, h5⟩ := zz_c1 z g4
      obtain ⟨k6, r6, g6, a6, h6⟩ := zz_c1 h5 g4
      have e6 := zz_n1 h6
      have l5 := (zi_len a5 g5).1 rfl
      have l6 := (zi_len a6 g6).2 (Or.inr (Or.inr rfl))
      rw [e6]
      show _ ≤ r6.2.2.2.2.2.1.length
      omega
    · rw [if_neg q] at z
      rw [z]
      exact Nat.le_refl _
  rw [e]
  show _ ≤ r4.2.2.2.2.2.1.length
  omega
def ZCt (X : ZQ) : Prop := ∀ (op : Nat) (l : List (Int × Int)) (s : ZS) (r : ZR), X op l s r → r.1 = true → KCt s.2.1 → KCt r.2.2.2.1
theorem znd_ct {f : Int → Int} {n m : Int} {s t : ZS} {d : Nod} {r : ZR} (e : r = znd f n s t m d) (g : r.1 = true) (h : KCt t.2.1) (hd : (d.1 = 19 → d.2.2.2.length = 2) ∧ (d.1 = 20 → d.2.2.2.length = 3) ∧ (d.1 = 17 → 2 ≤ d.2.2.2.length)) : KCt r.2.2.2.1 := by
  unfold znd at e
  by_cases c : t.2.1.length = 300
  · rw [if_pos c] at e
    exact (zer_t e g).elim
  · rw [if_neg c] at e
    rw [e]
    exact kct_s h hd
theorem zit_ct {f : Int → Int} {n : Int} {lk : List Int → Int × Int × Int × Int} {k op : Nat} {c a : Int} {s : ZS} {r : ZR} (hX : ZCt (ZZ f n lk k)) (h : zit f n lk (ZZ f n lk k) op c a s r) (g : r.1 = true) (hN : KCt s.2.1) : KCt r.2.2.2.1 := by
  have same : ∀ (s' : ZS), r = zok s' → s'.2.1 = s.2.1 → KCt r.2.2.2.1 := fun s' e e1 => by
    rw [e]
    show KCt s'.2.1
    rw [e1]
    exact hN
  have sum : ∀ (m : Nat) (x : XR), m ≤ 1 → (∃ k, XP f n lk k m op 0 s.1 s.2.1 x) → x.1 = true → r = zok (x.2.2.2.1, x.2.2.2.2, s.2.2.1, s.2.2.2.1 ++ [x.2.2.2.2.length - 1], s.2.2.2.2) → KCt r.2.2.2.1 := fun m x hm hx gx e => by
    obtain ⟨kk, hx⟩ := hx
    have ow := XP_own f n lk kk m _ _ _ _ _ (by omega) hx gx
    rw [e]
    exact kct_o hN ow.2 ow.1
  unfold zit at h
  by_cases c0 : c = 0
  · rw [if_pos c0] at h
    unfold ztk at h
    by_cases q : (wrd f n s.1).1 = a
    · rw [if_pos q] at h
      exact same _ (zgo_t h g) rfl
    · rw [if_neg q] at h
      exact (zer_t h g).elim
  rw [if_neg c0] at h
  by_cases c1 : c = 1
  · rw [if_pos c1] at h
    unfold znm at h
    by_cases q : (wrd f n s.1).1 = 30 ∧ 0 ≤ (lk (wrd f n s.1).2.2.2.1).1 ∧ (lk (wrd f n s.1).2.2.2.1).2.1 = a
    · rw [if_pos q] at h
      exact same _ (zgo_t h g) rfl
    · rw [if_neg q] at h
      exact (zer_t h g).elim
  rw [if_neg c1] at h
  by_cases c2 : c = 2
  · rw [if_pos c2] at h
    obtain ⟨x, hx, b⟩ := h
    by_cases gx : x.1 = true
    · rw [if_pos gx] at b
      by_cases u : x.2.2.1 = (if a < 0 then s.2.2.2.2.2.1 else a)
      · rw [if_pos u] at b
        exact sum 1 x (by decide) hx gx b
      · rw [if_neg u] at b
        exact (zer_t b g).elim
    · rw [if_neg gx] at b
      exact (zer_t b g).elim
  rw [if_neg c2] at h
  by_cases c3 : c = 3
  · rw [if_pos c3] at h
    obtain ⟨x, hx, b⟩ := h
    by_cases gx : x.1 = true
    · rw [if_pos gx] at b
      exact sum 0 x (by decide) hx gx b
    · rw [if_neg gx] at b
      exact (zer_t b g).elim
  rw [if_neg c3] at h
  by_cases c4 : c = 4
  · rw [if_pos c4] at h
    unfold zbl at h
    by_cases q : (wrd f n s.1).1 = 123 ∧ op < 20
    · rw [if_pos q] at h
      obtain ⟨r1, x, b⟩ := h
      by_cases g1 : r1.1 = true
      · rw [if_pos g1] at b
        exact znd_ct b g (hX _ _ _ _ x g1 hN) ⟨fun z => absurd (show (35 : Int) = 19 from z) (by decide), fun z => absurd (show (35 : Int) = 20 from z) (by decide), fun z => absurd (show (35 : Int) = 17 from z) (by decide)⟩
      · rw [if_neg g1] at b
        rw [b] at g
        exact absurd g g1
    · rw [if_neg q] at h
      exact (zer_t h g).elim
  rw [if_neg c4] at h
  by_cases c5 : c = 5
  · rw [if_pos c5] at h
    unfold zac at h
    by_cases q : (wrd f n s.1).1 = 31 ∧ (wrd f n s.1).2.2.2.2.2 = false ∧ (wrd f n s.1).2.2.2.2.1 < 32000
    · rw [if_pos q] at h
      exact same _ (zgo_t h g) rfl
    · rw [if_neg q] at h
      exact (zer_t h g).elim
  rw [if_neg c5] at h
  by_cases c6 : c = 6
  · rw [if_pos c6] at h
    by_cases q : (wrd f n s.1).1 = 18
    · rw [if_pos q] at h
      exact hX _ _ _ _ h g hN
    · rw [if_neg q] at h
      exact same s h rfl
  rw [if_neg c6] at h
  by_cases c7 : c = 7
  · rw [if_pos c7] at h
    by_cases q : (wrd f n s.1).1 = 123
    · rw [if_pos q] at h
      exact hX _ _ _ _ h g hN
    · rw [if_neg q] at h
      exact same s h rfl
  rw [if_neg c7] at h
  by_cases c8 : c = 8
  · rw [if_pos c8] at h
    by_cases q : (wrd f n s.1).1 = 125
    · rw [if_pos q] at h
      exact same s h rfl
    · rw [if_neg q] at h
      exact hX _ _ _ _ h g hN
  rw [if_neg c8] at h
  by_cases c9 : c = 9
  · rw [if_pos c9] at h
    unfold zst at h
    by_cases q : isS (wrd f n s.1).1 = true
    · rw [if_pos q] at h
      obtain ⟨r1, x, b⟩ := h
      by_cases g1 : r1.1 = true
      · rw [if_pos g1] at b
        refine znd_ct b g (hX _ _ _ _ x g1 hN) ⟨fun z => ?_, fun z => ?_, fun z => ?_⟩
        · have z' : (wrd f n s.1).1 = 19 := z
          rw [z'] at x
          exact zz_19 x g1
        · have z' : (wrd f n s.1).1 = 20 := z
          rw [z'] at x
          exact zz_20 x g1
        · have z' : (wrd f n s.1).1 = 17 := z
          rw [z'] at x
          exact zz_17 x g1
      · rw [if_neg g1] at b
        rw [b] at g
        exact absurd g g1
    · rw [if_neg q] at h
      exact (zer_t h g).elim
  rw [if_neg c9] at h
  by_cases q : (wrd f n s.1).1 = 32
  · rw [if_pos q] at h
    exact same s h rfl
  · rw [if_neg q] at h
    exact hX _ _ _ _ h g hN
theorem ZZ_ct (f : Int → Int) (n : Int) (lk : List Int → Int × Int × Int × Int) : ∀ k, ZCt (ZZ f n lk k) := by
  intro k
  induction k with
  | zero => exact fun _ _ _ _ h => False.elim h
  | succ k ih =>
    intro op l s r h g hN
    cases l with
    | nil =>
      rw [ZZ_n] at h
      rw [h]
      exact hN
    | cons i is =>
      rw [ZZ_c] at h
      obtain ⟨r1, a, b⟩ := h
      by_cases g1 : r1.1 = true
      · rw [if_pos g1] at b
        exact ih _ _ _ _ b g (zit_ct ih a g1 hN)
      · rw [if_neg g1] at b
        rw [b] at g
        exact absurd g g1
theorem dun_ct {f : Int → Int} {n c u p : Int} {s s' : DS} {l : List Int} (h : dok s' = dun f n s c u p l) (hD : KCt s.2.1) : KCt s'.2.1 := by
  unfold dun at h
  by_cases k : (wrd f n p).1 = 59
  · rw [if_pos k] at h
    by_cases b : (wrd f n (wrd f n p).2.2.1).1 = 33
    · rw [if_pos b] at h
      exact (der_t h).elim
    · rw [if_neg b] at h
      rw [dok_i h]
      exact hD
  · rw [if_neg k] at h
    exact (der_t h).elim
theorem dcl_ct {f : Int → Int} {n : Int} {s s' : DS} (h : dcl f n s (dok s')) (hD : KCt s.2.1) : KCt s'.2.1 := by
  unfold dcl at h
  by_cases c1 : (wrd f n (wrd f n s.1).2.2.1).1 = 33
  · rw [if_pos c1] at h
    exact (der_t h).elim
  rw [if_neg c1] at h
  by_cases c2 : ¬ ((wrd f n (wrd f n s.1).2.2.1).1 = 30 ∧ (lki (wrd f n (wrd f n s.1).2.2.1).2.2.2.1 s.2.2.2 0).1 < 0 ∧ s.2.2.2.length < 40)
  · rw [if_pos c2] at h
    exact (der_t h).elim
  rw [if_neg c2] at h
  by_cases c3 : (wrd f n (wrd f n (wrd f n s.1).2.2.1).2.2.1).1 = 33
  · rw [if_pos c3] at h
    exact (der_t h).elim
  rw [if_neg c3] at h
  by_cases c4 : (wrd f n s.1).1 = 10
  · rw [if_pos c4] at h
    obtain ⟨r1, a, b⟩ := h
    by_cases g : r1.1 = true
    · rw [if_pos g] at b
      obtain ⟨k, a⟩ := a
      have t := zit_ct (ZZ_ct f n (lkn s.2.2.2) k) a g hD
      unfold dst at b
      by_cases q3 : r1.2.2.2.1.length = 300
      · rw [if_pos q3] at b
        exact (der_t b).elim
      · rw [if_neg q3] at b
        rw [dok_i b]
        exact kct_o t (PRE.one _ _) (now_1 (show own 10 = 0 by decide))
    · rw [if_neg g] at b
      exact (der_t b).elim
  · rw [if_neg c4] at h
    unfold dsg at h
    by_cases u : 1 ≤ (wrd f n (wrd f n (wrd f n s.1).2.2.1).2.2.1).1 ∧ (wrd f n (wrd f n (wrd f n s.1).2.2.1).2.2.1).1 ≤ 5
    · rw [if_pos u] at h
      by_cases b : (wrd f n (wrd f n (wrd f n (wrd f n s.1).2.2.1).2.2.1).2.2.1).1 = 33
      · rw [if_pos b] at h
        exact (der_t h).elim
      · rw [if_neg b] at h
        exact dun_ct h hD
    · rw [if_neg u] at h
      exact dun_ct h hD
theorem DP_ct (f : Int → Int) (n : Int) : ∀ (k : Nat) (s s' : DS), DP f n k s (dok s') → KCt s.2.1 → KCt s'.2.1 := by
  intro k
  induction k with
  | zero => exact fun _ _ h _ => False.elim h
  | succ k ih =>
    intro s s' h hD
    rw [DP_u] at h
    by_cases c : (wrd f n s.1).1 = 8 ∨ (wrd f n s.1).1 = 9 ∨ (wrd f n s.1).1 = 10
    · rw [if_pos c] at h
      obtain ⟨r1, a, b⟩ := h
      by_cases g : r1.1 = true
      · rw [if_pos g] at b
        have e := dcl_ok a g
        rw [e] at a
        exact ih _ _ b (dcl_ct a hD)
      · rw [if_neg g] at b
        exact absurd (show r1.1 = true from (congrArg Prod.fst b).symm) g
    · rw [if_neg c] at h
      rw [dok_i h]
      exact hD
theorem pgm_ct {f : Int → Int} {n m : Int} {ns : List Nod} {nm : List Nm} {ks : List Nat} (h : PGM f n (true, 0, m, ns, nm, ks)) : KCt ns := by
  unfold PGM at h
  by_cases c : (wrd f n 0).1 = 33
  · rw [if_pos c] at h
    exact absurd (show true = false from congrArg Prod.fst h) (by decide)
  · rw [if_neg c] at h
    obtain ⟨k, d, a, b⟩ := h
    by_cases g : d.1 = true
    · rw [if_pos g] at b
      have e := DP_ok f n k _ _ a g
      rw [e] at a
      have D := DP_ct f n k _ _ a (fun i d hd => (by cases hd))
      obtain ⟨z, ⟨kz, hz⟩, b⟩ := b
      by_cases gz : z.1 = true
      · rw [if_pos gz] at b
        have w := zit_ct (ZZ_ct f n (lkn d.2.2.2.2.2) kz) hz gz D
        rcases b with ⟨_, b⟩ | ⟨nt, b⟩
        · exact absurd (show true = false from congrArg Prod.fst b) (by decide)
        · have e1 : ns = z.2.2.2.1 := congrArg (fun r : Bool × Int × Int × List Nod × List Nm × List Nat => r.2.2.2.1) b
          rw [e1]
          exact w
      · rw [if_neg gz] at b
        exact absurd (show true = false from congrArg Prod.fst b) (by decide)
    · rw [if_neg g] at b
      exact absurd (show true = false from congrArg Prod.fst b) (by decide)
