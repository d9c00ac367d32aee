/-! the names in a program are names of it -/
def NmL (L : Int) (ns : List Nod) : Prop := ∀ (i : Nat) (d : Nod), ns[i]? = some d → (d.1 = 30 ∨ d.1 = 11 ∨ d.1 = 14 ∨ d.1 = 22) → 0 ≤ d.2.1 ∧ d.2.1 < L
def LkL (L : Int) (lk : List Int → Int × Int × Int × Int) : Prop := ∀ l, 0 ≤ (lk l).1 → (lk l).1 < L
theorem nml_s {L : Int} {ns : List Nod} {d : Nod} (h : NmL L ns) (hd : (d.1 = 30 ∨ d.1 = 11 ∨ d.1 = 14 ∨ d.1 = 22) → 0 ≤ d.2.1 ∧ d.2.1 < L) : NmL L (ns ++ [d]) := fun i x hx hk => by
  rcases app_get hx with q | ⟨_, q2⟩
  · exact h i x q hk
  · rw [q2] at hk ⊢
    exact hd hk
theorem lkn_L (nm : List Nm) : LkL (nm.length : Int) (lkn nm) := fun l h => by
  unfold lkn at h ⊢
  by_cases c : (lki l nm 0).2.1 = 10 ∧ (lki l nm 0).2.2.2 < 0
  · rw [if_pos c] at h
    exact absurd (show (0 : Int) ≤ -1 from h) (by decide)
  · rw [if_neg c] at h ⊢
    rcases lki_b l nm 0 with ⟨a, _, _⟩ | ⟨j, x, hx, _, e⟩
    · omega
    · have jl := (List.getElem?_eq_some_iff.mp hx).1
      rw [e]
      show 0 + (j : Int) < (nm.length : Int)
      omega
def XNm (L : Int) (X : XQ) : Prop := ∀ (m op : Nat) (u p : Int) (ns : List Nod) (r : XR), m ≤ 6 → X m op u p ns r → r.1 = true → NmL L ns → NmL L r.2.2.2.2
theorem xnd_nm {L : Int} {f : Int → Int} {n u p : Int} {ns : List Nod} {d : Nod} {r : XR} (e : r = xnd f n u p ns d) (g : r.1 = true) (h : NmL L ns) (hd : (d.1 = 30 ∨ d.1 = 11 ∨ d.1 = 14 ∨ d.1 = 22) → 0 ≤ d.2.1 ∧ d.2.1 < L) : NmL L r.2.2.2.2 := by
  rw [xnd_tx e g]
  exact nml_s h hd
theorem XP_nm (f : Int → Int) (n : Int) (lk : List Int → Int × Int × Int × Int) {L : Int} (hL : LkL L lk) : ∀ k, XNm L (XP f n lk k) := by
  intro k
  induction k with
  | zero => exact fun _ _ _ _ _ _ _ h => False.elim h
  | succ k ih =>
    intro m op u p ns r m6 h g hN
    rw [XP_u] at h
    by_cases c : m = 3
    · rw [if_pos c] at h
      unfold xfa at h
      by_cases k31 : (wrd f n p).1 = 31
      · rw [if_pos k31] at h
        unfold xfn at h
        have h := xgo_t h g
        by_cases big : 999999999999 < (wrd f n p).2.2.2.2.1 * xmu (wrd f n (wrd f n p).2.2.1).1
        · rw [if_pos big] at h
          exact (xer_t h g).elim
        · rw [if_neg big] at h
          by_cases uu : 0 < xut (wrd f n (wrd f n p).2.2.1).1
          · rw [if_pos uu] at h
            exact xnd_nm (xgo_t h g) g hN (fun z => absurd z (show ¬ ((31 : Int) = 30 ∨ (31 : Int) = 11 ∨ (31 : Int) = 14 ∨ (31 : Int) = 22) by decide))
          · rw [if_neg uu] at h
            exact xnd_nm h g hN (fun z => absurd z (show ¬ ((31 : Int) = 30 ∨ (31 : Int) = 11 ∨ (31 : Int) = 14 ∨ (31 : Int) = 22) by decide))
      · rw [if_neg k31] at h
        by_cases k40 : (wrd f n p).1 = 40 ∨ (wrd f n p).1 = 45
        · rw [if_pos k40] at h
          unfold xfo at h
          by_cases o : 20 ≤ op
          · rw [if_pos o] at h
            exact (xer_t h g).elim
          · rw [if_neg o] at h
            have h := xgo_t h g
            by_cases k45 : (wrd f n p).1 = 45
            · rw [if_pos k45] at h
              obtain ⟨r1, a, b⟩ := h
              by_cases g1 : r1.1 = true
              · rw [if_pos g1] at b
                exact xnd_nm b g (ih _ _ _ _ _ _ (by omega) a g1 hN) (fun z => absurd z (show ¬ ((34 : Int) = 30 ∨ (34 : Int) = 11 ∨ (34 : Int) = 14 ∨ (34 : Int) = 22) by decide))
              · rw [if_neg g1] at b
                rw [b] at g
                exact absurd g g1
            · rw [if_neg k45] at h
              obtain ⟨r1, a, b⟩ := h
              by_cases g1 : r1.1 = true
              · rw [if_pos g1] at b
                by_cases k41 : (wrd f n r1.2.2.2.1).1 = 41
                · rw [if_pos k41] at b
                  rw [xgo_t b g]
                  exact ih 1 _ _ _ _ r1 (by decide) a g1 hN
                · rw [if_neg k41] at b
                  exact (xer_t b g).elim
              · rw [if_neg g1] at b
                rw [b] at g
                exact absurd g g1
        · rw [if_neg k40] at h
          by_cases k30 : (wrd f n p).1 = 30 ∧ 0 ≤ (lk (wrd f n p).2.2.2.1).1 ∧ ¬ (lk (wrd f n p).2.2.2.1).2.1 = 10
          · rw [if_pos k30] at h
            exact xnd_nm (xgo_t h g) g hN (fun _ => ⟨k30.2.1, hL _ k30.2.1⟩)
          · rw [if_neg k30] at h
            exact (xer_t h g).elim
    · rw [if_neg c] at h
      by_cases d : m < 3
      · rw [if_pos d] at h
        obtain ⟨r1, a, b⟩ := h
        by_cases g1 : r1.1 = true
        · rw [if_pos g1] at b
          exact ih _ _ _ _ _ _ (by omega) b g (ih _ _ _ _ _ _ (by omega) a g1 hN)
        · rw [if_neg g1] at b
          rw [b] at g
          exact absurd g g1
      · rw [if_neg d] at h
        unfold xlo at h
        by_cases lv : lvo (wrd f n p).1 = m - 4
        · rw [if_pos lv] at h
          have h := xgo_t h g
          obtain ⟨r2, a, b⟩ := h
          by_cases g2 : r2.1 = true
          · rw [if_pos g2] at b
            have t2 := ih _ _ _ _ _ _ (by omega) a g2 hN
            by_cases x : xun (wrd f n p).1 u r2.2.2.1 < 0
            · rw [if_pos x] at b
              exact (xer_t b g).elim
            · rw [if_neg x] at b
              by_cases n3 : r2.2.2.2.2.length = 300
              · rw [if_pos n3] at b
                exact (xer_t b g).elim
              · rw [if_neg n3] at b
                have ho := lvo_o lv (by omega)
                have t3 : NmL L (r2.2.2.2.2 ++ [((wrd f n p).1, 0, 0, [ns.length - 1, r2.2.2.2.2.length - 1])]) := nml_s t2 (fun z => by
                  have z' : (wrd f n p).1 = 30 ∨ (wrd f n p).1 = 11 ∨ (wrd f n p).1 = 14 ∨ (wrd f n p).1 = 22 := z
                  omega)
                by_cases z : m - 4 = 0
                · rw [if_pos z] at b
                  rw [b]
                  exact t3
                · rw [if_neg z] at b
                  exact ih _ _ _ _ _ _ (by omega) b g t3
          · rw [if_neg g2] at b
            rw [b] at g
            exact absurd g g2
        · rw [if_neg lv] at h
          by_cases z : m - 4 = 0
          · rw [if_pos z] at h
            exact (xer_t h g).elim
          · rw [if_neg z] at h
            rw [h]
            exact hN
/-- the argument is a name -/
def AR (L : Int) (s : ZS) : Prop := 0 ≤ s.2.2.2.2.1 ∧ s.2.2.2.2.1 < L
def noA (l : List (Int × Int)) : Prop := ∀ i ∈ l, ¬ i.1 = 5
def ZNm (L : Int) (X : ZQ) : Prop := ∀ (op : Nat) (l : List (Int × Int)) (s : ZS) (r : ZR), X op l s r → r.1 = true → NmL L s.2.1 → NmL L r.2.2.2.1 ∧ (noA l → AR L s → AR L r.2.2)
theorem noa_c {i : Int × Int} {l : List (Int × Int)} (h : ¬ i.1 = 5) (hl : noA l) : noA (i :: l) := fun j hj => by
  rcases List.mem_cons.mp hj with e | e
  · rw [e]
    exact h
  · exact hl j e
theorem noa_0 : noA [] := fun j hj => (by cases hj)
theorem znd_nm {L : Int} {f : Int → Int} {n m : Int} {s t : ZS} {d : Nod} {r : ZR} (e : r = znd f n s t m d) (g : r.1 = true) (h : NmL L t.2.1) (hd : (d.1 = 30 ∨ d.1 = 11 ∨ d.1 = 14 ∨ d.1 = 22) → 0 ≤ d.2.1 ∧ d.2.1 < L) : NmL L r.2.2.2.1 ∧ (AR L s → AR L r.2.2) := by
  unfold znd at e
  by_cases c : t.2.1.length = 300
  · rw [if_pos c] at e
    exact (zer_t e g).elim
  · rw [if_neg c] at e
    rw [e]
    exact ⟨nml_s h hd, fun a => a⟩
theorem zit_nm {f : Int → Int} {n : Int} {lk : List Int → Int × Int × Int × Int} {L : Int} (hL : LkL L lk) {k op : Nat} {c a : Int} {s : ZS} {r : ZR} (hX : ZNm L (ZZ f n lk k)) (hA : ∀ (op : Nat) (l : List (Int × Int)) (i : Int × Int) (c : Int) (s : ZS) (r : ZR), ZZ f n lk k op (i :: (1, c) :: l) s r → r.1 = true → noA l → NmL L s.2.1 → AR L r.2.2) (h : zit f n lk (ZZ f n lk k) op c a s r) (g : r.1 = true) (hN : NmL L s.2.1) : NmL L r.2.2.2.1 ∧ (¬ c = 5 → AR L s → AR L r.2.2) ∧ (c = 1 → AR L r.2.2) := by
  have same : ¬ c = 1 → ∀ (s' : ZS), r = zok s' → s'.2.1 = s.2.1 → (¬ c = 5 → s'.2.2.2.2.1 = s.2.2.2.2.1) → NmL L r.2.2.2.1 ∧ (¬ c = 5 → AR L s → AR L r.2.2) ∧ (c = 1 → AR L r.2.2) := fun n1 s' e e1 e2 => by
    rw [e]
    show NmL L s'.2.1 ∧ (¬ c = 5 → AR L s → AR L s') ∧ (c = 1 → AR L s')
    rw [e1]
    refine ⟨hN, fun n5 A => ?_, fun z => absurd z n1⟩
    unfold AR
    rw [e2 n5]
    exact A
  have sum : ¬ c = 1 → ∀ (m : Nat) (x : XR), m ≤ 1 → (∃ k, XP f n lk k m op 0 s.1 s.2.1 x) → x.1 = true → r = zok (x.2.2.2.1, x.2.2.2.2, s.2.2.1, s.2.2.2.1 ++ [x.2.2.2.2.length - 1], s.2.2.2.2) → NmL L r.2.2.2.1 ∧ (¬ c = 5 → AR L s → AR L r.2.2) ∧ (c = 1 → AR L r.2.2) := fun n1 m x hm hx gx e => by
    obtain ⟨kk, hx⟩ := hx
    rw [e]
    exact ⟨XP_nm f n lk hL kk m _ _ _ _ _ (by omega) hx gx hN, fun _ A => A, fun z => absurd z n1⟩
  have rec0 : ¬ c = 1 → ∀ l, ZZ f n lk k op l s r → noA l → NmL L r.2.2.2.1 ∧ (¬ c = 5 → AR L s → AR L r.2.2) ∧ (c = 1 → AR L r.2.2) := fun n1 l h hl => by
    have t := hX _ _ _ _ h g hN
    exact ⟨t.1, fun _ => t.2 hl, fun z => absurd z n1⟩
  have two : ∀ i j : Int × Int, ¬ i.1 = 5 → ¬ j.1 = 5 → noA [i, j] := fun i j hi hj => noa_c hi (noa_c hj noa_0)
  unfold zit at h
  by_cases c0 : c = 0
  · rw [if_pos c0] at h
    unfold ztk at h
    by_cases q : (wrd f n s.1).1 = a
    · rw [if_pos q] at h
      exact same (by omega) _ (zgo_t h g) rfl (fun _ => rfl)
    · rw [if_neg q] at h
      exact (zer_t h g).elim
  rw [if_neg c0] at h
  by_cases c1 : c = 1
  · rw [if_pos c1] at h
    unfold znm at h
    by_cases q : (wrd f n s.1).1 = 30 ∧ 0 ≤ (lk (wrd f n s.1).2.2.2.1).1 ∧ (lk (wrd f n s.1).2.2.2.1).2.1 = a
    · rw [if_pos q] at h
      have e := zgo_t h g
      rw [e]
      exact ⟨hN, fun _ _ => ⟨q.2.1, hL _ q.2.1⟩, fun _ => ⟨q.2.1, hL _ q.2.1⟩⟩
    · rw [if_neg q] at h
      exact (zer_t h g).elim
  rw [if_neg c1] at h
  by_cases c2 : c = 2
  · rw [if_pos c2] at h
    obtain ⟨x, hx, b⟩ := h
    by_cases gx : x.1 = true
    · rw [if_pos gx] at b
      by_cases u : x.2.2.1 = (if a < 0 then s.2.2.2.2.2.1 else a)
      · rw [if_pos u] at b
        exact sum c1 1 x (by decide) hx gx b
      · rw [if_neg u] at b
        exact (zer_t b g).elim
    · rw [if_neg gx] at b
      exact (zer_t b g).elim
  rw [if_neg c2] at h
  by_cases c3 : c = 3
  · rw [if_pos c3] at h
    obtain ⟨x, hx, b⟩ := h
    by_cases gx : x.1 = true
    · rw [if_pos gx] at b
      exact sum c1 0 x (by decide) hx gx b
    · rw [if_neg gx] at b
      exact (zer_t b g).elim
  rw [if_neg c3] at h
  by_cases c4 : c = 4
  · rw [if_pos c4] at h
    unfold zbl at h
    by_cases q : (wrd f n s.1).1 = 123 ∧ op < 20
    · rw [if_pos q] at h
      obtain ⟨r1, x, b⟩ := h
      by_cases g1 : r1.1 = true
      · rw [if_pos g1] at b
        have t := (hX _ _ _ _ x g1 hN).1
        have u := znd_nm (L := L) b g t (fun z => absurd z (show ¬ ((35 : Int) = 30 ∨ (35 : Int) = 11 ∨ (35 : Int) = 14 ∨ (35 : Int) = 22) by decide))
        exact ⟨u.1, fun _ => u.2, fun z => absurd z c1⟩
      · rw [if_neg g1] at b
        rw [b] at g
        exact absurd g g1
    · rw [if_neg q] at h
      exact (zer_t h g).elim
  rw [if_neg c4] at h
  by_cases c5 : c = 5
  · rw [if_pos c5] at h
    unfold zac at h
    by_cases q : (wrd f n s.1).1 = 31 ∧ (wrd f n s.1).2.2.2.2.2 = false ∧ (wrd f n s.1).2.2.2.2.1 < 32000
    · rw [if_pos q] at h
      exact same c1 _ (zgo_t h g) rfl (fun z => absurd c5 z)
    · rw [if_neg q] at h
      exact (zer_t h g).elim
  rw [if_neg c5] at h
  by_cases c6 : c = 6
  · rw [if_pos c6] at h
    by_cases q : (wrd f n s.1).1 = 18
    · rw [if_pos q] at h
      exact rec0 c1 _ h (two _ _ (by decide) (by decide))
    · rw [if_neg q] at h
      exact same c1 s h rfl (fun _ => rfl)
  rw [if_neg c6] at h
  by_cases c7 : c = 7
  · rw [if_pos c7] at h
    by_cases q : (wrd f n s.1).1 = 123
    · rw [if_pos q] at h
      exact rec0 c1 _ h (two _ _ (by decide) (by decide))
    · rw [if_neg q] at h
      exact same c1 s h rfl (fun _ => rfl)
  rw [if_neg c7] at h
  by_cases c8 : c = 8
  · rw [if_pos c8] at h
    by_cases q : (wrd f n s.1).1 = 125
    · rw [if_pos q] at h
      exact same c1 s h rfl (fun _ => rfl)
    · rw [if_neg q] at h
      exact rec0 c1 _ h (two _ _ (by decide) (by decide))
  rw [if_neg c8] at h
  by_cases c9 : c = 9
  · rw [if_pos c9] at h
    unfold zst at h
    by_cases q : isS (wrd f n s.1).1 = true
    · rw [if_pos q] at h
      obtain ⟨r1, x, b⟩ := h
      by_cases g1 : r1.1 = true
      · rw [if_pos g1] at b
        have t := (hX _ _ _ _ x g1 hN).1
        have u := znd_nm (L := L) b g t (fun z => by
          have z' : (wrd f n s.1).1 = 30 ∨ (wrd f n s.1).1 = 11 ∨ (wrd f n s.1).1 = 14 ∨ (wrd f n s.1).1 = 22 := z
          have qq := isS_t.mp q
          show 0 ≤ r1.2.2.2.2.2.2.1 ∧ r1.2.2.2.2.2.2.1 < L
          rcases z' with e | e | e | e
          · omega
          · rw [e] at x
            exact hA op [(2, -1), (0, 59)] (0, 11) 9 (zin s) r1 x g1 (noa_c (by decide) (noa_c (by decide) noa_0)) hN
          · rw [e] at x
            exact hA op [(2, -1), (0, 15), (2, 3), (0, 59)] (0, 14) 9 (zin s) r1 x g1 (noa_c (by decide) (noa_c (by decide) (noa_c (by decide) (noa_c (by decide) noa_0)))) hN
          · rw [e] at x
            exact hA op [(0, 59)] (0, 22) 8 (zin s) r1 x g1 (noa_c (by decide) noa_0) hN)
        exact ⟨u.1, fun _ => u.2, fun z => absurd z c1⟩
      · rw [if_neg g1] at b
        rw [b] at g
        exact absurd g g1
    · rw [if_neg q] at h
      exact (zer_t h g).elim
  rw [if_neg c9] at h
  by_cases q : (wrd f n s.1).1 = 32
  · rw [if_pos q] at h
    exact same c1 s h rfl (fun _ => rfl)
  · rw [if_neg q] at h
    exact rec0 c1 _ h (two _ _ (by decide) (by decide))
theorem ZZ_nm (f : Int → Int) (n : Int) (lk : List Int → Int × Int × Int × Int) {L : Int} (hL : LkL L lk) : ∀ k, ZNm L (ZZ f n lk k) ∧ (∀ (op : Nat) (l : List (Int × Int)) (i : Int × Int) (c : Int) (s : ZS) (r : ZR), ZZ f n lk k op (i :: (1, c) :: l) s r → r.1 = true → noA l → NmL L s.2.1 → AR L r.2.2) := by
  intro k
  induction k with
  | zero => exact ⟨fun _ _ _ _ h => False.elim h, fun _ _ _ _ _ _ h => False.elim h⟩
  | succ k ih =>
    have step : ZNm L (ZZ f n lk (k + 1)) := by
      intro op l s r h g hN
      cases l with
      | nil =>
        rw [ZZ_n] at h
        rw [h]
        exact ⟨hN, fun _ A => A⟩
      | cons i is =>
        rw [ZZ_c] at h
        obtain ⟨r1, a, b⟩ := h
        by_cases g1 : r1.1 = true
        · rw [if_pos g1] at b
          have t := zit_nm hL ih.1 ih.2 a g1 hN
          have u := ih.1 _ _ _ _ b g t.1
          exact ⟨u.1, fun hl A => u.2 (fun j hj => hl j (List.mem_cons_of_mem _ hj)) (t.2.1 (hl i List.mem_cons_self) A)⟩
        · rw [if_neg g1] at b
          rw [b] at g
          exact absurd g g1
    refine ⟨step, fun op l i c s r h g hl hN => ?_⟩
    rw [ZZ_c] at h
    obtain ⟨r1, a, b⟩ := h
    by_cases g1 : r1.1 = true
    · rw [if_pos g1] at b
      have t := zit_nm hL ih.1 ih.2 a g1 hN
      cases k with
      | zero => exact False.elim b
      | succ k =>
        rw [ZZ_c] at b
        obtain ⟨r2, a2, b2⟩ := b
        by_cases g2 : r2.1 = true
        · rw [if_pos g2] at b2
          have m1 : ZLe (ZZ f n lk k) (ZZ f n lk (k + 1)) := ZZ_s f n lk k
          have t2 := zit_nm hL ih.1 ih.2 (zit_m m1 a2) g2 t.1
          exact (ih.1 _ _ _ _ (m1 _ _ _ _ b2) g t2.1).2 hl (t2.2.2 rfl)
        · rw [if_neg g2] at b2
          rw [b2] at g
          exact absurd g g2
    · rw [if_neg g1] at b
      rw [b] at g
      exact absurd g g1
