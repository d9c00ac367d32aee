/-! the kids of what is read lie among what is read -/
def KLo (N L : Nat) (ms : List Nod) : Prop := ∀ (i : Nat) (d : Nod), N ≤ i → ms[i]? = some d → ¬ own d.1 = 0 → ∀ c ∈ d.2.2.2, L ≤ c
def ZLo (lk : List Int → Int × Int × Int × Int) (X : ZQ) : Prop := ∀ (op : Nat) (l : List (Int × Int)) (s : ZS) (r : ZR), X op l s r → r.1 = true → NWf lk s.2.1 → LkB lk s.2.1 → KLt s → ∀ L : Nat, L ≤ s.2.1.length → (∀ c ∈ s.2.2.2.1, L ≤ c) → KLo s.2.1.length L r.2.2.2.1 ∧ ∀ c ∈ r.2.2.2.2.2.1, L ≤ c
theorem klo_0 (ns : List Nod) (L : Nat) : KLo ns.length L ns := fun i d hi hd => by
  have := (List.getElem?_eq_some_iff.mp hd).1
  omega
theorem klo_t {N M L : Nat} {ns ms : List Nod} (h : KLo N L ns) (hp : PRE ns ms) (h2 : KLo ns.length M ms) (hL : L ≤ M) : KLo N L ms := fun i d hi hd hn c hc => by
  by_cases q : i < ns.length
  · obtain ⟨t, et⟩ := hp
    rw [et, List.getElem?_append_left q] at hd
    exact h i d hi hd hn c hc
  · have := h2 i d (by omega) hd hn c hc
    omega
theorem znd_lo {f : Int → Int} {n m : Int} {s t : ZS} {d : Nod} {r : ZR} {L : Nat} (e : r = znd f n s t m d) (g : r.1 = true) (hp : PRE s.2.1 t.2.1) (hL : L ≤ s.2.1.length) (hs : ∀ c ∈ s.2.2.2.1, L ≤ c) (hk : KLo s.2.1.length s.2.1.length t.2.1) (hd : ∀ c ∈ d.2.2.2, s.2.1.length ≤ c) : KLo s.2.1.length L r.2.2.2.1 ∧ ∀ c ∈ r.2.2.2.2.2.1, L ≤ c := by
  unfold znd at e
  by_cases c : t.2.1.length = 300
  · rw [if_pos c] at e
    exact (zer_t e g).elim
  · rw [if_neg c] at e
    rw [e]
    have l := hp.len
    refine ⟨fun i x hi hx hn c hc => ?_, fun c hc => ?_⟩
    · have hx' : (t.2.1 ++ [d])[i]? = some x := hx
      rcases app_get hx' with q | ⟨q, q2⟩
      · have := hk i x hi q hn c hc
        omega
      · rw [q2] at hc
        have := hd c hc
        omega
    · have hc' : c ∈ s.2.2.2.1 ++ [t.2.1.length] := hc
      rcases List.mem_append.mp hc' with q | q
      · exact hs c q
      · rw [List.mem_singleton.mp q]
        omega
theorem zit_lo {f : Int → Int} {n : Int} {lk : List Int → Int × Int × Int × Int} {k op : Nat} {c a : Int} {s : ZS} {r : ZR} (hX : ZLo lk (ZZ f n lk k)) (h : zit f n lk (ZZ f n lk k) op c a s r) (g : r.1 = true) (hN : NWf lk s.2.1) (hB : LkB lk s.2.1) (hK : KLt s) (L : Nat) (hL : L ≤ s.2.1.length) (hs : ∀ c ∈ s.2.2.2.1, L ≤ c) : KLo s.2.1.length L r.2.2.2.1 ∧ ∀ c ∈ r.2.2.2.2.2.1, L ≤ c := by
  have same : ∀ (s' : ZS), r = zok s' → s'.2.1 = s.2.1 → s'.2.2.2.1 = s.2.2.2.1 → KLo s.2.1.length L r.2.2.2.1 ∧ ∀ c ∈ r.2.2.2.2.2.1, L ≤ c := fun s' e e1 e2 => by
    rw [e]
    show KLo s.2.1.length L s'.2.1 ∧ ∀ c ∈ s'.2.2.2.1, L ≤ c
    rw [e1, e2]
    exact ⟨klo_0 _ _, hs⟩
  have sum : ∀ (m : Nat) (x : XR), m ≤ 1 → (∃ k, XP f n lk k m op 0 s.1 s.2.1 x) → x.1 = true → r = zok (x.2.2.2.1, x.2.2.2.2, s.2.2.1, s.2.2.2.1 ++ [x.2.2.2.2.length - 1], s.2.2.2.2) → KLo s.2.1.length L r.2.2.2.1 ∧ ∀ c ∈ r.2.2.2.2.2.1, L ≤ c := fun m x hm hx gx e => by
    obtain ⟨kk, hx⟩ := hx
    have t := XP_wf f n lk kk m _ _ _ _ _ (by omega) hx gx hN (by omega)
    have l := t.2.2 (by omega)
    have ow := XP_own f n lk kk m _ _ _ _ _ (by omega) hx gx
    rw [e]
    refine ⟨fun i d hi hd hn => absurd (ow.1 i d hi hd) hn, fun c hc => ?_⟩
    have hc' : c ∈ s.2.2.2.1 ++ [x.2.2.2.2.length - 1] := hc
    rcases List.mem_append.mp hc' with q | q
    · exact hs c q
    · rw [List.mem_singleton.mp q]
      omega
  have k0 : KLt (zin s) := fun c hc => (by cases hc)
  have k1 : ∀ c ∈ (zin s).2.2.2.1, s.2.1.length ≤ c := fun c hc => (by cases hc)
  unfold zit at h
  by_cases c0 : c = 0
  · rw [if_pos c0] at h
    unfold ztk at h
    by_cases q : (wrd f n s.1).1 = a
    · rw [if_pos q] at h
      exact same _ (zgo_t h g) rfl rfl
    · rw [if_neg q] at h
      exact (zer_t h g).elim
  rw [if_neg c0] at h
  by_cases c1 : c = 1
  · rw [if_pos c1] at h
    unfold znm at h
    by_cases q : (wrd f n s.1).1 = 30 ∧ 0 ≤ (lk (wrd f n s.1).2.2.2.1).1 ∧ (lk (wrd f n s.1).2.2.2.1).2.1 = a
    · rw [if_pos q] at h
      exact same _ (zgo_t h g) rfl rfl
    · rw [if_neg q] at h
      exact (zer_t h g).elim
  rw [if_neg c1] at h
  by_cases c2 : c = 2
  · rw [if_pos c2] at h
    obtain ⟨x, hx, b⟩ := h
    by_cases gx : x.1 = true
    · rw [if_pos gx] at b
      by_cases u : x.2.2.1 = (if a < 0 then s.2.2.2.2.2.1 else a)
      · rw [if_pos u] at b
        exact sum 1 x (by decide) hx gx b
      · rw [if_neg u] at b
        exact (zer_t b g).elim
    · rw [if_neg gx] at b
      exact (zer_t b g).elim
  rw [if_neg c2] at h
  by_cases c3 : c = 3
  · rw [if_pos c3] at h
    obtain ⟨x, hx, b⟩ := h
    by_cases gx : x.1 = true
    · rw [if_pos gx] at b
      exact sum 0 x (by decide) hx gx b
    · rw [if_neg gx] at b
      exact (zer_t b g).elim
  rw [if_neg c3] at h
  by_cases c4 : c = 4
  · rw [if_pos c4] at h
    unfold zbl at h
    by_cases q : (wrd f n s.1).1 = 123 ∧ op < 20
    · rw [if_pos q] at h
      obtain ⟨r1, x, b⟩ := h
      by_cases g1 : r1.1 = true
      · rw [if_pos g1] at b
        have t := hX _ _ _ _ x g1 hN hB k0 s.2.1.length (Nat.le_refl _) k1
        have w := ZZ_wf f n lk k _ _ _ _ x g1 hN hB k0
        exact znd_lo b g w.2.1 hL hs t.1 t.2
      · rw [if_neg g1] at b
        rw [b] at g
        exact absurd g g1
    · rw [if_neg q] at h
      exact (zer_t h g).elim
  rw [if_neg c4] at h
  by_cases c5 : c = 5
  · rw [if_pos c5] at h
    unfold zac at h
    by_cases q : (wrd f n s.1).1 = 31 ∧ (wrd f n s.1).2.2.2.2.2 = false ∧ (wrd f n s.1).2.2.2.2.1 < 32000
    · rw [if_pos q] at h
      exact same _ (zgo_t h g) rfl rfl
    · rw [if_neg q] at h
      exact (zer_t h g).elim
  rw [if_neg c5] at h
  by_cases c6 : c = 6
  · rw [if_pos c6] at h
    by_cases q : (wrd f n s.1).1 = 18
    · rw [if_pos q] at h
      exact hX _ _ _ _ h g hN hB hK L hL hs
    · rw [if_neg q] at h
      exact same s h rfl rfl
  rw [if_neg c6] at h
  by_cases c7 : c = 7
  · rw [if_pos c7] at h
    by_cases q : (wrd f n s.1).1 = 123
    · rw [if_pos q] at h
      exact hX _ _ _ _ h g hN hB hK L hL hs
    · rw [if_neg q] at h
      exact same s h rfl rfl
  rw [if_neg c7] at h
  by_cases c8 : c = 8
  · rw [if_pos c8] at h
    by_cases q : (wrd f n s.1).1 = 125
    · rw [if_pos q] at h
      exact same s h rfl rfl
    · rw [if_neg q] at h
      exact hX _ _ _ _ h g hN hB hK L hL hs
  rw [if_neg c8] at h
  by_cases c9 : c = 9
  · rw [if_pos c9] at h
    unfold zst at h
    by_cases q : isS (wrd f n s.1).1 = true
    · rw [if_pos q] at h
      obtain ⟨r1, x, b⟩ := h
      by_cases g1 : r1.1 = true
      · rw [if_pos g1] at b
        have t := hX _ _ _ _ x g1 hN hB k0 s.2.1.length (Nat.le_refl _) k1
        have w := ZZ_wf f n lk k _ _ _ _ x g1 hN hB k0
        exact znd_lo b g w.2.1 hL hs t.1 t.2
      · rw [if_neg g1] at b
        rw [b] at g
        exact absurd g g1
    · rw [if_neg q] at h
      exact (zer_t h g).elim
  rw [if_neg c9] at h
  by_cases q : (wrd f n s.1).1 = 32
  · rw [if_pos q] at h
    exact same s h rfl rfl
  · rw [if_neg q] at h
    exact hX _ _ _ _ h g hN hB hK L hL hs
theorem ZZ_lo (f : Int → Int) (n : Int) (lk : List Int → Int × Int × Int × Int) : ∀ k, ZLo lk (ZZ f n lk k) := by
  intro k
  induction k with
  | zero => exact fun _ _ _ _ h => False.elim h
  | succ k ih =>
    intro op l s r h g hN hB hK L hL hs
    cases l with
    | nil =>
      rw [ZZ_n] at h
      rw [h]
      exact ⟨klo_0 _ _, hs⟩
    | cons i is =>
      rw [ZZ_c] at h
      obtain ⟨r1, a, b⟩ := h
      by_cases g1 : r1.1 = true
      · rw [if_pos g1] at b
        have w := zit_wf (ZZ_wf f n lk k) a g1 hN hB hK
        have t := zit_lo ih a g1 hN hB hK L hL hs
        have w2 := ZZ_wf f n lk k _ _ _ _ b g w.1 (lkb_m hB w.2.1.len) w.2.2
        have t2 := ih _ _ _ _ b g w.1 (lkb_m hB w.2.1.len) w.2.2 L (by have := w.2.1.len; omega) t.2
        exact ⟨klo_t t.1 w2.2.1 t2.1 (Nat.le_refl _), t2.2⟩
      · rw [if_neg g1] at b
        rw [b] at g
        exact absurd g g1
theorem zi_lo {f : Int → Int} {n : Int} {lk : List Int → Int × Int × Int × Int} {op : Nat} {c a : Int} {s s' : ZS} (h : ZI f n lk op c a s (zok s')) (hN : NWf lk s.2.1) (hB : LkB lk s.2.1) (hc : c = 4 ∨ c = 9) : KLo s.2.1.length s.2.1.length s'.2.1 := by
  obtain ⟨k, h⟩ := h
  have k0 : KLt (zin s) := fun c hc => (by cases hc)
  have k1 : ∀ c ∈ (zin s).2.2.2.1, s.2.1.length ≤ c := fun c hc => (by cases hc)
  have key : ∀ (op' : Nat) (l : List (Int × Int)) (d : ZR → Nod) (m : Int) (r1 : ZR), (∀ r : ZR, (d r).2.2.2 = r.2.2.2.2.2.1) → ZZ f n lk k op' l (zin s) r1 → r1.1 = true → zok s' = znd f n s r1.2.2 m (d r1) → KLo s.2.1.length s.2.1.length s'.2.1 := fun op' l d m r1 hd x g1 e => by
    have t := ZZ_lo f n lk k _ _ _ _ x g1 hN hB k0 s.2.1.length (Nat.le_refl _) k1
    unfold znd at e
    by_cases q : r1.2.2.2.1.length = 300
    · rw [if_pos q] at e
      exact (zer_t e rfl).elim
    · rw [if_neg q] at e
      have e' : s' = (r1.2.2.1, r1.2.2.2.1 ++ [d r1], r1.2.2.2.2.1 + m, s.2.2.2.1 ++ [r1.2.2.2.1.length], s.2.2.2.2) := congrArg (fun r : ZR => r.2.2) e
      rw [e']
      intro i y hi hy hn z hz
      have hy' : (r1.2.2.2.1 ++ [d r1])[i]? = some y := hy
      rcases app_get hy' with p | ⟨p, p2⟩
      · exact t.1 i y hi p hn z hz
      · rw [p2, hd] at hz
        exact t.2 z hz
  rcases hc with e | e
  · rw [e] at h
    have h' : zbl f n (ZZ f n lk k) op s (zok s') := h
    unfold zbl at h'
    by_cases q : (wrd f n s.1).1 = 123 ∧ op < 20
    · rw [if_pos q] at h'
      obtain ⟨r1, x, b⟩ := h'
      by_cases g1 : r1.1 = true
      · rw [if_pos g1] at b
        exact key _ _ (fun r => (35, 0, 0, r.2.2.2.2.2.1)) 0 r1 (fun r => rfl) x g1 b
      · rw [if_neg g1] at b
        exact absurd (show r1.1 = true from (congrArg Prod.fst b).symm) g1
    · rw [if_neg q] at h'
      exact (zer_t h' rfl).elim
  · rw [e] at h
    have h' : zst f n (ZZ f n lk k) op s (zok s') := h
    unfold zst at h'
    by_cases q : isS (wrd f n s.1).1 = true
    · rw [if_pos q] at h'
      obtain ⟨r1, x, b⟩ := h'
      by_cases g1 : r1.1 = true
      · rw [if_pos g1] at b
        exact key _ _ (fun r => ((wrd f n s.1).1, r.2.2.2.2.2.2.1, r.2.2.2.2.2.2.2.2, r.2.2.2.2.2.1)) 1 r1 (fun r => rfl) x g1 b
      · rw [if_neg g1] at b
        exact absurd (show r1.1 = true from (congrArg Prod.fst b).symm) g1
    · rw [if_neg q] at h'
      exact (zer_t h' rfl).elim
