/-! what stands inside a statement behind its sums, and inside a block, are blocks and statements -/
def OwA (ns : List Nod) (c : Nat) : Prop := ∃ d, ns[c]? = some d ∧ ¬ own d.1 = 0
theorem owa_p {ns ms : List Nod} (hp : PRE ns ms) {c : Nat} (h : OwA ns c) : OwA ms c := by
  obtain ⟨d, hd, o⟩ := h
  exact ⟨d, hp.get hd, o⟩
/-- how many sums stand in front in a statement -/
def nxp (k : Int) : Nat := if k = 14 then 2 else if k = 11 ∨ k = 12 ∨ k = 13 ∨ k = 17 ∨ k = 19 ∨ k = 20 then 1 else 0
/-- a block (b), or a statement -/
def OwB (ns : List Nod) (b : Bool) (c : Nat) : Prop := ∃ d, ns[c]? = some d ∧ (b = true → d.1 = 35) ∧ (b = false → isS d.1 = true)
theorem owb_p {ns ms : List Nod} {b : Bool} (hp : PRE ns ms) {c : Nat} (h : OwB ns b c) : OwB ms b c := by
  obtain ⟨d, hd, o⟩ := h
  exact ⟨d, hp.get hd, o⟩
theorem owb_a {ns : List Nod} {b : Bool} {c : Nat} (h : OwB ns b c) : OwA ns c := by
  obtain ⟨d, hd, o1, o2⟩ := h
  refine ⟨d, hd, ?_⟩
  cases b with
  | true =>
    rw [o1 rfl]
    decide
  | false =>
    unfold own
    rw [if_pos (Or.inl (o2 rfl))]
    decide
def kb (k : Int) : Bool := if k = 35 then false else true
def KOn (ns : List Nod) : Prop := ∀ (i : Nat) (d : Nod), ns[i]? = some d → ¬ own d.1 = 0 → ∀ c ∈ d.2.2.2.drop (nxp d.1), OwB ns (kb d.1) c
/-- which pieces give blocks (b), which statements -/
def alw (b : Bool) (c : Int) : Prop := ¬ c = 2 ∧ ¬ c = 3 ∧ (b = true → c = 0 ∨ c = 1 ∨ c = 4 ∨ c = 5 ∨ c = 6 ∨ c = 7) ∧ (b = false → ¬ c = 4 ∧ ¬ c = 6 ∧ ¬ c = 7)
/-- no sum among these pieces -/
def noX (b : Bool) (l : List (Int × Int)) : Prop := ∀ i ∈ l, alw b i.1
/-- m sums, then none -/
def sepX (b : Bool) : List (Int × Int) → Nat → Prop
  | [], m => m = 0
  | i :: l, m => if i.1 = 2 ∨ i.1 = 3 then (∃ m', m = m' + 1 ∧ sepX b l m') else if i.1 = 0 ∨ i.1 = 1 then sepX b l m else (m = 0 ∧ noX b (i :: l))
theorem sep_0 {b : Bool} {l : List (Int × Int)} (h : noX b l) : sepX b l 0 := by
  induction l with
  | nil => rfl
  | cons i l ih =>
    show (if i.1 = 2 ∨ i.1 = 3 then (∃ m', 0 = m' + 1 ∧ sepX b l m') else if i.1 = 0 ∨ i.1 = 1 then sepX b l 0 else (0 = 0 ∧ noX b (i :: l)))
    have hi := h i List.mem_cons_self
    have hi1 := hi.1
    have hi2 := hi.2.1
    rw [if_neg (by omega)]
    by_cases c : i.1 = 0 ∨ i.1 = 1
    · rw [if_pos c]
      exact ih (fun j hj => h j (List.mem_cons_of_mem _ hj))
    · rw [if_neg c]
      exact ⟨rfl, h⟩
theorem sep_x {b : Bool} {i : Int × Int} {l : List (Int × Int)} {m : Nat} (c : i.1 = 2 ∨ i.1 = 3) (h : sepX b l m) : sepX b (i :: l) (m + 1) := by
  show (if i.1 = 2 ∨ i.1 = 3 then (∃ m', m + 1 = m' + 1 ∧ sepX b l m') else if i.1 = 0 ∨ i.1 = 1 then sepX b l (m + 1) else (m + 1 = 0 ∧ noX b (i :: l)))
  rw [if_pos c]
  exact ⟨m, rfl, h⟩
theorem sep_01 {b : Bool} {i : Int × Int} {l : List (Int × Int)} {m : Nat} (c : i.1 = 0 ∨ i.1 = 1) (h : sepX b l m) : sepX b (i :: l) m := by
  show (if i.1 = 2 ∨ i.1 = 3 then (∃ m', m = m' + 1 ∧ sepX b l m') else if i.1 = 0 ∨ i.1 = 1 then sepX b l m else (m = 0 ∧ noX b (i :: l)))
  rw [if_neg (by omega), if_pos c]
  exact h
theorem nox_1 {b : Bool} {i : Int × Int} (h : alw b i.1) : noX b [i] := fun j hj => by
  rw [List.mem_singleton.mp hj]
  exact h
theorem nox_c {b : Bool} {i : Int × Int} {l : List (Int × Int)} (h : alw b i.1) (hl : noX b l) : noX b (i :: l) := fun j hj => by
  rcases List.mem_cons.mp hj with e | e
  · rw [e]
    exact h
  · exact hl j e
theorem alw_d {b : Bool} {c : Int} (h : (¬ c = 2 ∧ ¬ c = 3) ∧ (b = true → c = 0 ∨ c = 1 ∨ c = 4 ∨ c = 5 ∨ c = 6 ∨ c = 7) ∧ (b = false → ¬ c = 4 ∧ ¬ c = 6 ∧ ¬ c = 7)) : alw b c := ⟨h.1.1, h.1.2, h.2.1, h.2.2⟩
theorem sep_i {k : Int} (h : isS k = true) : sepX true ((0, k) :: its k) (nxp k) := by
  have q := isS_t.mp h
  have cs : k = 11 ∨ k = 12 ∨ k = 13 ∨ k = 14 ∨ k = 16 ∨ k = 17 ∨ k = 19 ∨ k = 20 ∨ k = 22 ∨ k = 23 ∨ k = 24 ∨ k = 25 ∨ k = 26 := by omega
  rcases cs with e | e | e | e | e | e | e | e | e | e | e | e | e <;> rw [e]
  · show sepX true [(0, 11), (1, 9), (2, -1), (0, 59)] 1
    exact sep_01 (Or.inl rfl) (sep_01 (Or.inr rfl) (sep_x (Or.inl rfl) (sep_01 (Or.inl rfl) rfl)))
  · show sepX true [(0, 12), (2, 3), (0, 59)] 1
    exact sep_01 (Or.inl rfl) (sep_x (Or.inl rfl) (sep_01 (Or.inl rfl) rfl))
  · show sepX true [(0, 13), (3, 0), (0, 59)] 1
    exact sep_01 (Or.inl rfl) (sep_x (Or.inr rfl) (sep_01 (Or.inl rfl) rfl))
  · show sepX true [(0, 14), (1, 9), (2, -1), (0, 15), (2, 3), (0, 59)] 2
    exact sep_01 (Or.inl rfl) (sep_01 (Or.inr rfl) (sep_x (Or.inl rfl) (sep_01 (Or.inl rfl) (sep_x (Or.inl rfl) (sep_01 (Or.inl rfl) rfl)))))
  · show sepX true [(0, 16), (4, 0), (4, 0), (7, 0)] 0
    exact sep_0 (nox_c (alw_d (by decide)) (nox_c (alw_d (by decide)) (nox_c (alw_d (by decide)) (nox_1 (alw_d (by decide))))))
  · show sepX true [(0, 17), (3, 0), (4, 0), (6, 0)] 1
    exact sep_01 (Or.inl rfl) (sep_x (Or.inr rfl) (sep_0 (nox_c (alw_d (by decide)) (nox_1 (alw_d (by decide))))))
  · show sepX true [(0, 19), (2, 0), (4, 0)] 1
    exact sep_01 (Or.inl rfl) (sep_x (Or.inl rfl) (sep_0 (nox_1 (alw_d (by decide)))))
  · show sepX true [(0, 20), (3, 0), (4, 0), (0, 21), (4, 0)] 1
    exact sep_01 (Or.inl rfl) (sep_x (Or.inr rfl) (sep_0 (nox_c (alw_d (by decide)) (nox_c (alw_d (by decide)) (nox_1 (alw_d (by decide)))))))
  · show sepX true [(0, 22), (1, 8), (0, 59)] 0
    exact sep_0 (nox_c (alw_d (by decide)) (nox_c (alw_d (by decide)) (nox_1 (alw_d (by decide)))))
  · show sepX true [(0, 23), (1, 10), (0, 59)] 0
    exact sep_0 (nox_c (alw_d (by decide)) (nox_c (alw_d (by decide)) (nox_1 (alw_d (by decide)))))
  · show sepX true [(0, 24), (0, 59)] 0
    exact sep_0 (nox_c (alw_d (by decide)) (nox_1 (alw_d (by decide))))
  · show sepX true [(0, 25), (0, 59)] 0
    exact sep_0 (nox_c (alw_d (by decide)) (nox_1 (alw_d (by decide))))
  · show sepX true [(0, 26), (5, 0), (0, 59)] 0
    exact sep_0 (nox_c (alw_d (by decide)) (nox_c (alw_d (by decide)) (nox_1 (alw_d (by decide)))))
/-- what reading these pieces gives: m kids that are sums, then kids that are none -/
def KRs (b : Bool) (s : ZS) (r : ZR) (m : Nat) : Prop := KOn r.2.2.2.1 ∧ PRE s.2.1 r.2.2.2.1 ∧ ∃ es ks : List Nat, r.2.2.2.2.2.1 = s.2.2.2.1 ++ (es ++ ks) ∧ es.length = m ∧ ∀ c ∈ ks, OwB r.2.2.2.1 b c
def ZKo (lk : List Int → Int × Int × Int × Int) (X : ZQ) : Prop := ∀ (op : Nat) (l : List (Int × Int)) (s : ZS) (r : ZR), X op l s r → r.1 = true → NWf lk s.2.1 → LkB lk s.2.1 → KLt s → KOn s.2.1 → ∀ (b : Bool) (m : Nat), sepX b l m → KRs b s r m
theorem kon_x {ns ms : List Nod} (h : KOn ns) (hp : PRE ns ms) (ho : NOw ns ms) : KOn ms := fun i d hd hn c hc => by
  by_cases q : i < ns.length
  · obtain ⟨t, et⟩ := id hp
    have hd' : ns[i]? = some d := by
      rw [et, List.getElem?_append_left q] at hd
      exact hd
    exact owb_p hp (h i d hd' hn c hc)
  · exact absurd (ho i d (by omega) hd) hn
theorem kon_s {ns : List Nod} {d : Nod} (h : KOn ns) (hd : ∀ c ∈ d.2.2.2.drop (nxp d.1), OwB ns (kb d.1) c) : KOn (ns ++ [d]) := fun i x hx hn c hc => by
  rcases app_get hx with q | ⟨_, q2⟩
  · exact owb_p (PRE.one _ _) (h i x q hn c hc)
  · rw [q2] at hc ⊢
    exact owb_p (PRE.one _ _) (hd c hc)
theorem znd_ko {b : Bool} {f : Int → Int} {n m : Int} {s t : ZS} {d : Nod} {r : ZR} (e : r = znd f n s t m d) (g : r.1 = true) (hp : PRE s.2.1 t.2.1) (h : KOn t.2.1) (hd : ∀ c ∈ d.2.2.2.drop (nxp d.1), OwB t.2.1 (kb d.1) c) (ho : (b = true → d.1 = 35) ∧ (b = false → isS d.1 = true)) : KRs b s r 0 := by
  unfold znd at e
  by_cases c : t.2.1.length = 300
  · rw [if_pos c] at e
    exact (zer_t e g).elim
  · rw [if_neg c] at e
    rw [e]
    refine ⟨kon_s h hd, hp.tr (PRE.one _ _), [], [t.2.1.length], rfl, rfl, fun c hc => ?_⟩
    rw [List.mem_singleton.mp hc]
    refine ⟨d, ?_, ho⟩
    show (t.2.1 ++ [d])[t.2.1.length]? = some d
    rw [List.getElem?_append_right (Nat.le_refl _), Nat.sub_self]
    rfl
theorem drop_e {es ks : List Nat} {m : Nat} (h : es.length = m) : (es ++ ks).drop m = ks := by
  rw [← h, List.drop_left]
theorem zit_ko {f : Int → Int} {n : Int} {lk : List Int → Int × Int × Int × Int} {k op : Nat} {c a : Int} {s : ZS} {r : ZR} (hX : ZKo lk (ZZ f n lk k)) (h : zit f n lk (ZZ f n lk k) op c a s r) (g : r.1 = true) (hN : NWf lk s.2.1) (hB : LkB lk s.2.1) (hK : KLt s) (hO : KOn s.2.1) (bb : Bool) (hb : ¬ (c = 2 ∨ c = 3) → alw bb c) : KRs bb s r (if c = 2 ∨ c = 3 then 1 else 0) := by
  have same : ¬ (c = 2 ∨ c = 3) → ∀ (s' : ZS), r = zok s' → s'.2.1 = s.2.1 → s'.2.2.2.1 = s.2.2.2.1 → KRs bb s r (if c = 2 ∨ c = 3 then 1 else 0) := fun nc s' e e1 e2 => by
    rw [e, if_neg nc]
    show KOn s'.2.1 ∧ PRE s.2.1 s'.2.1 ∧ ∃ es ks : List Nat, s'.2.2.2.1 = s.2.2.2.1 ++ (es ++ ks) ∧ es.length = 0 ∧ ∀ c ∈ ks, OwB s'.2.1 bb c
    rw [e1, e2]
    exact ⟨hO, PRE.refl _, [], [], by rw [List.append_nil]; exact (List.append_nil _).symm, rfl, fun c hc => (by cases hc)⟩
  have sum : (c = 2 ∨ c = 3) → ∀ (m : Nat) (x : XR), m ≤ 1 → (∃ k, XP f n lk k m op 0 s.1 s.2.1 x) → x.1 = true → r = zok (x.2.2.2.1, x.2.2.2.2, s.2.2.1, s.2.2.2.1 ++ [x.2.2.2.2.length - 1], s.2.2.2.2) → KRs bb s r (if c = 2 ∨ c = 3 then 1 else 0) := fun yc m x hm hx gx e => by
    obtain ⟨kk, hx⟩ := hx
    have ow := XP_own f n lk kk m _ _ _ _ _ (by omega) hx gx
    rw [e, if_pos yc]
    exact ⟨kon_x hO ow.2 ow.1, ow.2, [x.2.2.2.2.length - 1], [], (by show s.2.2.2.1 ++ [x.2.2.2.2.length - 1] = s.2.2.2.1 ++ ([x.2.2.2.2.length - 1] ++ []); rw [List.append_nil]), rfl, fun c hc => (by cases hc)⟩
  have k0 : KLt (zin s) := fun c hc => (by cases hc)
  have rec0 : ¬ (c = 2 ∨ c = 3) → ∀ l, ZZ f n lk k op l s r → noX bb l → KRs bb s r (if c = 2 ∨ c = 3 then 1 else 0) := fun nc l h hl => by
    rw [if_neg nc]
    exact hX _ _ _ _ h g hN hB hK hO bb 0 (sep_0 hl)
  have nx2 : ∀ i j : Int × Int, alw bb i.1 → alw bb j.1 → noX bb [i, j] := fun i j hi hj => nox_c hi (nox_1 hj)
  unfold zit at h
  by_cases c0 : c = 0
  · rw [if_pos c0] at h
    unfold ztk at h
    by_cases q : (wrd f n s.1).1 = a
    · rw [if_pos q] at h
      exact same (by omega) _ (zgo_t h g) rfl rfl
    · rw [if_neg q] at h
      exact (zer_t h g).elim
  rw [if_neg c0] at h
  by_cases c1 : c = 1
  · rw [if_pos c1] at h
    unfold znm at h
    by_cases q : (wrd f n s.1).1 = 30 ∧ 0 ≤ (lk (wrd f n s.1).2.2.2.1).1 ∧ (lk (wrd f n s.1).2.2.2.1).2.1 = a
    · rw [if_pos q] at h
      exact same (by omega) _ (zgo_t h g) rfl rfl
    · rw [if_neg q] at h
      exact (zer_t h g).elim
  rw [if_neg c1] at h
  by_cases c2 : c = 2
  · rw [if_pos c2] at h
    obtain ⟨x, hx, b⟩ := h
    by_cases gx : x.1 = true
    · rw [if_pos gx] at b
      by_cases u : x.2.2.1 = (if a < 0 then s.2.2.2.2.2.1 else a)
      · rw [if_pos u] at b
        exact sum (Or.inl c2) 1 x (by decide) hx gx b
      · rw [if_neg u] at b
        exact (zer_t b g).elim
    · rw [if_neg gx] at b
      exact (zer_t b g).elim
  rw [if_neg c2] at h
  by_cases c3 : c = 3
  · rw [if_pos c3] at h
    obtain ⟨x, hx, b⟩ := h
    by_cases gx : x.1 = true
    · rw [if_pos gx] at b
      exact sum (Or.inr c3) 0 x (by decide) hx gx b
    · rw [if_neg gx] at b
      exact (zer_t b g).elim
  rw [if_neg c3] at h
  have nc : ¬ (c = 2 ∨ c = 3) := by omega
  by_cases c4 : c = 4
  · rw [if_pos c4] at h
    unfold zbl at h
    by_cases q : (wrd f n s.1).1 = 123 ∧ op < 20
    · rw [if_pos q] at h
      obtain ⟨r1, x, b⟩ := h
      by_cases g1 : r1.1 = true
      · rw [if_pos g1] at b
        obtain ⟨t1, t2, es, ks, t3, t4, t5⟩ := hX _ _ _ _ x g1 hN hB k0 hO false 0 (sep_0 (nox_c (alw_d (by decide)) (nox_c (alw_d (by decide)) (nox_1 (alw_d (by decide))))))
        rw [if_neg nc]
        have bt : bb = true := by
          cases bb with
          | true => rfl
          | false => exact absurd c4 ((hb nc).2.2.2 rfl).1
        refine znd_ko b g t2 t1 (fun c hc => ?_) ⟨fun _ => rfl, (fun z => by rw [bt] at z; cases z)⟩
        have hc' : c ∈ r1.2.2.2.2.2.1.drop (nxp 35) := hc
        have e0 : es = [] := List.length_eq_zero_iff.mp t4
        have t3' : r1.2.2.2.2.2.1 = [] ++ (es ++ ks) := t3
        rw [t3', e0] at hc'
        exact t5 c hc'
      · rw [if_neg g1] at b
        rw [b] at g
        exact absurd g g1
    · rw [if_neg q] at h
      exact (zer_t h g).elim
  rw [if_neg c4] at h
  by_cases c5 : c = 5
  · rw [if_pos c5] at h
    unfold zac at h
    by_cases q : (wrd f n s.1).1 = 31 ∧ (wrd f n s.1).2.2.2.2.2 = false ∧ (wrd f n s.1).2.2.2.2.1 < 32000
    · rw [if_pos q] at h
      exact same nc _ (zgo_t h g) rfl rfl
    · rw [if_neg q] at h
      exact (zer_t h g).elim
  rw [if_neg c5] at h
  by_cases c6 : c = 6
  · rw [if_pos c6] at h
    by_cases q : (wrd f n s.1).1 = 18
    · rw [if_pos q] at h
      have bt : bb = true := by
        cases bb with
        | true => rfl
        | false => exact absurd c6 ((hb nc).2.2.2 rfl).2.1
      rw [bt] at nx2
      exact rec0 nc _ h (by rw [bt]; exact nx2 _ _ (alw_d (by decide)) (alw_d (by decide)))
    · rw [if_neg q] at h
      exact same nc s h rfl rfl
  rw [if_neg c6] at h
  by_cases c7 : c = 7
  · rw [if_pos c7] at h
    by_cases q : (wrd f n s.1).1 = 123
    · rw [if_pos q] at h
      have bt : bb = true := by
        cases bb with
        | true => rfl
        | false => exact absurd c7 ((hb nc).2.2.2 rfl).2.2
      rw [bt] at nx2
      exact rec0 nc _ h (by rw [bt]; exact nx2 _ _ (alw_d (by decide)) (alw_d (by decide)))
    · rw [if_neg q] at h
      exact same nc s h rfl rfl
  rw [if_neg c7] at h
  have bf : bb = false := by
    cases bb with
    | false => rfl
    | true =>
      have := (hb nc).2.2.1 rfl
      omega
  by_cases c8 : c = 8
  · rw [if_pos c8] at h
    by_cases q : (wrd f n s.1).1 = 125
    · rw [if_pos q] at h
      exact same nc s h rfl rfl
    · rw [if_neg q] at h
      rw [bf] at nx2
      exact rec0 nc _ h (by rw [bf]; exact nx2 _ _ (alw_d (by decide)) (alw_d (by decide)))
  rw [if_neg c8] at h
  by_cases c9 : c = 9
  · rw [if_pos c9] at h
    unfold zst at h
    by_cases q : isS (wrd f n s.1).1 = true
    · rw [if_pos q] at h
      obtain ⟨r1, x, b⟩ := h
      by_cases g1 : r1.1 = true
      · rw [if_pos g1] at b
        obtain ⟨t1, t2, es, ks, t3, t4, t5⟩ := hX _ _ _ _ x g1 hN hB k0 hO true _ (sep_i q)
        rw [if_neg nc]
        have bt : bb = false := by
          cases bb with
          | false => rfl
          | true =>
            have := (hb nc).2.2.1 rfl
            omega
        refine znd_ko b g t2 t1 (fun c hc => ?_) ⟨(fun z => by rw [bt] at z; cases z), fun _ => q⟩
        have hc' : c ∈ r1.2.2.2.2.2.1.drop (nxp (wrd f n s.1).1) := hc
        have t3' : r1.2.2.2.2.2.1 = es ++ ks := t3
        rw [t3', drop_e t4] at hc'
        have ek : kb (wrd f n s.1).1 = true := by
          unfold kb
          rw [if_neg (by have := isS_t.mp q; omega)]
        show OwB r1.2.2.2.1 (kb (wrd f n s.1).1) c
        rw [ek]
        exact t5 c hc'
      · rw [if_neg g1] at b
        rw [b] at g
        exact absurd g g1
    · rw [if_neg q] at h
      exact (zer_t h g).elim
  rw [if_neg c9] at h
  by_cases q : (wrd f n s.1).1 = 32
  · rw [if_pos q] at h
    exact same nc s h rfl rfl
  · rw [if_neg q] at h
    rw [bf] at nx2
    exact rec0 nc _ h (by rw [bf]; exact nx2 _ _ (alw_d (by decide)) (alw_d (by decide)))
theorem ZZ_ko (f : Int → Int) (n : Int) (lk : List Int → Int × Int × Int × Int) : ∀ k, ZKo lk (ZZ f n lk k) := by
  intro k
  induction k with
  | zero => exact fun _ _ _ _ h => False.elim h
  | succ k ih =>
    intro op l s r h g hN hB hK hO bb m hm
    cases l with
    | nil =>
      rw [ZZ_n] at h
      have hm' : m = 0 := hm
      rw [h, hm']
      exact ⟨hO, PRE.refl _, [], [], by rw [List.append_nil]; exact (List.append_nil _).symm, rfl, fun c hc => (by cases hc)⟩
    | cons i is =>
      rw [ZZ_c] at h
      obtain ⟨r1, a, b⟩ := h
      by_cases g1 : r1.1 = true
      · rw [if_pos g1] at b
        have w := zit_wf (ZZ_wf f n lk k) a g1 hN hB hK
        have al : ¬ (i.1 = 2 ∨ i.1 = 3) → alw bb i.1 := fun nc => by
          have hm0 : if i.1 = 2 ∨ i.1 = 3 then (∃ m', m = m' + 1 ∧ sepX bb is m') else if i.1 = 0 ∨ i.1 = 1 then sepX bb is m else (m = 0 ∧ noX bb (i :: is)) := hm
          rw [if_neg nc] at hm0
          by_cases c01 : i.1 = 0 ∨ i.1 = 1
          · exact alw_d ⟨by omega, fun _ => by omega, fun _ => by omega⟩
          · rw [if_neg c01] at hm0
            exact hm0.2 i List.mem_cons_self
        obtain ⟨t1, t2, es, ks, t3, t4, t5⟩ := zit_ko ih a g1 hN hB hK hO bb al
        have hm2 : if i.1 = 2 ∨ i.1 = 3 then (∃ m', m = m' + 1 ∧ sepX bb is m') else if i.1 = 0 ∨ i.1 = 1 then sepX bb is m else (m = 0 ∧ noX bb (i :: is)) := hm
        by_cases c : i.1 = 2 ∨ i.1 = 3
        · rw [if_pos c] at hm2 t4
          obtain ⟨m', em, hs⟩ := hm2
          obtain ⟨u1, u2, es2, ks2, u3, u4, u5⟩ := ih _ _ _ _ b g w.1 (lkb_m hB w.2.1.len) w.2.2 t1 bb m' hs
          have ek : ks = [] := by
            have z : zit f n lk (ZZ f n lk k) op i.1 i.2 s r1 := a
            unfold zit at z
            have l1 : r1.2.2.2.2.2.1.length = s.2.2.2.1.length + 1 := by
              rcases c with c2 | c3
              · rw [if_neg (by omega), if_neg (by omega), if_pos c2] at z
                obtain ⟨x, hx, zb⟩ := z
                by_cases gx : x.1 = true
                · rw [if_pos gx] at zb
                  by_cases uu : x.2.2.1 = (if i.2 < 0 then s.2.2.2.2.2.1 else i.2)
                  · rw [if_pos uu] at zb
                    rw [zb]
                    show (s.2.2.2.1 ++ [x.2.2.2.2.length - 1]).length = _
                    rw [List.length_append, List.length_singleton]
                  · rw [if_neg uu] at zb
                    exact (zer_t zb g1).elim
                · rw [if_neg gx] at zb
                  exact (zer_t zb g1).elim
              · rw [if_neg (by omega), if_neg (by omega), if_neg (by omega), if_pos c3] at z
                obtain ⟨x, hx, zb⟩ := z
                by_cases gx : x.1 = true
                · rw [if_pos gx] at zb
                  rw [zb]
                  show (s.2.2.2.1 ++ [x.2.2.2.2.length - 1]).length = _
                  rw [List.length_append, List.length_singleton]
                · rw [if_neg gx] at zb
                  exact (zer_t zb g1).elim
            rw [t3, List.length_append, List.length_append] at l1
            exact List.length_eq_zero_iff.mp (by omega)
          refine ⟨u1, t2.tr u2, es ++ es2, ks2, ?_, by rw [List.length_append]; omega, u5⟩
          rw [u3, t3, ek, List.append_nil, List.append_assoc, List.append_assoc]
        · rw [if_neg c] at hm2 t4
          have e0 : es = [] := List.length_eq_zero_iff.mp t4
          by_cases c01 : i.1 = 0 ∨ i.1 = 1
          · rw [if_pos c01] at hm2
            obtain ⟨u1, u2, es2, ks2, u3, u4, u5⟩ := ih _ _ _ _ b g w.1 (lkb_m hB w.2.1.len) w.2.2 t1 bb m hm2
            have ek : ks = [] := by
              have z : zit f n lk (ZZ f n lk k) op i.1 i.2 s r1 := a
              unfold zit at z
              have l1 : r1.2.2.2.2.2.1 = s.2.2.2.1 := by
                rcases c01 with c0 | c1
                · rw [if_pos c0] at z
                  unfold ztk at z
                  by_cases q : (wrd f n s.1).1 = i.2
                  · rw [if_pos q] at z
                    rw [zgo_t z g1]
                    rfl
                  · rw [if_neg q] at z
                    exact (zer_t z g1).elim
                · rw [if_neg (by omega), if_pos c1] at z
                  unfold znm at z
                  by_cases q : (wrd f n s.1).1 = 30 ∧ 0 ≤ (lk (wrd f n s.1).2.2.2.1).1 ∧ (lk (wrd f n s.1).2.2.2.1).2.1 = i.2
                  · rw [if_pos q] at z
                    rw [zgo_t z g1]
                    rfl
                  · rw [if_neg q] at z
                    exact (zer_t z g1).elim
              have l2 := congrArg List.length (t3.symm.trans l1)
              rw [List.length_append, List.length_append] at l2
              exact List.length_eq_zero_iff.mp (by omega)
            refine ⟨u1, t2.tr u2, es2, ks2, ?_, u4, u5⟩
            rw [u3, t3, e0, ek, List.append_nil, List.append_nil]
          · rw [if_neg c01] at hm2
            obtain ⟨em, hs⟩ := hm2
            obtain ⟨u1, u2, es2, ks2, u3, u4, u5⟩ := ih _ _ _ _ b g w.1 (lkb_m hB w.2.1.len) w.2.2 t1 bb 0 (sep_0 (fun j hj => hs j (List.mem_cons_of_mem _ hj)))
            have e2 : es2 = [] := List.length_eq_zero_iff.mp u4
            refine ⟨u1, t2.tr u2, [], ks ++ ks2, ?_, em.symm, fun c hc => ?_⟩
            · rw [u3, t3, e0, e2, List.nil_append, List.nil_append, List.nil_append, List.append_assoc]
            · rcases List.mem_append.mp hc with q | q
              · exact owb_p u2 (t5 c q)
              · exact u5 c q
      · rw [if_neg g1] at b
        rw [b] at g
        exact absurd g g1
