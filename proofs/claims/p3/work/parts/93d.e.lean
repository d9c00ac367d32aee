/-! a program: what is told of names, then statements; how much it makes -/
/-- the state between two declarations: where the next word is, nodes, statements read, names -/
abbrev DS : Type := Int × List Nod × Int × List Nm
abbrev DQ : Type := Bool × Int × DS
def der (e : Int) : DQ := (false, e, 0, [], 0, [])
def dok (s : DS) : DQ := (true, 0, s)
def dbl (s : DS) : ZS := (s.1, s.2.1, s.2.2.1, [], 0, 0, 0)
/-- the end of the declaration of a step l whose block is read as r -/
def dst (f : Int → Int) (n : Int) (s : DS) (l : List Int) (z : ZS) : DQ := if z.2.1.length = 300 then der (wrd f n z.1).2.1 else dok (z.1, z.2.1 ++ [(10, 0, 0, [z.2.1.length - 1])], z.2.2.1, s.2.2.2 ++ [(l, 10, 0, (z.2.1.length : Int) - 1)])
/-- a unit may stand at p; then a semicolon -/
def dun (f : Int → Int) (n : Int) (s : DS) (c u p : Int) (l : List Int) : DQ := if (wrd f n p).1 = 59 then (if (wrd f n (wrd f n p).2.2.1).1 = 33 then der (wrd f n (wrd f n p).2.2.1).2.1 else dok ((wrd f n p).2.2.1, s.2.1, s.2.2.1, s.2.2.2 ++ [(l, c, u, -1)])) else der (wrd f n p).2.1
def dsg (f : Int → Int) (n : Int) (s : DS) (c p : Int) (l : List Int) : DQ := if 1 ≤ (wrd f n p).1 ∧ (wrd f n p).1 ≤ 5 then (if (wrd f n (wrd f n p).2.2.1).1 = 33 then der (wrd f n (wrd f n p).2.2.1).2.1 else dun f n s c (wrd f n p).1 (wrd f n p).2.2.1 l) else dun f n s c 0 p l
/-- a declaration whose word c is next -/
def dcl (f : Int → Int) (n : Int) (s : DS) (r : DQ) : Prop :=
  if (wrd f n (wrd f n s.1).2.2.1).1 = 33 then r = der (wrd f n (wrd f n s.1).2.2.1).2.1
  else if ¬ ((wrd f n (wrd f n s.1).2.2.1).1 = 30 ∧ (lki (wrd f n (wrd f n s.1).2.2.1).2.2.2.1 s.2.2.2 0).1 < 0 ∧ s.2.2.2.length < 40) then r = der (wrd f n (wrd f n s.1).2.2.1).2.1
  else if (wrd f n (wrd f n (wrd f n s.1).2.2.1).2.2.1).1 = 33 then r = der (wrd f n (wrd f n (wrd f n s.1).2.2.1).2.2.1).2.1
  else if (wrd f n s.1).1 = 10 then ∃ r1, ZI f n (lkn s.2.2.2) 0 4 0 (dbl ((wrd f n (wrd f n s.1).2.2.1).2.2.1, s.2)) r1 ∧ (if r1.1 = true then r = dst f n s (wrd f n (wrd f n s.1).2.2.1).2.2.2.1 r1.2.2 else r = der r1.2.1)
  else r = dsg f n s (wrd f n s.1).1 (wrd f n (wrd f n s.1).2.2.1).2.2.1 (wrd f n (wrd f n s.1).2.2.1).2.2.2.1
theorem ZI_det {f : Int → Int} {n : Int} {lk : List Int → Int × Int × Int × Int} {op : Nat} {c a : Int} {s : ZS} {r r' : ZR} (h : ZI f n lk op c a s r) (h' : ZI f n lk op c a s r') : r = r' := by
  obtain ⟨k, h⟩ := h
  obtain ⟨k', h'⟩ := h'
  exact zit_d (ZZ_det f n lk k k') h h'
theorem dcl_det {f : Int → Int} {n : Int} {s : DS} {r r' : DQ} (h : dcl f n s r) (h' : dcl f n s r') : r = r' := by
  have ee : ∀ {z : DQ}, r = z → r' = z → r = r' := fun a b => a.trans b.symm
  unfold dcl at h h'
  refine ite_2 h h' ee (fun h h' => ite_2 h h' ee (fun h h' => ite_2 h h' ee (fun h h' => ite_2 h h' (fun h h' => ?_) ee)))
  obtain ⟨r1, a, b⟩ := h
  obtain ⟨r2, a', b'⟩ := h'
  have e := ZI_det a a'
  rw [← e] at b'
  exact ite_2 b b' ee ee
/-- all declarations -/
def DP (f : Int → Int) (n : Int) : Nat → DS → DQ → Prop
  | 0, _, _ => False
  | k + 1, s, r => if (wrd f n s.1).1 = 8 ∨ (wrd f n s.1).1 = 9 ∨ (wrd f n s.1).1 = 10 then ∃ r1, dcl f n s r1 ∧ (if r1.1 = true then DP f n k r1.2.2 r else r = r1) else r = dok s
theorem DP_u (f : Int → Int) (n : Int) (k : Nat) (s : DS) (r : DQ) : DP f n (k + 1) s r = (if (wrd f n s.1).1 = 8 ∨ (wrd f n s.1).1 = 9 ∨ (wrd f n s.1).1 = 10 then ∃ r1, dcl f n s r1 ∧ (if r1.1 = true then DP f n k r1.2.2 r else r = r1) else r = dok s) := rfl
theorem DP_det (f : Int → Int) (n : Int) : ∀ (k k' : Nat) (s : DS) (r r' : DQ), DP f n k s r → DP f n k' s r' → r = r' := by
  intro k
  induction k with
  | zero => exact fun _ _ _ _ h _ => False.elim h
  | succ k ih =>
    intro k' s r r' h h'
    cases k' with
    | zero => exact False.elim h'
    | succ k' =>
      rw [DP_u] at h h'
      refine ite_2 h h' (fun h h' => ?_) (fun a b => a.trans b.symm)
      obtain ⟨r1, a, b⟩ := h
      obtain ⟨r2, a', b'⟩ := h'
      have e := dcl_det a a'
      rw [← e] at b'
      exact ite_2 b b' (fun b b' => ih k' _ _ _ b b') (fun a b => a.trans b.symm)
/-- costs and depths of the nodes so far -/
def gC (acc : List (Int × Int)) (i : Nat) : Int := (acc.getD i (0, 0)).1
def gD (acc : List (Int × Int)) (i : Nat) : Int := (acc.getD i (0, 0)).2
def smC (acc : List (Int × Int)) (a : Int) : List Nat → Int
  | [] => a
  | k :: l => smC acc (a + gC acc k) l
def mxD (acc : List (Int × Int)) (a : Int) : List Nat → Int
  | [] => a
  | k :: l => mxD acc (if gD acc k ≤ a then a else gD acc k) l
def cap (a : Int) : Int := if a ≤ 500 then a else 501
/-- a node's own share -/
def own (k : Int) : Int := if isS k = true ∨ k = 35 then 1 else 0
def cs1 (acc : List (Int × Int)) (d : Nod) : Int × Int := if d.1 = 23 then (cap (1 + gC acc d.2.2.1.toNat), gD acc d.2.2.1.toNat) else (cap (smC acc (own d.1) d.2.2.2), mxD acc 0 d.2.2.2 + (if d.1 = 35 then 1 else 0))
def csl : List Nod → List (Int × Int) → List (Int × Int)
  | [], acc => acc
  | d :: ns, acc => csl ns (acc ++ [cs1 acc d])
theorem csl_a : ∀ (ns ms : List Nod) (acc : List (Int × Int)), csl (ns ++ ms) acc = csl ms (csl ns acc) := by
  intro ns
  induction ns with
  | nil => exact fun _ _ => rfl
  | cons d ns ih => exact fun ms acc => ih ms (acc ++ [cs1 acc d])
theorem csl_s (ns : List Nod) (d : Nod) : csl (ns ++ [d]) [] = csl ns [] ++ [cs1 (csl ns []) d] := by
  rw [csl_a]
  rfl
theorem csl_l : ∀ (ns : List Nod) (acc : List (Int × Int)), (csl ns acc).length = acc.length + ns.length := by
  intro ns
  induction ns with
  | nil => exact fun acc => rfl
  | cons d ns ih =>
    intro acc
    show (csl ns (acc ++ [cs1 acc d])).length = _
    rw [ih, List.length_append, List.length_singleton, List.length_cons]
    omega
/-- whether the statements t make too much: 0 well, else too much -/
def tooM (ns : List Nod) (t : List Nat) : Prop := 500 < smC (csl ns []) 0 t ∨ ∃ k ∈ t, 40 < gD (csl ns []) k
/-- A PROGRAM: wrong at a place, or its statements read, its nodes, names, and what stands outside of steps -/
def PGM (f : Int → Int) (n : Int) (r : Bool × Int × Int × List Nod × List Nm × List Nat) : Prop :=
  if (wrd f n 0).1 = 33 then r = (false, (wrd f n 0).2.1, 0, [], [], []) else
  ∃ (k : Nat) (d : DQ), DP f n k (0, [], 0, []) d ∧ (if d.1 = true then
    ∃ z, ZI f n (lkn d.2.2.2.2.2) 0 10 0 (dbl d.2.2) z ∧ (if z.1 = true then
      (tooM z.2.2.2.1 z.2.2.2.2.2.1 ∧ r = (false, n, 0, [], [], [])) ∨ (¬ tooM z.2.2.2.1 z.2.2.2.2.2.1 ∧ r = (true, 0, z.2.2.2.2.1, z.2.2.2.1, d.2.2.2.2.2, z.2.2.2.2.2.1))
      else r = (false, z.2.1, 0, [], [], []))
    else r = (false, d.2.1, 0, [], [], []))
theorem PGM_det {f : Int → Int} {n : Int} {r r' : Bool × Int × Int × List Nod × List Nm × List Nat} (h : PGM f n r) (h' : PGM f n r') : r = r' := by
  have ee : ∀ {z : Bool × Int × Int × List Nod × List Nm × List Nat}, r = z → r' = z → r = r' := fun a b => a.trans b.symm
  unfold PGM at h h'
  refine ite_2 h h' ee (fun h h' => ?_)
  obtain ⟨k, d, a, b⟩ := h
  obtain ⟨k', d', a', b'⟩ := h'
  have e := DP_det f n k k' _ _ _ a a'
  rw [← e] at b'
  refine ite_2 b b' (fun b b' => ?_) ee
  obtain ⟨z, c, g⟩ := b
  obtain ⟨z', c', g'⟩ := b'
  have e2 := ZI_det c c'
  rw [← e2] at g'
  refine ite_2 g g' (fun g g' => ?_) ee
  rcases g with ⟨t, g⟩ | ⟨t, g⟩
  · rcases g' with ⟨t', g'⟩ | ⟨t', g'⟩
    · exact ee g g'
    · exact absurd t t'
  · rcases g' with ⟨t', g'⟩ | ⟨t', g'⟩
    · exact absurd t' t
    · exact ee g g'
theorem lkn_app (nm : List Nm) (l : List Int) : lkn (nm ++ [(l, 10, 0, -1)]) = lkn nm := by
  have g : ∀ (xs : List Nm) (m : List Int) (i : Int), (lki m xs i = (-1, 0, 0, 0) ∧ (lki m (xs ++ [(l, 10, 0, -1)]) i = (-1, 0, 0, 0) ∨ ∃ j, lki m (xs ++ [(l, 10, 0, -1)]) i = (j, 10, 0, -1))) ∨ lki m (xs ++ [(l, 10, 0, -1)]) i = lki m xs i := by
    intro xs
    induction xs with
    | nil =>
      intro m i
      left
      refine ⟨rfl, ?_⟩
      show lki m ((l, 10, 0, -1) :: []) i = _ ∨ ∃ j, lki m ((l, 10, 0, -1) :: []) i = _
      rw [lki_u]
      by_cases c : l = m
      · right
        exact ⟨i, if_pos c⟩
      · left
        exact if_neg c
    | cons x xs ih =>
      intro m i
      show (lki m (x :: xs) i = _ ∧ (lki m (x :: (xs ++ _)) i = _ ∨ ∃ j, lki m (x :: (xs ++ _)) i = _)) ∨ lki m (x :: (xs ++ _)) i = _
      rw [lki_u, lki_u]
      by_cases c : x.1 = m
      · rw [if_pos c, if_pos c]
        exact Or.inr rfl
      · rw [if_neg c, if_neg c]
        exact ih m (i + 1)
  funext m
  unfold lkn
  rcases g nm m 0 with ⟨a, b | ⟨j, b⟩⟩ | b
  · rw [a, b]
  · rw [a, b]
    show (if (10 : Int) = 10 ∧ (-1 : Int) < 0 then ((-1, 0, 0, 0) : Int × Int × Int × Int) else _) = if (0 : Int) = 10 ∧ (0 : Int) < 0 then _ else _
    rw [if_pos (by decide), if_neg (by decide)]
  · rw [b]
/-- the kid that a block is -/
theorem zi_kid {f : Int → Int} {n : Int} {lk : List Int → Int × Int × Int × Int} {op : Nat} {a : Int} {s s9 : ZS} (hk : s.2.2.2.1 = []) (h : ZI f n lk op 4 a s (zok s9)) : s9.2.2.2.1 = [s9.2.1.length - 1] := by
  obtain ⟨k, h⟩ := h
  have h' : zbl f n (ZZ f n lk k) op s (zok s9) := h
  unfold zbl at h'
  by_cases c : (wrd f n s.1).1 = 123 ∧ op < 20
  · rw [if_pos c] at h'
    obtain ⟨r1, _, b⟩ := h'
    by_cases g : r1.1 = true
    · rw [if_pos g] at b
      unfold znd at b
      by_cases q : r1.2.2.2.1.length = 300
      · rw [if_pos q] at b
        exact absurd (show true = false from congrArg Prod.fst b) (by decide)
      · rw [if_neg q] at b
        have e : s9 = (r1.2.2.1, r1.2.2.2.1 ++ [(35, 0, 0, r1.2.2.2.2.2.1)], r1.2.2.2.2.1 + 0, s.2.2.2.1 ++ [r1.2.2.2.1.length], s.2.2.2.2) := congrArg (fun r : ZR => r.2.2) b
        rw [e, hk]
        show [] ++ [r1.2.2.2.1.length] = [(r1.2.2.2.1 ++ [(35, 0, 0, r1.2.2.2.2.2.1)]).length - 1]
        rw [List.length_append, List.length_singleton, Nat.add_sub_cancel, List.nil_append]
    · rw [if_neg g] at b
      exact absurd (show r1.1 = true from (congrArg Prod.fst b).symm) g
  · rw [if_neg c] at h'
    exact absurd (show true = false from congrArg Prod.fst h') (by decide)
/-! the reference reads declarations -/
theorem tl_49 {w0 : MW} {b A : Nat} {l : List Int} {x1 x2 : Int32} {E : MW → Prop} {Q : Int32 → MW → Prop} (hs : SgM w0 b l) (hA : x2.toInt = (A : Int)) (A8 : A < 80) (l12 : l.length ≤ 12) (lb : ∀ c ∈ l, -128 ≤ c ∧ c ≤ 127) (hE : ∀ w', BND w' → FR [(139, none)] w0 w' → (∀ (k : Nat) (c : Int), l[k]? = some c → (w'.1 139 (12 * A + k)).toInt = c) → (∀ j : Nat, (j < 12 * A ∨ 12 * A + 12 ≤ j) → w'.1 139 j = w0.1 139 j) → E w') (m : Nat) : ∀ (j : Nat) (w : MW), BND w → FR [(139, none)] w0 w → j ≤ l.length → (∀ (k : Nat) (c : Int), k < j → l[k]? = some c → (w.1 139 (12 * A + k)).toInt = c) → (∀ i : Nat, (i < 12 * A ∨ 12 * A + 12 ≤ i) → w.1 139 i = w0.1 139 i) → l.length - j < m → q_Tx_tell_49 x1 x2 E Q m (nI (b + j)) w := by
  induction m with
  | zero => intros; omega
  | succ m ih =>
    intro j w hI hF hj hk ho hm
    have b4 := hs.2.2.1
    have e5 : (w.1 129 5).toInt = (b : Int) := by rw [(hF 129 5 rfl).1]; exact hs.1
    have e6 : (w.1 129 6).toInt = ((b + l.length : Nat) : Int) := by rw [(hF 129 6 rfl).1]; exact hs.2.1
    have tj : (nI (b + j)).toInt = ((b + j : Nat) : Int) := nI_toInt (by omega)
    have tn : (nI (b + j)).toInt.toNat = b + j := by omega
    have s12 := ti_mul2 (show (12 : Int32).toInt = 12 by decide) hA (by omega) (by omega)
    have sA := ti_add2 s12 tj (by omega) (by omega)
    have sB := ti_sub2 sA e5 (by omega) (by omega)
    rw [q_Tx_tell_49.eq_2, tn]
    refine ⟨fun c => hE w hI hF (fun k c hc => hk k c (by have := (List.getElem?_eq_some_iff.mp hc).1; omega) hc) ho, fun c => ⟨⟨by omega, by omega⟩, ⟨by omega, by omega⟩, ?_⟩⟩
    have jl : j < l.length := by omega
    have g := hs.2.2.2 j _ (List.getElem?_eq_getElem jl)
    have lj := lb _ (List.getElem_mem jl)
    have e130 : (w.1 130 (b + j)).toInt = l[j] := by rw [(hF 130 (b + j) rfl).1]; exact g
    have ev := nb_byteq (x := w.1 130 (b + j)) (by omega) (by omega)
    have ix : (((((12 : Int32) * x2) + (nI (b + j))) - (w.1 129 5)).toInt.toNat) = 12 * A + j := by omega
    rw [ix, nI_1]
    refine ih (j + 1) _ (wbd_139 hI _ (by omega) (by omega)) (FR.I hF rfl) jl (fun k c hc hkc => ?_) (fun i hi => ?_) (by omega)
    · by_cases q : k = j
      · rw [q] at hkc ⊢
        rw [sI_same, ev, e130]
        rw [List.getElem?_eq_getElem jl] at hkc
        exact Option.some.inj hkc
      · rw [sI_ne _ _ _ _ _ (by omega)]
        exact hk k c (by omega) hkc
    · rw [sI_ne _ _ _ _ _ (by omega)]
      exact ho i hi
theorem wrd_b {f : Int → Int} {n p : Int} (k : (wrd f n p).1 ≤ 30) : ∀ c ∈ (wrd f n p).2.2.2.1, -128 ≤ c ∧ c ≤ 127 := fun c hc => by
  rcases (wrd_l k).1 c hc with t | t <;> omega
/-- a new name -/
theorem y_tell {w : MW} {f : Int → Int} {n : Int} {nm : List Nm} {op : Nat} {e p c : Int} {ns : List Nod} {a : Int32} {Q : Int32 → MW → Prop} (h : YS w f n nm op e p ns) (c8 : c = 8 ∨ c = 9 ∨ c = 10) (ha : a.toInt = mrl c) (hb : ¬ ((wrd f n p).1 = 30 ∧ (lki (wrd f n p).2.2.2.1 nm 0).1 < 0 ∧ nm.length < 40) → ∀ w', (w'.1 129 10).toInt = (wrd f n p).2.1 → Q (-1) w') (hg : (wrd f n p).1 = 30 ∧ (lki (wrd f n p).2.2.2.1 nm 0).1 < 0 ∧ nm.length < 40 → ∀ (r : Int32) (w' : MW), r.toInt = (nm.length : Int) → YS w' f n (nm ++ [((wrd f n p).2.2.2.1, c, 0, -1)]) op e p ns → KX w w' → FR [(129, some 24), (139, none), (140, none), (141, none), (142, none), (143, none)] w w' → Q r w') : p_Tx_tell w a Q := by
  have hI := h.1.1.1
  have bad : ¬ ((wrd f n p).1 = 30 ∧ (lki (wrd f n p).2.2.2.1 nm 0).1 < 0 ∧ nm.length < 40) → p_Tx_bad w (fun r3 w3 => (Q r3 w3)) := fun no => y_bad h (hb no)
  have n0 := h.1.2.2.1.1
  have n4 := h.1.2.2.1.2.1
  have bh := bhf_b hI
  refine Eq.mpr (p_Tx_tell.eq_1 _ _ _) (y_isn h (fun k30 => ⟨fun z => absurd z i1n, fun _ => mn_x hI h.1.2.2.1 (y_sg h (Or.inl k30)) (fun no => ⟨fun z => absurd z (by decide), fun _ => ⟨fun c40 => ?_, fun c40 => bad (fun z => by have := Classical.not_not.mp c40; omega)⟩⟩) (fun j x hx ex el => ⟨fun _ => bad (fun z => ?_), fun z => ?_⟩)⟩) (fun n30 => ⟨fun _ => bad (fun z => n30 z.1), fun z => absurd i_0 z⟩))
  · have sg := y_sg h (Or.inl k30)
    have yes : (wrd f n p).1 = 30 ∧ (lki (wrd f n p).2.2.2.1 nm 0).1 < 0 ∧ nm.length < 40 := ⟨k30, by rw [no]; decide, by omega⟩
    have wl := wrd_l (f := f) (n := n) (p := p) (by omega)
    have ei := cc_ix (n := w.1 129 24) hI (by omega) (by omega)
    have eA : (((40 : Int32) * ((1 : Int32) - (w.1 129 12))) + (w.1 129 24)).toInt = (((40 * bhf w + (nm.length : Int)).toNat : Nat) : Int) := by omega
    have e5 : w.1 129 5 = nI ((wrd f n p).2.1.toNat + 0) := by
      have t := nI_tn (a := w.1 129 5) (by rw [sg.1]; omega)
      rw [sg.1] at t
      exact t.symm
    have b8 := sg.2.2.1
    have s24 := ti_add2 n0 i_1 (by omega) (by omega)
    have t24 := ti_sub2 s24 i_1 (by omega) (by omega)
    have sd := ti_sub2 sg.2.1 sg.1 (by omega) (by omega)
    have GO := tl_49 (x1 := a) (Q := Q) (E := fun (w11 : MW) => ((0 ≤ (((40 : Int32) * ((1 : Int32) - (w.1 129 12))) + (w.1 129 24)).toInt ∧ (((40 : Int32) * ((1 : Int32) - (w.1 129 12))) + (w.1 129 24)).toInt < 80) ∧ ((0 ≤ (((40 : Int32) * ((1 : Int32) - (w.1 129 12))) + (w.1 129 24)).toInt ∧ (((40 : Int32) * ((1 : Int32) - (w.1 129 12))) + (w.1 129 24)).toInt < 80) ∧ ((0 ≤ (((40 : Int32) * ((1 : Int32) - (w.1 129 12))) + (w.1 129 24)).toInt ∧ (((40 : Int32) * ((1 : Int32) - (w.1 129 12))) + (w.1 129 24)).toInt < 80) ∧ ((0 ≤ (((40 : Int32) * ((1 : Int32) - (w.1 129 12))) + (w.1 129 24)).toInt ∧ (((40 : Int32) * ((1 : Int32) - (w.1 129 12))) + (w.1 129 24)).toInt < 80) ∧ (Q (((w11.1 129 24) + (1 : Int32)) - (1 : Int32)) (sI (sI (sI (sI (sI w11 140 ((((40 : Int32) * ((1 : Int32) - (w.1 129 12))) + (w.1 129 24)).toInt.toNat) ((w11.1 129 6) - (w11.1 129 5))) 141 ((((40 : Int32) * ((1 : Int32) - (w.1 129 12))) + (w.1 129 24)).toInt.toNat) a) 142 ((((40 : Int32) * ((1 : Int32) - (w.1 129 12))) + (w.1 129 24)).toInt.toNat) 0) 143 ((((40 : Int32) * ((1 : Int32) - (w.1 129 12))) + (w.1 129 24)).toInt.toNat) (-1)) 129 24 ((w11.1 129 24) + (1 : Int32)))))))))
      sg eA (by omega) wl.2 (wrd_b (by omega)) (fun w11 I11 F11 k11 o11 => ?_) FU 0 w hI (FR.refl _ w) (Nat.zero_le _) (fun k c hk => absurd hk (Nat.not_lt_zero _)) (fun _ _ => rfl) (Nat.lt_of_le_of_lt (show _ ≤ 12 by have := wl.2; omega) (fu_lt (by decide)))
    · rw [← e5] at GO
      exact GO
    · have f24 : w11.1 129 24 = w.1 129 24 := (F11 129 24 rfl).1
      have f5 : w11.1 129 5 = w.1 129 5 := (F11 129 5 rfl).1
      have f6 : w11.1 129 6 = w.1 129 6 := (F11 129 6 rfl).1
      refine ⟨⟨by omega, by omega⟩, ⟨by omega, by omega⟩, ⟨by omega, by omega⟩, ⟨by omega, by omega⟩, ?_⟩
      rw [f24, f5, f6]
      have X0 : (((40 : Int32) * ((1 : Int32) - (w.1 129 12))) + (w.1 129 24)).toInt.toNat = (40 * bhf w + (nm.length : Int)).toNat := by omega
      rw [X0]
      generalize hX : (40 * bhf w + (nm.length : Int)).toNat = X at *
      have X1 : (X : Int) = 40 * bhf w + (nm.length : Int) := by omega
      have hB : BND (sI (sI (sI (sI (sI w11 140 X ((w.1 129 6) - (w.1 129 5))) 141 X a) 142 X 0) 143 X (-1)) 129 24 ((w.1 129 24) + (1 : Int32))) := wbd_129_24 (wbd_143 (wbd_142 (wbd_141 (wbd_140 I11 X (by omega) (by have := wl.2; omega)) X) X (by decide) (by decide)) X (by decide) (by decide)) (by omega) (by omega)
      have hF : FR [(129, some 24), (139, none), (140, none), (141, none), (142, none), (143, none)] w (sI (sI (sI (sI (sI w11 140 X ((w.1 129 6) - (w.1 129 5))) 141 X a) 142 X 0) 143 X (-1)) 129 24 ((w.1 129 24) + (1 : Int32))) := FR.I (FR.I (FR.I (FR.I (FR.I ((FR.refl _ w).tr F11 rfl) rfl) rfl) rfl) rfl) rfl
      have r24 : ((sI (sI (sI (sI (sI w11 140 X ((w.1 129 6) - (w.1 129 5))) 141 X a) 142 X 0) 143 X (-1)) 129 24 ((w.1 129 24) + (1 : Int32))).1 129 24) = (w.1 129 24) + (1 : Int32) := rfl
      have r139 : ∀ j, (sI (sI (sI (sI (sI w11 140 X ((w.1 129 6) - (w.1 129 5))) 141 X a) 142 X 0) 143 X (-1)) 129 24 ((w.1 129 24) + (1 : Int32))).1 139 j = w11.1 139 j := fun j => rfl
      have r140 : ∀ j, (sI (sI (sI (sI (sI w11 140 X ((w.1 129 6) - (w.1 129 5))) 141 X a) 142 X 0) 143 X (-1)) 129 24 ((w.1 129 24) + (1 : Int32))).1 140 j = (sI w11 140 X ((w.1 129 6) - (w.1 129 5))).1 140 j := fun j => rfl
      have r141 : ∀ j, (sI (sI (sI (sI (sI w11 140 X ((w.1 129 6) - (w.1 129 5))) 141 X a) 142 X 0) 143 X (-1)) 129 24 ((w.1 129 24) + (1 : Int32))).1 141 j = (sI w11 141 X a).1 141 j := fun j => rfl
      have r142 : ∀ j, (sI (sI (sI (sI (sI w11 140 X ((w.1 129 6) - (w.1 129 5))) 141 X a) 142 X 0) 143 X (-1)) 129 24 ((w.1 129 24) + (1 : Int32))).1 142 j = (sI w11 142 X 0).1 142 j := fun j => rfl
      have r143 : ∀ j, (sI (sI (sI (sI (sI w11 140 X ((w.1 129 6) - (w.1 129 5))) 141 X a) 142 X 0) 143 X (-1)) 129 24 ((w.1 129 24) + (1 : Int32))).1 143 j = (sI w11 143 X (-1)).1 143 j := fun j => rfl
      generalize (sI (sI (sI (sI (sI w11 140 X ((w.1 129 6) - (w.1 129 5))) 141 X a) 142 X 0) 143 X (-1)) 129 24 ((w.1 129 24) + (1 : Int32))) = w' at *
      have eb : bhf w' = bhf w := by unfold bhf; rw [(hF 129 12 rfl).1]
      refine hg yes _ w' (by rw [t24]; omega) ⟨⟨yj_fr h.1.1 hF hB rfl, txm_fr h.1.2.1 hF rfl, ⟨?_, ?_, fun i x hx => ?_⟩, by rw [(hF 129 11 rfl).1]; exact h.1.2.2.2⟩, ?_, h.2.2.1, pnm_k h.2.2.2.1 (KNm.fr hF rfl) hI (hF 129 13 rfl).1, h.2.2.2.2⟩ (KX.fr hF rfl) hF
      · rw [r24, s24, List.length_append, List.length_singleton]
        omega
      · rw [List.length_append, List.length_singleton]
        omega
      · rw [eb]
        rcases app_get hx with q | ⟨q, q2⟩
        · have il := (List.getElem?_eq_some_iff.mp q).1
          have g := h.1.2.2.1.2.2 i x q
          have ne : (40 * bhf w + (i : Int)).toNat ≠ X := by omega
          rw [r140, sI_ne _ _ _ _ _ ne, (F11 140 _ rfl).1, r141, sI_ne _ _ _ _ _ ne, (F11 141 _ rfl).1, r142, sI_ne _ _ _ _ _ ne, (F11 142 _ rfl).1, r143, sI_ne _ _ _ _ _ ne, (F11 143 _ rfl).1]
          refine ⟨g.1, g.2.1, fun k cc hk => ?_, g.2.2.2⟩
          have kl := (List.getElem?_eq_some_iff.mp hk).1
          have x12 := g.2.1
          rw [r139, o11 _ (Or.inl (by omega))]
          exact g.2.2.1 k cc hk
        · have ex : (40 * bhf w + (i : Int)).toNat = X := by rw [q]; exact hX
          rw [ex, r140, sI_same, r141, sI_same, r142, sI_same, r143, sI_same, q2]
          refine ⟨by rw [sd]; show _ = ((wrd f n p).2.2.2.1.length : Int); omega, wl.2, fun k cc hk => ?_, ha, i_0, ?_, c8⟩
          · rw [r139, show (12 * (40 * bhf w + (i : Int)) + (k : Int)).toNat = 12 * X + k by rw [q]; omega]
            exact k11 k cc hk
          · show (-1 : Int32).toInt = (if (-1 : Int) < 0 then -1 else -1 + 1)
            decide
      · have t := h.2.1
        unfold TkM at t ⊢
        rw [(hF 129 4 rfl).1, (hF 129 5 rfl).1, (hF 129 2 rfl).1, (hF 129 6 rfl).1, (hF 129 8 rfl).2.1, (hF 129 9 rfl).1]
        exact t
  · have z2 := z.2.1
    rw [el] at z2
    have z3 : (j : Int) < 0 := z2
    omega
  · have jl := (List.getElem?_eq_some_iff.mp hx).1
    exact absurd (show 0 ≤ (nI j).toInt by rw [nI_toInt (by omega)]; omega) z
/-- the unit of the name that was told last -/
theorem y_setu {w : MW} {f : Int → Int} {n : Int} {nm : List Nm} {op : Nat} {e p c : Int} {l : List Int} {ns : List Nod} {u : Int32} {X : Nat} (h : YS w f n (nm ++ [(l, c, 0, -1)]) op e p ns) (hX : (X : Int) = 40 * bhf w + (nm.length : Int)) (u0 : 0 ≤ u.toInt) (u5 : u.toInt ≤ 5) : YS (sI w 142 X u) f n (nm ++ [(l, c, u.toInt, -1)]) op e p ns ∧ KX w (sI w 142 X u) := by
  have F : FR [(142, none)] w (sI w 142 X u) := FR.I (FR.refl _ w) rfl
  have hB : BND (sI w 142 X u) := wbd_142 h.1.1.1 X u0 u5
  have eb : bhf (sI w 142 X u) = bhf w := by unfold bhf; rw [(F 129 12 rfl).1]
  have N := h.1.2.2.1
  have len : ∀ y : Nm, (nm ++ [y]).length = nm.length + 1 := fun y => by rw [List.length_append, List.length_singleton]
  refine ⟨⟨⟨yj_fr h.1.1 F hB rfl, txm_fr h.1.2.1 F rfl, ⟨?_, ?_, fun i x hx => ?_⟩, by rw [(F 129 11 rfl).1]; exact h.1.2.2.2⟩, ?_, h.2.2.1, pnm_k h.2.2.2.1 (KNm.fr F rfl) h.1.1.1 (F 129 13 rfl).1, h.2.2.2.2⟩, KX.fr F rfl⟩
  · have t := N.1
    rw [(F 129 24 rfl).1, len]
    rw [len] at t
    exact t
  · have t := N.2.1
    rw [len] at t ⊢
    exact t
  · rw [eb, (F 140 _ rfl).1, (F 141 _ rfl).1, (F 143 _ rfl).1]
    rcases app_get hx with q | ⟨q, q2⟩
    · have il := (List.getElem?_eq_some_iff.mp q).1
      have g := N.2.2 i x (by rw [List.getElem?_append_left il]; exact q)
      have bh := bhf_b h.1.1.1
      rw [sI_ne _ _ _ _ _ (show (40 * bhf w + (i : Int)).toNat ≠ X by omega)]
      exact ⟨g.1, g.2.1, fun k cc hk => by rw [(F 139 _ rfl).1]; exact g.2.2.1 k cc hk, g.2.2.2⟩
    · have g := N.2.2 i (l, c, 0, -1) (by rw [q, List.getElem?_append_right (Nat.le_refl _), Nat.sub_self]; rfl)
      have bh := bhf_b h.1.1.1
      rw [show (40 * bhf w + (i : Int)).toNat = X by rw [q]; omega, sI_same, q2]
      rw [show (40 * bhf w + (i : Int)).toNat = X by rw [q]; omega] at g
      exact ⟨g.1, g.2.1, fun k cc hk => by rw [(F 139 _ rfl).1]; exact g.2.2.1 k cc hk, g.2.2.2.1, rfl, g.2.2.2.2.2⟩
  · have t := h.2.1
    unfold TkM at t ⊢
    rw [(F 129 4 rfl).1, (F 129 5 rfl).1, (F 129 2 rfl).1, (F 129 6 rfl).1, (F 129 8 rfl).2.1, (F 129 9 rfl).1]
    exact t
/-- the node of the step that was told last -/
theorem y_sets {w : MW} {f : Int → Int} {n : Int} {nm : List Nm} {op : Nat} {e p : Int} {l : List Int} {ns : List Nod} {r : Int32} {X : Nat} (h : YS w f n (nm ++ [(l, 10, 0, -1)]) op e p ns) (hX : (X : Int) = 40 * bhf w + (nm.length : Int)) (r0 : 1 ≤ r.toInt) (r9 : r.toInt ≤ 299) : YS (sI w 143 X r) f n (nm ++ [(l, 10, 0, r.toInt - 1)]) op e p ns ∧ KX w (sI w 143 X r) := by
  have F : FR [(143, none)] w (sI w 143 X r) := FR.I (FR.refl _ w) rfl
  have hB : BND (sI w 143 X r) := wbd_143 h.1.1.1 X (by omega) r9
  have eb : bhf (sI w 143 X r) = bhf w := by unfold bhf; rw [(F 129 12 rfl).1]
  have N := h.1.2.2.1
  have len : ∀ y : Nm, (nm ++ [y]).length = nm.length + 1 := fun y => by rw [List.length_append, List.length_singleton]
  refine ⟨⟨⟨yj_fr h.1.1 F hB rfl, txm_fr h.1.2.1 F rfl, ⟨?_, ?_, fun i x hx => ?_⟩, by rw [(F 129 11 rfl).1]; exact h.1.2.2.2⟩, ?_, h.2.2.1, pnm_k h.2.2.2.1 (KNm.fr F rfl) h.1.1.1 (F 129 13 rfl).1, h.2.2.2.2⟩, KX.fr F rfl⟩
  · have t := N.1
    rw [(F 129 24 rfl).1, len]
    rw [len] at t
    exact t
  · have t := N.2.1
    rw [len] at t ⊢
    exact t
  · rw [eb, (F 140 _ rfl).1, (F 141 _ rfl).1, (F 142 _ rfl).1]
    rcases app_get hx with q | ⟨q, q2⟩
    · have il := (List.getElem?_eq_some_iff.mp q).1
      have g := N.2.2 i x (by rw [List.getElem?_append_left il]; exact q)
      have bh := bhf_b h.1.1.1
      rw [sI_ne _ _ _ _ _ (show (40 * bhf w + (i : Int)).toNat ≠ X by omega)]
      exact ⟨g.1, g.2.1, fun k cc hk => by rw [(F 139 _ rfl).1]; exact g.2.2.1 k cc hk, g.2.2.2⟩
    · have g := N.2.2 i (l, 10, 0, -1) (by rw [q, List.getElem?_append_right (Nat.le_refl _), Nat.sub_self]; rfl)
      have bh := bhf_b h.1.1.1
      rw [show (40 * bhf w + (i : Int)).toNat = X by rw [q]; omega, sI_same, q2]
      rw [show (40 * bhf w + (i : Int)).toNat = X by rw [q]; omega] at g
      refine ⟨g.1, g.2.1, fun k cc hk => by rw [(F 139 _ rfl).1]; exact g.2.2.1 k cc hk, g.2.2.2.1, g.2.2.2.2.1, ?_, g.2.2.2.2.2.2⟩
      show r.toInt = (if r.toInt - 1 < 0 then -1 else r.toInt - 1 + 1)
      rw [if_neg (by omega)]
      omega
  · have t := h.2.1
    unfold TkM at t ⊢
    rw [(F 129 4 rfl).1, (F 129 5 rfl).1, (F 129 2 rfl).1, (F 129 6 rfl).1, (F 129 8 rfl).2.1, (F 129 9 rfl).1]
    exact t
/-! the reference reads a program -/
/-- the numbers ts stand outside -/
def TpM (w : MW) (ts : List Nat) : Prop := (w.1 129 23).toInt = (ts.length : Int) ∧ ∀ (k c : Nat), ts[k]? = some c → (w.1 138 (nb w (k : Int))).toInt = (c : Int)
theorem tpl_k {w w' : MW} {ts : List Nat} (h : TpM w ts) (K : KNm w w') : TpM w' ts := ⟨by rw [K.2.2.2.2.2.1]; exact h.1, fun k c hk => by rw [(knm_b K).2, K.2.2.2.2.2.2]; exact h.2 k c hk⟩
/-- a number more -/
theorem y_top {w : MW} {f : Int → Int} {n : Int} {nm : List Nm} {op : Nat} {e p : Int} {ns : List Nod} {ts : List Nat} {r : Int32} {X : Nat} {y : Int32} (h : YS w f n nm op (e + 1) p ns) (he : 0 ≤ e) (hT : TpM w ts) (r0 : 0 ≤ r.toInt) (r1 : r.toInt < (ns.length : Int)) (hX : X = nb w (ts.length : Int)) (hy : y.toInt = (ts.length : Int) + 1) : YS (sI (sI w 138 X r) 129 23 y) f n nm op e p ns ∧ TpM (sI (sI w 138 X r) 129 23 y) (ts ++ [r.toInt.toNat]) ∧ FR [(129, some 23), (138, none)] w (sI (sI w 138 X r) 129 23 y) := by
  have hI := h.1.1.1
  have b13 := bd_129_13 hI
  have b21 := bd_129_21 hI
  have b35 := bd_129_35 hI
  have b23 := bd_129_23 hI
  have e13 := h.2.2.2.1.1
  have hs := h.1.1.2.2
  have t1 := hT.1
  have F : FR [(129, some 23), (138, none)] w (sI (sI w 138 X r) 129 23 y) := FR.I (FR.I (FR.refl _ w) rfl) rfl
  have hB : BND (sI (sI w 138 X r) 129 23 y) := wbd_129_23 (wbd_138 hI X r0 (by omega)) (by omega) (by omega)
  have r138 : ∀ j, (sI (sI w 138 X r) 129 23 y).1 138 j = (sI w 138 X r).1 138 j := fun j => rfl
  have r23 : (sI (sI w 138 X r) 129 23 y).1 129 23 = y := sI_same _ _ _ _
  generalize (sI (sI w 138 X r) 129 23 y) = w' at *
  have eb : bhf w' = bhf w := by unfold bhf; rw [(F 129 12 rfl).1]
  have en : ∀ i, nb w' i = nb w i := fun i => by unfold nb; rw [eb]
  refine ⟨⟨⟨⟨hB, he, ?_⟩, txm_fr h.1.2.1 F rfl, nmm_fr h.1.2.2.1 F rfl, by rw [(F 129 11 rfl).1]; exact h.1.2.2.2⟩, ?_, h.2.2.1, ⟨by rw [(F 129 13 rfl).1]; exact e13, fun i d hd => ?_⟩, h.2.2.2.2⟩, ⟨?_, fun k c hk => ?_⟩, F⟩
  · rw [(F 129 35 rfl).1, (F 129 21 rfl).1, r23, (F 129 13 rfl).1]
    omega
  · have t := h.2.1
    unfold TkM at t ⊢
    rw [(F 129 4 rfl).1, (F 129 5 rfl).1, (F 129 2 rfl).1, (F 129 6 rfl).1, (F 129 8 rfl).2.1, (F 129 9 rfl).1]
    exact t
  · have t := h.2.2.2.1.2 i d hd
    unfold PNd at t ⊢
    rw [en, (F 131 _ rfl).1, (F 132 _ rfl).2.1, (F 135 _ rfl).1, (F 136 _ rfl).1, (F 129 21 rfl).1]
    refine ⟨t.1, t.2.1, t.2.2.1, t.2.2.2.1, t.2.2.2.2.1, fun k c hk => ?_⟩
    rw [en, (F 137 _ rfl).1]
    exact t.2.2.2.2.2 k c hk
  · rw [r23, hy, List.length_append, List.length_singleton]
    omega
  · rw [en, r138]
    rcases app_get hk with q | ⟨q, q2⟩
    · have kl := (List.getElem?_eq_some_iff.mp q).1
      have bh := bhf_b hI
      rw [sI_ne _ _ _ _ _ (show nb w (k : Int) ≠ X by rw [hX]; unfold nb; omega)]
      exact hT.2 k c q
    · rw [q, ← hX, sI_same, q2]
      omega
def YD (w : MW) (f : Int → Int) (n : Int) (s : DS) (ts : List Nat) : Prop := YS w f n s.2.2.2 0 0 s.1 s.2.1 ∧ (w.1 129 38).toInt = s.2.2.1 ∧ 0 ≤ s.2.2.1 ∧ s.2.2.1 ≤ (s.2.1.length : Int) ∧ TpM w ts ∧ ∀ t ∈ ts, t < s.2.1.length ∧ (w.1 131 (nb w (t : Int))).toInt = 24
theorem stp_k {w w' : MW} {ns : List Nod} {ts : List Nat} (h : ∀ t ∈ ts, t < ns.length ∧ (w.1 131 (nb w (t : Int))).toInt = 24) (e13 : (w.1 129 13).toInt = (ns.length : Int)) (K : KNm w w') : ∀ t ∈ ts, t < ns.length ∧ (w'.1 131 (nb w' (t : Int))).toInt = 24 := fun t ht => by
  have q := h t ht
  refine ⟨q.1, ?_⟩
  rw [(knm_b K).2, (K.2.2.2.1 (t : Int) (by omega) (by omega)).1]
  exact q.2
/-- a declaration -/
theorem y_decl {w : MW} {f : Int → Int} {n : Int} {s : DS} {ts : List Nat} {Q : Int32 → MW → Prop} (h : YD w f n s ts) (hc : (wrd f n s.1).1 = 8 ∨ (wrd f n s.1).1 = 9 ∨ (wrd f n s.1).1 = 10) (hb : ∀ (w' : MW) (r : DQ), dcl f n s r → r.1 = false → (w'.1 129 10).toInt = r.2.1 → Q 0 w') (hg : ∀ (w' : MW) (s' : DS) (ts' : List Nat), dcl f n s (dok s') → YD w' f n s' ts' → s.2.2.2.length < s'.2.2.2.length → Q 1 w') : p_Tx_declaration w Q := by
  have Y := h.1
  have tk := y_tk Y
  have tb := tk_unit (f := f) (n := n) (p := s.1) Y.2.2.1
  have ewh := ti_sub2 tk (show (1000 : Int32).toInt = 1000 by decide) (by omega) (by omega)
  have erl : tkm (wrd f n s.1).1 - 1000 = mrl (wrd f n s.1).1 := by
    rcases hc with c | c | c <;> rw [c] <;> decide
  have e24 : mrl (wrd f n s.1).1 = 24 ↔ (wrd f n s.1).1 = 10 := by
    rcases hc with c | c | c <;> rw [c] <;> decide
  refine Eq.mpr (p_Tx_declaration.eq_1 _ _) ?_
  generalize ((w.1 129 4) - (1000 : Int32)) = wh at *
  refine y_go Y (fun ok w1 F1 Y1 K1 p1 => ⟨fun _ => ?_, fun z => absurd i1n z⟩) (fun bad w1 e1 => ⟨fun z => absurd i_0 z, fun _ => hb w1 (der (wrd f n (wrd f n s.1).2.2.1).2.1) (by unfold dcl; rw [if_pos bad]) rfl e1⟩)
  refine y_tell (c := (wrd f n s.1).1) Y1 hc (by omega) (fun no w' e' => ⟨fun _ => hb w' (der (wrd f n (wrd f n s.1).2.2.1).2.1) (by unfold dcl; rw [if_neg ok, if_pos no]) rfl e', fun z => absurd (show (-1 : Int32).toInt < 0 by decide) z⟩) (fun yes r3 w3 e3 Y3 K3 F3 => ⟨fun z => absurd z (by omega), fun _ => ?_⟩)
  have n4 := Y1.1.2.2.1.2.1
  refine y_go Y3 (fun ok5 w5 F5 Y5 K5 p5 => ⟨fun _ => ?_, fun z => absurd i1n z⟩) (fun bad w5 e5 => ⟨fun z => absurd i_0 z, fun _ => hb w5 (der (wrd f n (wrd f n (wrd f n s.1).2.2.1).2.2.1).2.1) (by unfold dcl; rw [if_neg ok, if_neg (fun z => z yes), if_pos bad]) rfl e5⟩)
  have K135 : KX w w5 := (K1.tr K3).tr K5
  have e13 := Y.2.2.2.1.1
  have bh := bhf_b Y5.1.1.1
  have ei := cc_ix (n := r3) Y5.1.1.1 (by omega) (by omega)
  have m5 : (w5.1 129 38).toInt = s.2.2.1 := by rw [K135.2.2.2]; exact h.2.1
  have T5 : TpM w5 ts := tpl_k h.2.2.2.2.1 K135.1
  have S5 := stp_k h.2.2.2.2.2 e13 K135.1
  refine ⟨fun c10 => ?_, fun n10 => ?_⟩
  · have k10 := e24.mp (by omega)
    rw [k10] at Y5
    have up : ∀ (r : DQ) (r1 : ZR), ZI f n (lkn s.2.2.2) 0 4 0 (dbl ((wrd f n (wrd f n s.1).2.2.1).2.2.1, s.2)) r1 → (if r1.1 = true then r = dst f n s (wrd f n (wrd f n s.1).2.2.1).2.2.2.1 r1.2.2 else r = der r1.2.1) → dcl f n s r := fun r r1 a b => by
      unfold dcl
      rw [if_neg ok, if_neg (fun z => z yes), if_neg ok5, if_pos k10]
      exact ⟨r1, a, b⟩
    have Z5 : YZ w5 f n (s.2.2.2 ++ [((wrd f n (wrd f n s.1).2.2.1).2.2.2.1, 10, 0, -1)]) 0 0 (w5.1 129 35).toInt (dbl ((wrd f n (wrd f n s.1).2.2.1).2.2.1, s.2)) := ⟨Y5, pil_nil Y5.1.1.1, m5, h.2.2.1, h.2.2.2.1⟩
    have lk := lkn_app s.2.2.2 (wrd f n (wrd f n s.1).2.2.1).2.2.2.1
    refine yi_blk (c := 4) (y_block (by omega)) Z5 (fun w' r hz hf ew => ⟨fun z => absurd i_0 z, fun _ => ?_⟩) (fun w9 s9 hz ea p9 n9 Z9 K9 => ⟨fun _ => ?_, fun z => absurd i1n z⟩)
    · rw [lk] at hz
      exact hb w' (der r.2.1) (up _ r hz (by rw [if_neg (by rw [hf]; decide)])) rfl ew
    · rw [lk] at hz
      have l9 := ys_len Z9.1
      have e9 := Z9.1.2.2.2.1.1
      have kids : s9.2.2.2.1 = [s9.2.1.length - 1] := zi_kid rfl hz
      have done : ∀ r, r = dst f n s (wrd f n (wrd f n s.1).2.2.1).2.2.2.1 s9 → dcl f n s r := fun r er => up r (zok s9) hz (by
        show (if true = true then _ else _)
        rw [if_pos rfl]
        exact er)
      refine y_node (d := (10, 0, 0, [s9.2.1.length - 1])) (lo := (w5.1 129 35).toInt) Z9.1 (show (24 : Int32).toInt = wht 10 by decide) (show 0 ≤ wht 10 by decide) (show wht 10 ≤ 24 by decide) (by decide) (by decide) rfl (by rw [← kids]; exact Z9.2.1) (fun z => absurd z (show ¬ (10 : Int) = 31 by decide)) (fun _ z => absurd rfl z) (fun n3 w' e' => ⟨fun z => absurd z (by decide), fun _ => hb w' (der (wrd f n s9.1).2.1) (done _ (by unfold dst; rw [if_pos n3])) rfl e'⟩) (fun n3 r w11 er Y11 KN e35 kp eu e38 e23 => ⟨fun _ => ?_, fun z => absurd (show 0 ≤ r.toInt by omega) z⟩)
      have eb : bhf w11 = bhf w5 := ((knm_b KN).1).trans (knm_b K9.1).1
      have ei2 := cc_ix (n := r3) Y11.1.1.1 (by omega) (by omega)
      have bh2 := bhf_b Y11.1.1.1
      have XX : ((((40 : Int32) * ((1 : Int32) - (w11.1 129 12))) + r3).toInt.toNat : Int) = 40 * bhf w11 + (s.2.2.2.length : Int) := by omega
      have lr : ((s9.2.1 ++ [(10, 0, 0, [s9.2.1.length - 1])]).length : Int) = (s9.2.1.length : Int) + 1 := by rw [List.length_append, List.length_singleton]; omega
      have ST := y_sets (r := r) Y11 XX (by omega) (by omega)
      refine ⟨⟨by omega, by omega⟩, Eq.mpr (p_Tx_base.eq_1 _ _) ?_⟩
      have T11 : TpM (sI w11 143 ((((40 : Int32) * ((1 : Int32) - (w11.1 129 12))) + r3).toInt.toNat) r) ts := tpl_k (tpl_k (tpl_k T5 K9.1) KN) ST.2.1
      have e13' := Y11.2.2.2.1.1
      have S11 : ∀ t ∈ ts, t < s.2.1.length ∧ (w11.1 131 (nb w11 (t : Int))).toInt = 24 := stp_k S5 (by have := Z5.1.2.2.2.1.1; exact this) (K9.1.tr KN)
      have k24 := (Y11.2.2.2.1.2 s9.2.1.length (10, 0, 0, [s9.2.1.length - 1]) (by rw [List.getElem?_append_right (Nat.le_refl _), Nat.sub_self]; rfl)).1
      generalize hw14 : sI w11 143 ((((40 : Int32) * ((1 : Int32) - (w11.1 129 12))) + r3).toInt.toNat) r = w14 at *
      have t23 := T11.1
      have b23 := bd_129_23 ST.1.1.1.1
      have ej := bb_ix (n := w14.1 129 23) ST.1.1.1.1 (by omega) (by omega)
      have bh3 := bhf_b ST.1.1.1.1
      have b13 := bd_129_13 ST.1.1.1.1
      have hs14 := ST.1.1.1.2.2
      have c35 := bd_129_35 ST.1.1.1.1
      have c21 := bd_129_21 ST.1.1.1.1
      have dl : (dbl ((wrd f n (wrd f n s.1).2.2.1).2.2.1, s.2)).2.1.length = s.2.1.length := rfl
      have s23 := ti_add2 t23 i_1 (by omega) (by omega)
      have TP := y_top (r := r) (X := ((((300 : Int32) * ((1 : Int32) - (w14.1 129 12))) + (w14.1 129 23)).toInt.toNat)) (y := (w14.1 129 23) + (1 : Int32)) ST.1 (Int.le_refl 0) T11 (by omega) (by omega) (by rw [ej]; unfold nb; rw [t23]) (by omega)
      refine ⟨⟨by omega, by omega⟩, hg _ (s9.1, s9.2.1 ++ [(10, 0, 0, [s9.2.1.length - 1])], s9.2.2.1, s.2.2.2 ++ [((wrd f n (wrd f n s.1).2.2.1).2.2.2.1, 10, 0, (s9.2.1.length : Int) - 1)]) (ts ++ [r.toInt.toNat]) (done _ (by unfold dst; rw [if_neg n3])) ⟨?_, ?_, Z9.2.2.2.1, ?_, TP.2.1, fun t ht => ?_⟩ ?_⟩
      · have t := TP.1
        rw [er] at t
        exact t
      · rw [(TP.2.2 129 38 rfl).1, ST.2.2.2.2, e38]
        exact Z9.2.2.1
      · show s9.2.2.1 ≤ ((s9.2.1 ++ [(10, 0, 0, [s9.2.1.length - 1])]).length : Int)
        have := Z9.2.2.2.2
        omega
      · show t < (s9.2.1 ++ [(10, 0, 0, [s9.2.1.length - 1])]).length ∧ _
        have eb3 : ∀ (a b : MW), bhf a = bhf b → ∀ i, nb a i = nb b i := fun a b q i => by unfold nb; rw [q]
        have q14 : bhf w14 = bhf w11 := (knm_b ST.2.1).1
        have qtp : bhf (sI (sI w14 138 ((((300 : Int32) * ((1 : Int32) - (w14.1 129 12))) + (w14.1 129 23)).toInt.toNat) r) 129 23 ((w14.1 129 23) + (1 : Int32))) = bhf w14 := by
          unfold bhf
          rw [(TP.2.2 129 12 rfl).1]
        rw [(TP.2.2 131 _ rfl).1, eb3 _ _ qtp, eb3 _ _ q14]
        have i14 : ∀ i : Int, 0 ≤ i → i < (w11.1 129 13).toInt → w14.1 131 (nb w11 i) = w11.1 131 (nb w11 i) := fun i i0 i1 => (ST.2.1.2.2.2.1 i i0 i1).1
        rcases List.mem_append.mp ht with q | q
        · have t1 := S11 t q
          refine ⟨by omega, ?_⟩
          rw [i14 _ (by omega) (by omega)]
          exact t1.2
        · rw [List.mem_singleton.mp q]
          refine ⟨by omega, ?_⟩
          rw [show ((r.toInt.toNat : Nat) : Int) = (s9.2.1.length : Int) by omega, i14 _ (by omega) (by omega), k24]
          show wht 10 = 24
          decide
      · show s.2.2.2.length < (s.2.2.2 ++ [_]).length
        rw [List.length_append, List.length_singleton]
        omega
  · have k10 : ¬ (wrd f n s.1).1 = 10 := fun q => n10 (by have := e24.mpr q; omega)
    have up : ∀ r, r = dsg f n s (wrd f n s.1).1 (wrd f n (wrd f n s.1).2.2.1).2.2.1 (wrd f n (wrd f n s.1).2.2.1).2.2.2.1 → dcl f n s r := fun r er => by
      unfold dcl
      rw [if_neg ok, if_neg (fun z => z yes), if_neg ok5, if_neg k10]
      exact er
    refine y_uw Y5 (fun u eu => ?_)
    have ub : 0 ≤ u.toInt ∧ u.toInt ≤ 5 := by
      by_cases c : 1 ≤ (wrd f n (wrd f n (wrd f n s.1).2.2.1).2.2.1).1 ∧ (wrd f n (wrd f n (wrd f n s.1).2.2.1).2.2.1).1 ≤ 5
      · rw [if_pos c] at eu
        omega
      · rw [if_neg c] at eu
        omega
    have XX : ((((40 : Int32) * ((1 : Int32) - (w5.1 129 12))) + r3).toInt.toNat : Int) = 40 * bhf w5 + (s.2.2.2.length : Int) := by omega
    have SU := y_setu (u := u) Y5 XX ub.1 ub.2
    refine ⟨⟨by omega, by omega⟩, ?_⟩
    generalize sI w5 142 ((((40 : Int32) * ((1 : Int32) - (w5.1 129 12))) + r3).toInt.toNat) u = w6 at *
    have fin : ∀ (w7 : MW) (q : Int), YS w7 f n (s.2.2.2 ++ [((wrd f n (wrd f n s.1).2.2.1).2.2.2.1, (wrd f n s.1).1, u.toInt, -1)]) 0 0 q s.2.1 → KX w5 w7 → (∀ r, r = dun f n s (wrd f n s.1).1 u.toInt q (wrd f n (wrd f n s.1).2.2.1).2.2.2.1 → dcl f n s r) → p_Tx_over w7 59 (fun r19 w19 => ((r19.toInt = 0 → (Q 0 w19)) ∧ (¬ (r19.toInt = 0) → (Q 1 w19)))) := fun w7 q Y7 K7 hd => by
      refine y_over (c := 59) Y7 (s59 q Y7.2.2.1) (fun k okk w' F' Y' K' pn => ⟨fun z => absurd z i1n, fun _ => hg w' ((wrd f n q).2.2.1, s.2.1, s.2.2.1, s.2.2.2 ++ [((wrd f n (wrd f n s.1).2.2.1).2.2.2.1, (wrd f n s.1).1, u.toInt, -1)]) ts (hd _ (by unfold dun; rw [if_pos k, if_neg okk])) ⟨Y', ?_, h.2.2.1, h.2.2.2.1, tpl_k T5 (K7.tr K').1, stp_k S5 Y5.2.2.2.1.1 (K7.tr K').1⟩ ?_⟩) (fun k bd w' e' => ⟨fun _ => hb w' (der (wrd f n (wrd f n q).2.2.1).2.1) (hd _ (by unfold dun; rw [if_pos k, if_pos bd])) rfl e', fun z => absurd i_0 z⟩) (fun no w' e' => ⟨fun _ => hb w' (der (wrd f n q).2.1) (hd _ (by unfold dun; rw [if_neg no])) rfl e', fun z => absurd i_0 z⟩)
      · rw [(K7.tr K').2.2.2]
        exact m5
      · show s.2.2.2.length < (s.2.2.2 ++ [_]).length
        rw [List.length_append, List.length_singleton]
        omega
    refine ⟨fun u0 => fin w6 _ SU.1 SU.2 (fun r er => up r ?_), fun u1 => y_go SU.1 (fun okk w7 F7 Y7 K7 p7 => ⟨fun z => absurd z i1n, fun _ => fin w7 _ Y7 (SU.2.tr K7) (fun r er => up r ?_)⟩) (fun bd w7 e7 => ⟨fun _ => hb w7 (der (wrd f n (wrd f n (wrd f n (wrd f n s.1).2.2.1).2.2.1).2.2.1).2.1) (up _ ?_) rfl e7, fun z => absurd i_0 z⟩)⟩
    · have c : ¬ (1 ≤ (wrd f n (wrd f n (wrd f n s.1).2.2.1).2.2.1).1 ∧ (wrd f n (wrd f n (wrd f n s.1).2.2.1).2.2.1).1 ≤ 5) := fun c => by
        rw [if_pos c] at eu
        omega
      unfold dsg
      rw [if_neg c, er, u0]
    · have c : 1 ≤ (wrd f n (wrd f n (wrd f n s.1).2.2.1).2.2.1).1 ∧ (wrd f n (wrd f n (wrd f n s.1).2.2.1).2.2.1).1 ≤ 5 := by
        by_cases c : 1 ≤ (wrd f n (wrd f n (wrd f n s.1).2.2.1).2.2.1).1 ∧ (wrd f n (wrd f n (wrd f n s.1).2.2.1).2.2.1).1 ≤ 5
        · exact c
        · rw [if_neg c] at eu
          exact absurd eu u1
      unfold dsg
      rw [if_pos c, if_neg okk, er, eu, if_pos c]
    · have c : 1 ≤ (wrd f n (wrd f n (wrd f n s.1).2.2.1).2.2.1).1 ∧ (wrd f n (wrd f n (wrd f n s.1).2.2.1).2.2.1).1 ≤ 5 := by
        by_cases c : 1 ≤ (wrd f n (wrd f n (wrd f n s.1).2.2.1).2.2.1).1 ∧ (wrd f n (wrd f n (wrd f n s.1).2.2.1).2.2.1).1 ≤ 5
        · exact c
        · rw [if_neg c] at eu
          exact absurd eu u1
      unfold dsg
      rw [if_pos c, if_pos bd]
/-! the reference reads a program: its two loops -/
theorem yp_5 {w0 : MW} {f : Int → Int} {n : Int} {s0 : DS} {E : Int32 → MW → Prop} {Q : Int32 → MW → Prop} (hb : ∀ (w' : MW) (r : DQ), (∃ k, DP f n k s0 r) → r.1 = false → (w'.1 129 10).toInt = r.2.1 → E 0 w') (hg : ∀ (w' : MW) (s' : DS) (ts' : List Nat), (∃ k, DP f n k s0 (dok s')) → YD w' f n s' ts' → E 1 w') (m : Nat) : ∀ (w : MW) (s : DS) (ts : List Nat), YD w f n s ts → (∀ r, (∃ k, DP f n k s r) → ∃ k, DP f n k s0 r) → 41 - s.2.2.2.length < m → q_Tx_program_5 E Q m 1 w := by
  induction m with
  | zero => intros; omega
  | succ m ih =>
    intro w s ts h H hm
    have n4 := h.1.1.2.2.1.2.1
    rw [q_Tx_program_5.eq_2]
    have D : ((wrd f n s.1).1 = 8 ∨ (wrd f n s.1).1 = 9 ∨ (wrd f n s.1).1 = 10) → p_Tx_declaration w (fun r5 w5 => (q_Tx_program_5 E Q m r5 w5)) := fun hc => by
      refine y_decl h hc (fun w' r hd hf ew => ?_) (fun w' s' ts' hd h' hl => ?_)
      · cases m with
        | zero => omega
        | succ m =>
          rw [q_Tx_program_5.eq_2]
          refine ⟨fun _ => hb w' r (H r ⟨1, ?_⟩) hf ew, fun z => absurd i_0 z⟩
          rw [DP_u, if_pos hc]
          exact ⟨r, hd, by rw [if_neg (by rw [hf]; decide)]⟩
      · have n4' := h'.1.1.2.2.1.2.1
        refine ih w' s' ts' h' (fun r hr => H r ?_) (by omega)
        obtain ⟨k, hr⟩ := hr
        refine ⟨k + 1, ?_⟩
        rw [DP_u, if_pos hc]
        refine ⟨dok s', hd, ?_⟩
        show (if true = true then _ else _)
        rw [if_pos rfl]
        exact hr
    refine ⟨fun z => absurd z i1n, fun _ => y_isw (c := 8) h.1 (by decide) (by decide) (fun k => ⟨fun _ => D (Or.inl k), fun z => absurd i1n z⟩) (fun n8 => ⟨fun z => absurd i_0 z, fun _ => y_isw (c := 9) h.1 (by decide) (by decide) (fun k => ⟨fun _ => D (Or.inr (Or.inl k)), fun z => absurd i1n z⟩) (fun n9 => ⟨fun z => absurd i_0 z, fun _ => y_isw (c := 10) h.1 (by decide) (by decide) (fun k => ⟨fun z => absurd z i1n, fun _ => D (Or.inr (Or.inr k))⟩) (fun n10 => ⟨fun _ => hg w s ts (H _ ⟨1, ?_⟩) h, fun z => absurd i_0 z⟩)⟩)⟩)⟩
    rw [DP_u, if_neg (by omega)]
/-- among the statements outside -/
def YE (w : MW) (f : Int → Int) (n : Int) (nm : List Nm) (s : ZS) (ts : List Nat) : Prop := YS w f n nm 0 0 s.1 s.2.1 ∧ (w.1 129 38).toInt = s.2.2.1 ∧ 0 ≤ s.2.2.1 ∧ s.2.2.1 ≤ (s.2.1.length : Int) ∧ TpM w (ts ++ s.2.2.2.1) ∧ (∀ t ∈ ts, t < s.2.1.length ∧ (w.1 131 (nb w (t : Int))).toInt = 24) ∧ ∀ t ∈ s.2.2.2.1, t < s.2.1.length ∧ (w.1 131 (nb w (t : Int))).toInt ≤ 23
theorem yp_44 {f : Int → Int} {n : Int} {nm : List Nm} {ts : List Nat} {E : Int32 → MW → Prop} {Q : Int32 → MW → Prop} {R : ZR → Prop} (hb : ∀ (w' : MW) (r : ZR), R r → r.1 = false → (w'.1 129 10).toInt = r.2.1 → E 0 w') (hg : ∀ (w' : MW) (s' : ZS), R (zok s') → (wrd f n s'.1).1 = 32 → YE w' f n nm s' ts → E 1 w') (m : Nat) : ∀ (w : MW) (s : ZS), YE w f n nm s ts → (∀ r, ZI f n (lkn nm) 0 10 0 s r → (r.1 = false ∨ ∃ s', r = zok s') → R r) → 301 - s.2.1.length < m → q_Tx_program_44 E Q m 1 w := by
  induction m with
  | zero => intros; omega
  | succ m ih =>
    intro w s h hR hm
    have l3 := ys_len h.1
    have tk := y_tk h.1
    have t32 := tk_end (f := f) (n := n) (p := s.1) h.1.2.2.1
    have e13 := h.1.2.2.2.1.1
    rw [q_Tx_program_44.eq_2, tk]
    refine ⟨fun z => absurd z i1n, fun _ => ⟨fun z => hg w s (hR _ (ZI_10n (t32.mp z)) (Or.inr ⟨s, rfl⟩)) (t32.mp z) h, fun z => ?_⟩⟩
    have n32 : ¬ (wrd f n s.1).1 = 32 := fun q => z (t32.mpr q)
    refine y_statement (Nat.zero_le _) 0 s w _ h.1 h.2.1 h.2.2.1 h.2.2.2.1 (fun y w1 r hr o => ?_)
    rcases o with ⟨s', er, Y1, y1, KN, e35, kp, m1, M0, M1, p1, n1, et, k23⟩ | ⟨g, y1, e1⟩
    · refine ⟨fun z => absurd z (by omega), fun _ => Eq.mpr (q_Tx_program_70.eq_1 _ _ _ _ _ _) ⟨fun z => absurd z i1n, fun _ => Eq.mpr (p_Tx_base.eq_1 _ _) ?_⟩⟩
      rw [er] at hr
      have T1 := tpl_k h.2.2.2.2.1 KN
      have l1 := ys_len Y1
      have t23 := T1.1
      have b23 := bd_129_23 Y1.1.1.1
      have b13 := bd_129_13 Y1.1.1.1
      have bh := bhf_b Y1.1.1.1
      have hs := Y1.1.1.2.2
      have b35 := bd_129_35 Y1.1.1.1
      have b21 := bd_129_21 Y1.1.1.1
      have ej := bb_ix (n := w1.1 129 23) Y1.1.1.1 (by omega) (by omega)
      have s23 := ti_add2 t23 i_1 (by omega) (by omega)
      have TP := y_top (r := y) (X := ((((300 : Int32) * ((1 : Int32) - (w1.1 129 12))) + (w1.1 129 23)).toInt.toNat)) (y := (w1.1 129 23) + (1 : Int32)) Y1 (Int.le_refl 0) T1 (by omega) (by omega) (by rw [ej]; unfold nb; rw [t23]) (by omega)
      have qtp : bhf (sI (sI w1 138 ((((300 : Int32) * ((1 : Int32) - (w1.1 129 12))) + (w1.1 129 23)).toInt.toNat) y) 129 23 ((w1.1 129 23) + (1 : Int32))) = bhf w1 := by
        unfold bhf
        rw [(TP.2.2 129 12 rfl).1]
      have qn : ∀ i, nb (sI (sI w1 138 ((((300 : Int32) * ((1 : Int32) - (w1.1 129 12))) + (w1.1 129 23)).toInt.toNat) y) 129 23 ((w1.1 129 23) + (1 : Int32))) i = nb w1 i := fun i => by unfold nb; rw [qtp]
      have ek : s'.2.2.2.1 = s.2.2.2.1 ++ [y.toInt.toNat] := by
        rw [et]
        show s.2.2.2.1 ++ [s'.2.1.length - 1] = _
        rw [show s'.2.1.length - 1 = y.toInt.toNat by omega]
      refine ⟨⟨by omega, by omega⟩, ?_⟩
      refine ih _ s' ⟨TP.1, by rw [(TP.2.2 129 38 rfl).1]; exact m1, M0, M1, ?_, fun t ht => ?_, fun t ht => ?_⟩ (fun r h10 ho => hR r (ZI_10 n32 ?_) ho) (by omega)
      · rw [ek, ← List.append_assoc]
        exact TP.2.1
      · have q := stp_k h.2.2.2.2.2.1 e13 KN t ht
        rw [qn, (TP.2.2 131 _ rfl).1]
        exact ⟨by omega, q.2⟩
      · rw [qn, (TP.2.2 131 _ rfl).1]
        rw [ek] at ht
        rcases List.mem_append.mp ht with q | q
        · have q2 := h.2.2.2.2.2.2 t q
          refine ⟨by omega, ?_⟩
          rw [(knm_b KN).2, (KN.2.2.2.1 (t : Int) (by omega) (by omega)).1]
          exact q2.2
        · rw [List.mem_singleton.mp q, show ((y.toInt.toNat : Nat) : Int) = y.toInt by omega]
          exact ⟨by omega, k23⟩
      · rcases ho with hf | ⟨s2, e2⟩
        · exact ZE_g hr rfl (ZE_b h10 hf)
        · rw [e2] at h10 ⊢
          exact ZE_g hr rfl (ZE_g h10 rfl (ZE_n _ _ _ _ _))
    · refine ⟨fun _ => Eq.mpr (q_Tx_program_70.eq_1 _ _ _ _ _ _) ⟨fun _ => ?_, fun z => absurd i_0 z⟩, fun z => absurd y1 z⟩
      cases m with
      | zero => omega
      | succ m =>
        rw [q_Tx_program_44.eq_2]
        exact ⟨fun _ => hb w1 r (hR r (ZI_10 n32 (ZE_b hr g)) (Or.inl g)) g e1, fun z => absurd i_0 z⟩
theorem n_44 {E : Int32 → MW → Prop} {Q : Int32 → MW → Prop} {w : MW} (h : E 0 w) (m : Nat) (hm : 0 < m) : q_Tx_program_44 E Q m 0 w := by
  cases m with
  | zero => omega
  | succ m =>
    rw [q_Tx_program_44.eq_2]
    exact ⟨fun _ => h, fun z => absurd i_0 z⟩
theorem n_p5 {E : Int32 → MW → Prop} {Q : Int32 → MW → Prop} {w : MW} (h : E 0 w) (m : Nat) (hm : 0 < m) : q_Tx_program_5 E Q m 0 w := by
  cases m with
  | zero => omega
  | succ m =>
    rw [q_Tx_program_5.eq_2]
    exact ⟨fun _ => h, fun z => absurd i_0 z⟩
/-- what is read before it is asked whether it is small -/
def PG1 (f : Int → Int) (n : Int) (r : Bool × Int) (z : ZS) (nm : List Nm) : Prop :=
  if (wrd f n 0).1 = 33 then r = (false, (wrd f n 0).2.1) else
  ∃ (k : Nat) (d : DQ), DP f n k (0, [], 0, []) d ∧ (if d.1 = true then
    ∃ y, ZI f n (lkn d.2.2.2.2.2) 0 10 0 (dbl d.2.2) y ∧ (if y.1 = true then r = (true, 0) ∧ z = y.2.2 ∧ nm = d.2.2.2.2.2 else r = (false, y.2.1))
    else r = (false, d.2.1))
theorem y_prog {w : MW} {f : Int → Int} {n : Int} {Q : Int32 → MW → Prop} (hB : YB w f n [] 0 0) (hp : (w.1 129 2).toInt = 0) (n0 : 0 ≤ n) (h13 : (w.1 129 13).toInt = 0) (h23 : (w.1 129 23).toInt = 0) (h38 : (w.1 129 38).toInt = 0) (hb : ∀ (w' : MW) (e : Int), PG1 f n (false, e) (0, [], 0, [], 0, 0, 0) [] → (w'.1 129 10).toInt = e → Q 0 w') (hg : ∀ (w' : MW) (z : ZS) (nm : List Nm) (ts : List Nat), PG1 f n (true, 0) z nm → (wrd f n z.1).1 = 32 → YE w' f n nm z ts → Q 1 w') : p_Tx_program w Q := by
  have fu : (1000 : Nat) < FU := fu_lt (by decide)
  have N0 : PNm w [] := ⟨by rw [h13]; rfl, fun i d h => (by cases h)⟩
  refine Eq.mpr (p_Tx_program.eq_1 _ _) (y_go0 hB hp n0 N0 (fun ok w1 F1 Y1 K1 => ?_) (fun bad w1 e1 => n_p5 (n_44 ⟨Or.inl i_0, hb w1 _ ?_ e1⟩ FU (by omega)) FU (by omega)))
  · have D1 : YD w1 f n (0, [], 0, []) [] := ⟨Y1, by rw [K1.2.2.2]; exact h38, Int.le_refl _, by show (0 : Int) ≤ ((0 : Nat) : Int); omega, ⟨by rw [K1.1.2.2.2.2.2.1, h23]; rfl, fun k c h => (by cases h)⟩, fun t h => (by cases h)⟩
    have B5 : ∀ r : DQ, (∃ k, DP f n k (0, [], 0, []) r) → r.1 = false → PG1 f n (false, r.2.1) (0, [], 0, [], 0, 0, 0) [] := fun r hr hf => by
      unfold PG1
      rw [if_neg ok]
      obtain ⟨k, hr⟩ := hr
      refine ⟨k, r, hr, ?_⟩
      rw [if_neg (by rw [hf]; decide)]
    refine yp_5 (s0 := (0, [], 0, [])) (w0 := w1) (fun w' r hr hf ew => n_44 ⟨Or.inl i_0, hb w' r.2.1 (B5 r hr hf) ew⟩ FU (by omega)) (fun w' s' ts' hr h' => ?_) FU w1 (0, [], 0, []) [] D1 (fun r hr => hr) (by show 41 - 0 < FU; omega)
    · obtain ⟨k, hr⟩ := hr
      have up : ∀ (r : Bool × Int) (z : ZS) (nm : List Nm) (y : ZR), ZI f n (lkn s'.2.2.2) 0 10 0 (dbl s') y → (if y.1 = true then r = (true, 0) ∧ z = y.2.2 ∧ nm = s'.2.2.2 else r = (false, y.2.1)) → PG1 f n r z nm := fun r z nm y a b => by
        unfold PG1
        rw [if_neg ok]
        refine ⟨k, dok s', hr, ?_⟩
        show (if true = true then _ else _)
        rw [if_pos rfl]
        exact ⟨y, a, b⟩
      refine yp_44 (nm := s'.2.2.2) (ts := ts') (R := fun y => ZI f n (lkn s'.2.2.2) 0 10 0 (dbl s') y) (fun w2 y hy hf ew => ⟨Or.inl i_0, hb w2 y.2.1 (up _ _ _ y hy (by rw [if_neg (by rw [hf]; decide)])) ew⟩) (fun w2 z hz k32 h2 => ⟨Or.inr i_1, hg w2 z s'.2.2.2 ts' (up _ _ _ (zok z) hz (by show (if true = true then _ else _); rw [if_pos rfl]; exact ⟨rfl, rfl, rfl⟩)) k32 h2⟩) FU w' (dbl s') ⟨h'.1, h'.2.1, h'.2.2.1, h'.2.2.2.1, ?_, h'.2.2.2.2.2, fun t h => (by cases h)⟩ (fun r hr _ => hr) (by omega)
      · show TpM w' (ts' ++ [])
        rw [List.append_nil]
        exact h'.2.2.2.2.1
  · unfold PG1
    rw [if_pos bad]
/-! programs: each kid stands before its node; what a do names -/
def DOk (lk : List Int → Int × Int × Int × Int) (i : Nat) (d : Nod) : Prop := d.1 = 23 → d.2.2.2 = [] ∧ (∃ (l : List Int) (u : Int), lk l = (d.2.1, 10, u, d.2.2.1) ∧ 0 ≤ d.2.1) ∧ 0 ≤ d.2.2.1 ∧ d.2.2.1 + 1 < (i : Int)
def NWf (lk : List Int → Int × Int × Int × Int) (ns : List Nod) : Prop := ∀ (i : Nat) (d : Nod), ns[i]? = some d → (∀ c ∈ d.2.2.2, c < i) ∧ DOk lk i d
/-- the steps that are known stand already -/
def LkB (lk : List Int → Int × Int × Int × Int) (ns : List Nod) : Prop := ∀ l : List Int, 0 ≤ (lk l).1 → (lk l).2.1 = 10 → 0 ≤ (lk l).2.2.2 ∧ (lk l).2.2.2 + 1 < (ns.length : Int)
def PRE (ns ms : List Nod) : Prop := ∃ t, ms = ns ++ t
theorem PRE.refl (ns : List Nod) : PRE ns ns := ⟨[], (List.append_nil ns).symm⟩
theorem PRE.tr {a b c : List Nod} (h : PRE a b) (h2 : PRE b c) : PRE a c := by
  obtain ⟨t, e⟩ := h
  obtain ⟨t2, e2⟩ := h2
  exact ⟨t ++ t2, by rw [e2, e, List.append_assoc]⟩
theorem PRE.one (ns : List Nod) (d : Nod) : PRE ns (ns ++ [d]) := ⟨[d], rfl⟩
theorem PRE.len {a b : List Nod} (h : PRE a b) : a.length ≤ b.length := by
  obtain ⟨t, e⟩ := h
  rw [e, List.length_append]
  omega
theorem PRE.get {a b : List Nod} (h : PRE a b) {i : Nat} {d : Nod} (hd : a[i]? = some d) : b[i]? = some d := by
  obtain ⟨t, e⟩ := h
  have l := (List.getElem?_eq_some_iff.mp hd).1
  rw [e, List.getElem?_append_left l]
  exact hd
theorem lkb_m {lk : List Int → Int × Int × Int × Int} {a b : List Nod} (h : LkB lk a) (hl : a.length ≤ b.length) : LkB lk b := fun l h0 h1 => by
  have t := h l h0 h1
  exact ⟨t.1, by omega⟩
theorem nwf_s {lk : List Int → Int × Int × Int × Int} {ns : List Nod} {d : Nod} (h : NWf lk ns) (hk : ∀ c ∈ d.2.2.2, c < ns.length) (hd : DOk lk ns.length d) : NWf lk (ns ++ [d]) := by
  intro i x hx
  rcases app_get hx with q | ⟨q, q2⟩
  · exact h i x q
  · rw [q, q2]
    exact ⟨hk, hd⟩
theorem xnd_wf {f : Int → Int} {n u p : Int} {lk : List Int → Int × Int × Int × Int} {ns : List Nod} {d : Nod} {r : XR} (e : r = xnd f n u p ns d) (g : r.1 = true) (h : NWf lk ns) (hk : ∀ c ∈ d.2.2.2, c < ns.length) (hd : ¬ d.1 = 23) : NWf lk r.2.2.2.2 ∧ PRE ns r.2.2.2.2 ∧ ns.length < r.2.2.2.2.length := by
  unfold xnd at e
  by_cases c : ns.length = 300
  · rw [if_pos c] at e
    rw [e] at g
    exact absurd (show false = true from g) (by decide)
  · rw [if_neg c] at e
    rw [e]
    refine ⟨nwf_s h hk (fun z => absurd z hd), PRE.one ns d, ?_⟩
    show ns.length < (ns ++ [d]).length
    rw [List.length_append, List.length_singleton]
    omega
theorem xgo_t {f : Int → Int} {n p : Int} {r : XR} {K : Prop} (h : xgo f n p r K) (g : r.1 = true) : K := by
  unfold xgo at h
  by_cases c : (wrd f n (wrd f n p).2.2.1).1 = 33
  · rw [if_pos c] at h
    rw [h] at g
    exact absurd (show false = true from g) (by decide)
  · rw [if_neg c] at h
    exact h
theorem xer_t {r : XR} {e : Int} (h : r = xer e) (g : r.1 = true) : False := by
  rw [h] at g
  exact absurd (show false = true from g) (by decide)
def XWf (lk : List Int → Int × Int × Int × Int) (X : XQ) : Prop := ∀ (m op : Nat) (u p : Int) (ns : List Nod) (r : XR), m ≤ 6 → X m op u p ns r → r.1 = true → NWf lk ns → (4 ≤ m → 0 < ns.length) → NWf lk r.2.2.2.2 ∧ PRE ns r.2.2.2.2 ∧ (m ≤ 3 → ns.length < r.2.2.2.2.length)
theorem XP_wf (f : Int → Int) (n : Int) (lk : List Int → Int × Int × Int × Int) : ∀ k, XWf lk (XP f n lk k) := by
  intro k
  induction k with
  | zero => exact fun _ _ _ _ _ _ _ h => False.elim h
  | succ k ih =>
    intro m op u p ns r m6 h g hN h4
    rw [XP_u] at h
    by_cases c : m = 3
    · rw [if_pos c] at h
      unfold xfa at h
      by_cases k31 : (wrd f n p).1 = 31
      · rw [if_pos k31] at h
        unfold xfn at h
        have h := xgo_t h g
        by_cases big : 999999999999 < (wrd f n p).2.2.2.2.1 * xmu (wrd f n (wrd f n p).2.2.1).1
        · rw [if_pos big] at h
          exact (xer_t h g).elim
        · rw [if_neg big] at h
          by_cases uu : 0 < xut (wrd f n (wrd f n p).2.2.1).1
          · rw [if_pos uu] at h
            have t := xnd_wf (xgo_t h g) g hN (fun c hc => (by cases hc)) (show ¬ (31 : Int) = 23 by decide)
            exact ⟨t.1, t.2.1, fun _ => t.2.2⟩
          · rw [if_neg uu] at h
            have t := xnd_wf h g hN (fun c hc => (by cases hc)) (show ¬ (31 : Int) = 23 by decide)
            exact ⟨t.1, t.2.1, fun _ => t.2.2⟩
      · rw [if_neg k31] at h
        by_cases k40 : (wrd f n p).1 = 40 ∨ (wrd f n p).1 = 45
        · rw [if_pos k40] at h
          unfold xfo at h
          by_cases o : 20 ≤ op
          · rw [if_pos o] at h
            exact (xer_t h g).elim
          · rw [if_neg o] at h
            have h := xgo_t h g
            by_cases k45 : (wrd f n p).1 = 45
            · rw [if_pos k45] at h
              obtain ⟨r1, a, b⟩ := h
              by_cases g1 : r1.1 = true
              · rw [if_pos g1] at b
                have t1 := ih 3 _ _ _ _ _ (by decide) a g1 hN (by omega)
                have l1 := t1.2.2 (by decide)
                have t := xnd_wf b g t1.1 (fun c hc => by rw [List.mem_singleton.mp hc]; omega) (show ¬ (34 : Int) = 23 by decide)
                exact ⟨t.1, t1.2.1.tr t.2.1, fun _ => by omega⟩
              · rw [if_neg g1] at b
                rw [b] at g
                exact absurd g g1
            · rw [if_neg k45] at h
              obtain ⟨r1, a, b⟩ := h
              by_cases g1 : r1.1 = true
              · rw [if_pos g1] at b
                have t1 := ih 1 _ _ _ _ _ (by decide) a g1 hN (by omega)
                by_cases k41 : (wrd f n r1.2.2.2.1).1 = 41
                · rw [if_pos k41] at b
                  rw [xgo_t b g]
                  exact ⟨t1.1, t1.2.1, fun _ => t1.2.2 (by decide)⟩
                · rw [if_neg k41] at b
                  exact (xer_t b g).elim
              · rw [if_neg g1] at b
                rw [b] at g
                exact absurd g g1
        · rw [if_neg k40] at h
          by_cases k30 : (wrd f n p).1 = 30 ∧ 0 ≤ (lk (wrd f n p).2.2.2.1).1 ∧ ¬ (lk (wrd f n p).2.2.2.1).2.1 = 10
          · rw [if_pos k30] at h
            have t := xnd_wf (xgo_t h g) g hN (fun c hc => (by cases hc)) (show ¬ (30 : Int) = 23 by decide)
            exact ⟨t.1, t.2.1, fun _ => t.2.2⟩
          · rw [if_neg k30] at h
            exact (xer_t h g).elim
    · rw [if_neg c] at h
      by_cases d : m < 3
      · rw [if_pos d] at h
        obtain ⟨r1, a, b⟩ := h
        by_cases g1 : r1.1 = true
        · rw [if_pos g1] at b
          have t1 := ih (m + 1) _ _ _ _ _ (by omega) a g1 hN (by omega)
          have l1 := t1.2.2 (by omega)
          have t2 := ih (m + 4) _ _ _ _ _ (by omega) b g t1.1 (fun _ => by omega)
          have l2 := t2.2.1.len
          exact ⟨t2.1, t1.2.1.tr t2.2.1, fun _ => by omega⟩
        · rw [if_neg g1] at b
          rw [b] at g
          exact absurd g g1
      · rw [if_neg d] at h
        have n0 := h4 (by omega)
        unfold xlo at h
        by_cases lv : lvo (wrd f n p).1 = m - 4
        · rw [if_pos lv] at h
          have h := xgo_t h g
          obtain ⟨r2, a, b⟩ := h
          by_cases g2 : r2.1 = true
          · rw [if_pos g2] at b
            have t2 := ih (m - 4 + 1) _ _ _ _ _ (by omega) a g2 hN (by omega)
            have l2 := t2.2.2 (by omega)
            by_cases x : xun (wrd f n p).1 u r2.2.2.1 < 0
            · rw [if_pos x] at b
              exact (xer_t b g).elim
            · rw [if_neg x] at b
              by_cases n3 : r2.2.2.2.2.length = 300
              · rw [if_pos n3] at b
                exact (xer_t b g).elim
              · rw [if_neg n3] at b
                have nk : ¬ (wrd f n p).1 = 23 := by
                  have := lvo_o lv (by omega)
                  omega
                have w2 : NWf lk (r2.2.2.2.2 ++ [((wrd f n p).1, 0, 0, [ns.length - 1, r2.2.2.2.2.length - 1])]) := nwf_s t2.1 (fun c hc => by
                  rcases List.mem_cons.mp hc with e | e
                  · rw [e]
                    omega
                  · rw [List.mem_singleton.mp e]
                    omega) (fun z => absurd z nk)
                have p2 := t2.2.1.tr (PRE.one r2.2.2.2.2 ((wrd f n p).1, 0, 0, [ns.length - 1, r2.2.2.2.2.length - 1]))
                by_cases z : m - 4 = 0
                · rw [if_pos z] at b
                  rw [b]
                  exact ⟨w2, p2, fun q => by omega⟩
                · rw [if_neg z] at b
                  have t3 := ih (m - 4 + 4) _ _ _ _ _ (by omega) b g w2 (fun _ => by rw [List.length_append, List.length_singleton]; omega)
                  exact ⟨t3.1, p2.tr t3.2.1, fun q => by omega⟩
          · rw [if_neg g2] at b
            rw [b] at g
            exact absurd g g2
        · rw [if_neg lv] at h
          by_cases z : m - 4 = 0
          · rw [if_pos z] at h
            exact (xer_t h g).elim
          · rw [if_neg z] at h
            rw [h]
            exact ⟨hN, PRE.refl ns, fun q => by omega⟩
def KLt (s : ZS) : Prop := ∀ c ∈ s.2.2.2.1, c < s.2.1.length
def ZWf (lk : List Int → Int × Int × Int × Int) (X : ZQ) : Prop := ∀ (op : Nat) (l : List (Int × Int)) (s : ZS) (r : ZR), X op l s r → r.1 = true → NWf lk s.2.1 → LkB lk s.2.1 → KLt s → NWf lk r.2.2.2.1 ∧ PRE s.2.1 r.2.2.2.1 ∧ KLt r.2.2
theorem zer_t {r : ZR} {e : Int} (h : r = zer e) (g : r.1 = true) : False := by
  rw [h] at g
  exact absurd (show false = true from g) (by decide)
theorem zgo_t {f : Int → Int} {n : Int} {s : ZS} {r : ZR} (h : r = zgo f n s) (g : r.1 = true) : r = zok ((wrd f n s.1).2.2.1, s.2) := by
  unfold zgo at h
  by_cases c : (wrd f n (wrd f n s.1).2.2.1).1 = 33
  · rw [if_pos c] at h
    exact (zer_t h g).elim
  · rw [if_neg c] at h
    exact h
theorem znd_wf {f : Int → Int} {n m : Int} {lk : List Int → Int × Int × Int × Int} {s t : ZS} {d : Nod} {r : ZR} (e : r = znd f n s t m d) (g : r.1 = true) (h : NWf lk t.2.1) (hp : PRE s.2.1 t.2.1) (hs : KLt s) (hk : ∀ c ∈ d.2.2.2, c < t.2.1.length) (hd : DOk lk t.2.1.length d) : NWf lk r.2.2.2.1 ∧ PRE s.2.1 r.2.2.2.1 ∧ KLt r.2.2 := by
  unfold znd at e
  by_cases c : t.2.1.length = 300
  · rw [if_pos c] at e
    exact (zer_t e g).elim
  · rw [if_neg c] at e
    rw [e]
    refine ⟨nwf_s h hk hd, hp.tr (PRE.one _ _), fun c hc => ?_⟩
    have hc' : c ∈ s.2.2.2.1 ++ [t.2.1.length] := hc
    show c < (t.2.1 ++ [d]).length
    rw [List.length_append, List.length_singleton]
    have l := hp.len
    rcases List.mem_append.mp hc' with q | q
    · have := hs c q
      omega
    · rw [List.mem_singleton.mp q]
      omega
/-- what a do names -/
theorem zz_do {f : Int → Int} {n : Int} {lk : List Int → Int × Int × Int × Int} {k op : Nat} {s : ZS} {r : ZR} (h : ZZ f n lk k op [(0, 23), (1, 10), (0, 59)] s r) (g : r.1 = true) : r.2.2.2.2.2.1 = s.2.2.2.1 ∧ ∃ (l : List Int) (u : Int), lk l = (r.2.2.2.2.2.2.1, 10, u, r.2.2.2.2.2.2.2.2) ∧ 0 ≤ r.2.2.2.2.2.2.1 := by
  cases k with
  | zero => exact False.elim h
  | succ k =>
    rw [ZZ_c] at h
    obtain ⟨r1, a1, b1⟩ := h
    by_cases g1 : r1.1 = true
    · rw [if_pos g1] at b1
      have a1' : r1 = ztk f n 23 s := a1
      unfold ztk at a1'
      by_cases c1 : (wrd f n s.1).1 = 23
      case neg =>
        rw [if_neg c1] at a1'
        exact (zer_t a1' g1).elim
      rw [if_pos c1] at a1'
      have e1 := zgo_t a1' g1
      cases k with
      | zero => exact False.elim b1
      | succ k =>
        rw [ZZ_c] at b1
        obtain ⟨r2, a2, b2⟩ := b1
        by_cases g2 : r2.1 = true
        · rw [if_pos g2] at b2
          have a2' : r2 = znm f n lk 10 r1.2.2 := a2
          unfold znm at a2'
          by_cases c : (wrd f n r1.2.2.1).1 = 30 ∧ 0 ≤ (lk (wrd f n r1.2.2.1).2.2.2.1).1 ∧ (lk (wrd f n r1.2.2.1).2.2.2.1).2.1 = 10
          · rw [if_pos c] at a2'
            have e2 := zgo_t a2' g2
            cases k with
            | zero => exact False.elim b2
            | succ k =>
              rw [ZZ_c] at b2
              obtain ⟨r3, a3, b3⟩ := b2
              by_cases g3 : r3.1 = true
              · rw [if_pos g3] at b3
                have a3' : r3 = ztk f n 59 r2.2.2 := a3
                unfold ztk at a3'
                by_cases c3 : (wrd f n r2.2.2.1).1 = 59
                · rw [if_pos c3] at a3'
                  have e3 := zgo_t a3' g3
                  cases k with
                  | zero => exact False.elim b3
                  | succ k =>
                    rw [ZZ_n] at b3
                    rw [b3, e3, e2]
                    refine ⟨by rw [e1]; rfl, (wrd f n r1.2.2.1).2.2.2.1, (lk (wrd f n r1.2.2.1).2.2.2.1).2.2.1, ?_, c.2.1⟩
                    show lk (wrd f n r1.2.2.1).2.2.2.1 = ((lk (wrd f n r1.2.2.1).2.2.2.1).1, 10, (lk (wrd f n r1.2.2.1).2.2.2.1).2.2.1, (lk (wrd f n r1.2.2.1).2.2.2.1).2.2.2)
                    rw [← c.2.2]
                · rw [if_neg c3] at a3'
                  exact (zer_t a3' g3).elim
              · rw [if_neg g3] at b3
                rw [b3] at g
                exact absurd g g3
          · rw [if_neg c] at a2'
            exact (zer_t a2' g2).elim
        · rw [if_neg g2] at b2
          rw [b2] at g
          exact absurd g g2
    · rw [if_neg g1] at b1
      rw [b1] at g
      exact absurd g g1
theorem zit_wf {f : Int → Int} {n : Int} {lk : List Int → Int × Int × Int × Int} {k op : Nat} {c a : Int} {s : ZS} {r : ZR} (hX : ZWf lk (ZZ f n lk k)) (h : zit f n lk (ZZ f n lk k) op c a s r) (g : r.1 = true) (hN : NWf lk s.2.1) (hL : LkB lk s.2.1) (hK : KLt s) : NWf lk r.2.2.2.1 ∧ PRE s.2.1 r.2.2.2.1 ∧ KLt r.2.2 := by
  have same : ∀ (s' : ZS), r = zok s' → s'.2.1 = s.2.1 → s'.2.2.2.1 = s.2.2.2.1 → NWf lk r.2.2.2.1 ∧ PRE s.2.1 r.2.2.2.1 ∧ KLt r.2.2 := fun s' e e1 e2 => by
    rw [e]
    show NWf lk s'.2.1 ∧ PRE s.2.1 s'.2.1 ∧ KLt s'
    unfold KLt
    rw [e1, e2]
    exact ⟨hN, PRE.refl _, hK⟩
  have sum : ∀ (m : Nat) (x : XR), m ≤ 1 → (∃ k, XP f n lk k m op 0 s.1 s.2.1 x) → x.1 = true → r = zok (x.2.2.2.1, x.2.2.2.2, s.2.2.1, s.2.2.2.1 ++ [x.2.2.2.2.length - 1], s.2.2.2.2) → NWf lk r.2.2.2.1 ∧ PRE s.2.1 r.2.2.2.1 ∧ KLt r.2.2 := fun m x hm hx gx e => by
    obtain ⟨kk, hx⟩ := hx
    have t := XP_wf f n lk kk m _ _ _ _ _ (by omega) hx gx hN (by omega)
    have l := t.2.2 (by omega)
    rw [e]
    refine ⟨t.1, t.2.1, fun c hc => ?_⟩
    have hc' : c ∈ s.2.2.2.1 ++ [x.2.2.2.2.length - 1] := hc
    show c < x.2.2.2.2.length
    rcases List.mem_append.mp hc' with q | q
    · have := hK c q
      omega
    · rw [List.mem_singleton.mp q]
      omega
  have k0 : KLt (zin s) := fun c hc => (by cases hc)
  unfold zit at h
  by_cases c0 : c = 0
  · rw [if_pos c0] at h
    unfold ztk at h
    by_cases q : (wrd f n s.1).1 = a
    · rw [if_pos q] at h
      exact same _ (zgo_t h g) rfl rfl
    · rw [if_neg q] at h
      exact (zer_t h g).elim
  rw [if_neg c0] at h
  by_cases c1 : c = 1
  · rw [if_pos c1] at h
    unfold znm at h
    by_cases q : (wrd f n s.1).1 = 30 ∧ 0 ≤ (lk (wrd f n s.1).2.2.2.1).1 ∧ (lk (wrd f n s.1).2.2.2.1).2.1 = a
    · rw [if_pos q] at h
      exact same _ (zgo_t h g) rfl rfl
    · rw [if_neg q] at h
      exact (zer_t h g).elim
  rw [if_neg c1] at h
  by_cases c2 : c = 2
  · rw [if_pos c2] at h
    obtain ⟨x, hx, b⟩ := h
    by_cases gx : x.1 = true
    · rw [if_pos gx] at b
      by_cases u : x.2.2.1 = (if a < 0 then s.2.2.2.2.2.1 else a)
      · rw [if_pos u] at b
        exact sum 1 x (by decide) hx gx b
      · rw [if_neg u] at b
        exact (zer_t b g).elim
    · rw [if_neg gx] at b
      exact (zer_t b g).elim
  rw [if_neg c2] at h
  by_cases c3 : c = 3
  · rw [if_pos c3] at h
    obtain ⟨x, hx, b⟩ := h
    by_cases gx : x.1 = true
    · rw [if_pos gx] at b
      exact sum 0 x (by decide) hx gx b
    · rw [if_neg gx] at b
      exact (zer_t b g).elim
  rw [if_neg c3] at h
  by_cases c4 : c = 4
  · rw [if_pos c4] at h
    unfold zbl at h
    by_cases q : (wrd f n s.1).1 = 123 ∧ op < 20
    · rw [if_pos q] at h
      obtain ⟨r1, x, b⟩ := h
      by_cases g1 : r1.1 = true
      · rw [if_pos g1] at b
        have t := hX _ _ _ _ x g1 hN hL k0
        exact znd_wf b g t.1 t.2.1 hK t.2.2 (fun z => absurd z (show ¬ (35 : Int) = 23 by decide))
      · rw [if_neg g1] at b
        rw [b] at g
        exact absurd g g1
    · rw [if_neg q] at h
      exact (zer_t h g).elim
  rw [if_neg c4] at h
  by_cases c5 : c = 5
  · rw [if_pos c5] at h
    unfold zac at h
    by_cases q : (wrd f n s.1).1 = 31 ∧ (wrd f n s.1).2.2.2.2.2 = false ∧ (wrd f n s.1).2.2.2.2.1 < 32000
    · rw [if_pos q] at h
      exact same _ (zgo_t h g) rfl rfl
    · rw [if_neg q] at h
      exact (zer_t h g).elim
  rw [if_neg c5] at h
  by_cases c6 : c = 6
  · rw [if_pos c6] at h
    by_cases q : (wrd f n s.1).1 = 18
    · rw [if_pos q] at h
      exact hX _ _ _ _ h g hN hL hK
    · rw [if_neg q] at h
      exact same s h rfl rfl
  rw [if_neg c6] at h
  by_cases c7 : c = 7
  · rw [if_pos c7] at h
    by_cases q : (wrd f n s.1).1 = 123
    · rw [if_pos q] at h
      exact hX _ _ _ _ h g hN hL hK
    · rw [if_neg q] at h
      exact same s h rfl rfl
  rw [if_neg c7] at h
  by_cases c8 : c = 8
  · rw [if_pos c8] at h
    by_cases q : (wrd f n s.1).1 = 125
    · rw [if_pos q] at h
      exact same s h rfl rfl
    · rw [if_neg q] at h
      exact hX _ _ _ _ h g hN hL hK
  rw [if_neg c8] at h
  by_cases c9 : c = 9
  · rw [if_pos c9] at h
    unfold zst at h
    by_cases q : isS (wrd f n s.1).1 = true
    · rw [if_pos q] at h
      obtain ⟨r1, x, b⟩ := h
      by_cases g1 : r1.1 = true
      · rw [if_pos g1] at b
        have t := hX _ _ _ _ x g1 hN hL k0
        refine znd_wf b g t.1 t.2.1 hK t.2.2 (fun z => ?_)
        have z' : (wrd f n s.1).1 = 23 := z
        rw [z'] at x
        have dd := zz_do x g1
        have q2 := dd.2
        obtain ⟨l, u, el, e0⟩ := q2
        have bb := hL l (by rw [el]; exact e0) (by rw [el])
        rw [el] at bb
        have ll := t.2.1.len
        have zl : (zin s).2.1.length = s.2.1.length := rfl
        exact ⟨dd.1, ⟨l, u, el, e0⟩, bb.1, Int.lt_of_lt_of_le bb.2 (by omega)⟩
      · rw [if_neg g1] at b
        rw [b] at g
        exact absurd g g1
    · rw [if_neg q] at h
      exact (zer_t h g).elim
  rw [if_neg c9] at h
  by_cases q : (wrd f n s.1).1 = 32
  · rw [if_pos q] at h
    exact same s h rfl rfl
  · rw [if_neg q] at h
    exact hX _ _ _ _ h g hN hL hK
theorem ZZ_wf (f : Int → Int) (n : Int) (lk : List Int → Int × Int × Int × Int) : ∀ k, ZWf lk (ZZ f n lk k) := by
  intro k
  induction k with
  | zero => exact fun _ _ _ _ h => False.elim h
  | succ k ih =>
    intro op l s r h g hN hL hK
    cases l with
    | nil =>
      rw [ZZ_n] at h
      rw [h]
      exact ⟨hN, PRE.refl _, hK⟩
    | cons i is =>
      rw [ZZ_c] at h
      obtain ⟨r1, a, b⟩ := h
      by_cases g1 : r1.1 = true
      · rw [if_pos g1] at b
        have t := zit_wf ih a g1 hN hL hK
        have t2 := ih _ _ _ _ b g t.1 (lkb_m hL t.2.1.len) t.2.2
        exact ⟨t2.1, t.2.1.tr t2.2.1, t2.2.2⟩
      · rw [if_neg g1] at b
        rw [b] at g
        exact absurd g g1
theorem ZI_wf {f : Int → Int} {n : Int} {lk : List Int → Int × Int × Int × Int} {op : Nat} {c a : Int} {s s' : ZS} (h : ZI f n lk op c a s (zok s')) (hN : NWf lk s.2.1) (hL : LkB lk s.2.1) (hK : KLt s) : NWf lk s'.2.1 ∧ PRE s.2.1 s'.2.1 ∧ KLt s' := by
  obtain ⟨k, h⟩ := h
  exact zit_wf (ZZ_wf f n lk k) h rfl hN hL hK
/-! the reference: whether a program is small, exactly -/
theorem own_w (k : Int) : own k = if wht k < 10 then 0 else if 23 < wht k then 0 else 1 := by
  have t : ∀ j : Nat, j < 63 → own (j : Int) = if wht (j : Int) < 10 then 0 else if 23 < wht (j : Int) then 0 else 1 := by decide +kernel
  by_cases c : 0 ≤ k ∧ k < 63
  · have := t k.toNat (by omega)
    rw [show ((k.toNat : Nat) : Int) = k by omega] at this
    exact this
  · have m : mng k = -1 := by
      unfold mng
      rw [if_neg (by omega), if_neg (by omega), if_neg (by omega), if_neg (by omega), if_neg (by omega), if_neg (by omega), if_neg (by omega), if_neg (by omega), if_neg (by omega), if_neg (by omega), if_neg (by omega), if_neg (by omega), if_neg (by omega), if_neg (by omega), if_neg (by omega), if_neg (by omega), if_neg (by omega), if_neg (by omega), if_neg (by omega), if_neg (by omega), if_neg (by omega), if_neg (by omega), if_neg (by omega), if_neg (by omega), if_neg (by omega), if_neg (by omega)]
    have w : wht k = -1 := by
      unfold wht
      rw [if_neg (by omega), if_neg (by omega), if_neg (by omega), if_neg (by omega), if_neg (by omega), if_neg (by omega), if_neg (by omega), if_neg (by omega), if_neg (by omega), if_neg (by omega), if_neg (by omega)]
      exact m
    rw [w, if_pos (by decide)]
    unfold own
    refine if_neg (fun z => ?_)
    rcases z with z | z
    · have := isS_t.mp z
      omega
    · omega
theorem wht_23 (k : Int) : (wht k = 19 ↔ k = 23) ∧ (wht k = 23 ↔ k = 35) ∧ (wht k = 24 ↔ k = 10) := by
  have t : ∀ j : Nat, j < 63 → (wht (j : Int) = 19 ↔ (j : Int) = 23) ∧ (wht (j : Int) = 23 ↔ (j : Int) = 35) ∧ (wht (j : Int) = 24 ↔ (j : Int) = 10) := by decide +kernel
  by_cases c : 0 ≤ k ∧ k < 63
  · have := t k.toNat (by omega)
    rw [show ((k.toNat : Nat) : Int) = k by omega] at this
    exact this
  · have m : mng k = -1 := by
      unfold mng
      rw [if_neg (by omega), if_neg (by omega), if_neg (by omega), if_neg (by omega), if_neg (by omega), if_neg (by omega), if_neg (by omega), if_neg (by omega), if_neg (by omega), if_neg (by omega), if_neg (by omega), if_neg (by omega), if_neg (by omega), if_neg (by omega), if_neg (by omega), if_neg (by omega), if_neg (by omega), if_neg (by omega), if_neg (by omega), if_neg (by omega), if_neg (by omega), if_neg (by omega), if_neg (by omega), if_neg (by omega), if_neg (by omega), if_neg (by omega)]
    have w : wht k = -1 := by
      unfold wht
      rw [if_neg (by omega), if_neg (by omega), if_neg (by omega), if_neg (by omega), if_neg (by omega), if_neg (by omega), if_neg (by omega), if_neg (by omega), if_neg (by omega), if_neg (by omega), if_neg (by omega)]
      exact m
    rw [w]
    omega
theorem smC_c (acc : List (Int × Int)) (a : Int) (k : Nat) (l : List Nat) : smC acc a (k :: l) = smC acc (a + gC acc k) l := rfl
theorem mxD_c (acc : List (Int × Int)) (a : Int) (k : Nat) (l : List Nat) : mxD acc a (k :: l) = mxD acc (if gD acc k ≤ a then a else gD acc k) l := rfl
/-- the kids of a node, counted -/
theorem xs_57 {v w0 : MW} {N x1 x3 : Int32} {kids : List Nat} {acc : List (Int × Int)} {A B : Int} {E : MW → Prop} {Q : Int32 → MW → Prop} (hI : BND v) (N0 : 0 ≤ N.toInt) (N1 : N.toInt < 300) (hc : (v.1 136 (nb v N.toInt)).toInt = (kids.length : Int)) (hl : (v.1 135 (nb v N.toInt)).toInt + (kids.length : Int) ≤ 300) (hk : ∀ (k c : Nat), kids[k]? = some c → (v.1 137 (nb v ((v.1 135 (nb v N.toInt)).toInt + (k : Int)))).toInt = (c : Int)) (lt : ∀ c ∈ kids, (c : Int) < N.toInt) (hF : FR lsm v w0) (I0 : BND w0) (hg : ∀ c : Nat, (c : Int) < N.toInt → (w0.1 145 c).toInt = gC acc c ∧ (w0.1 146 c).toInt = gD acc c) (hE : ∀ (a b : Int32) (w' : MW), WSm w0 N.toInt.toNat a b w' → a.toInt = A → b.toInt = B → 0 ≤ a.toInt → a.toInt ≤ 1 + 501 * 300 → 0 ≤ b.toInt → b.toInt ≤ 301 → E w') (m : Nat) : ∀ (j : Nat) (a b : Int32) (w : MW), WSm w0 N.toInt.toNat a b w → j ≤ kids.length → smC acc a.toInt (kids.drop j) = A → mxD acc b.toInt (kids.drop j) = B → 0 ≤ a.toInt → a.toInt ≤ 1 + 501 * (j : Int) → 0 ≤ b.toInt → b.toInt ≤ 301 → kids.length - j < m → q_Tx_isSmall_57 x1 N x3 E Q m (nI j) w := by
  induction m with
  | zero => intros; omega
  | succ m ih =>
    intro j a b w hW hj hA hB a0 a1 b0 b1 hm
    have hG : FR lsm v w := hF.tr hW.fr rfl
    have bh := bhf_b hI
    have b135 := bd_135 hI (nb v N.toInt)
    have e := bb_ix (n := N) hI N0 (by omega)
    have en : (((300 : Int32) * ((1 : Int32) - (v.1 129 12))) + N).toInt.toNat = nb v N.toInt := by rw [e]; rfl
    have e12 : w.1 129 12 = v.1 129 12 := (hG 129 12 rfl).1
    have e135 : ∀ j, w.1 135 j = v.1 135 j := fun j => (hG 135 j rfl).1
    have e136 : ∀ j, w.1 136 j = v.1 136 j := fun j => (hG 136 j rfl).1
    have e137 : ∀ j, w.1 137 j = v.1 137 j := fun j => (hG 137 j rfl).1
    have tj : (nI j).toInt = (j : Int) := nI_toInt (by omega)
    rw [q_Tx_isSmall_57.eq_2]
    refine Eq.mpr (p_Tx_base.eq_1 _ _) ?_
    rw [e12, e136, en, hc]
    refine ⟨⟨by omega, by omega⟩, fun c => ?_, fun c => Eq.mpr (p_Tx_base.eq_1 _ _) (Eq.mpr (p_Tx_base.eq_1 _ _) ?_)⟩
    · have ej : kids.drop j = [] := List.drop_eq_nil_iff.mpr (by omega)
      rw [ej] at hA hB
      exact hE a b w hW hA hB a0 (by omega) b0 b1
    · rw [e12, e135, e137]
      have jl : j < kids.length := by omega
      have ed : kids.drop j = kids[j] :: kids.drop (j + 1) := List.drop_eq_getElem_cons jl
      have kx := kd_ix (n := N) (k := nI j) hI N0 N1 (by omega) (by omega)
      have g := hk j _ (List.getElem?_eq_getElem jl)
      have lj := lt _ (List.getElem_mem jl)
      have kk : (v.1 137 ((((300 : Int32) * ((1 : Int32) - (v.1 129 12))) + (v.1 135 ((((300 : Int32) * ((1 : Int32) - (v.1 129 12))) + N).toInt.toNat))) + (nI j)).toInt.toNat).toInt = (kids[j] : Int) := by
        have kn : ((((300 : Int32) * ((1 : Int32) - (v.1 129 12))) + (v.1 135 ((((300 : Int32) * ((1 : Int32) - (v.1 129 12))) + N).toInt.toNat))) + (nI j)).toInt.toNat = nb v ((v.1 135 (nb v N.toInt)).toInt + (j : Int)) := by
          rw [kx, tj, Int.add_assoc]
          rfl
        rw [kn]
        exact g
      have s1' := nI_1 j
      have o1 : ∀ i : Nat, i ≠ N.toInt.toNat → w.1 145 i = w0.1 145 i ∧ w.1 146 i = w0.1 146 i := fun i hi => ⟨hW.1 145 i (fun q => hi q.2) (fun q => absurd q.1 (by decide)), hW.1 146 i (fun q => absurd q.1 (by decide)) (fun q => hi q.2)⟩
      rw [kk]
      have kz := o1 (kids[j] : Int).toNat (by omega)
      have gz := hg kids[j] lj
      have tn : ((kids[j] : Nat) : Int).toNat = kids[j] := by omega
      have cz := bd_145 I0 (kids[j] : Int).toNat
      have cz6 := bd_146 I0 (kids[j] : Int).toNat
      rw [hW.2.2.1, hW.2.2.2, kz.1, kz.2, tn]
      rw [tn] at cz cz6
      have sa := ti_add2 (Eq.refl a.toInt) (Eq.refl (w0.1 145 kids[j]).toInt) (by omega) (by omega)
      rw [ed, smC_c] at hA
      rw [ed, mxD_c] at hB
      rw [s1']
      refine ⟨⟨by omega, by omega⟩, ⟨by omega, by omega⟩, ⟨by omega, by omega⟩, ⟨by omega, by omega⟩, ⟨by omega, by omega⟩, ⟨by omega, by omega⟩, ⟨by omega, by omega⟩, fun le => ⟨⟨by omega, by omega⟩, ⟨by omega, by omega⟩, ih (j + 1) _ _ _ hW.set jl (by rw [sa, gz.1]; exact hA) (by rw [if_pos (by omega)] at hB; exact hB) (by omega) (by omega) b0 b1 (by omega)⟩, fun gt => ⟨⟨by omega, by omega⟩, ⟨by omega, by omega⟩, ih (j + 1) _ _ _ hW.set jl (by rw [sa, gz.1]; exact hA) (by rw [if_neg (by omega)] at hB; rw [gz.2]; exact hB) (by omega) (by omega) (by omega) (by omega) (by omega)⟩⟩
theorem xs_281 {w0 w : MW} {N x1 a b y d : Int32} {A : Int32 → MW → Prop} {E : MW → Prop} {Q : Int32 → MW → Prop} (hW : WSm w0 N.toInt.toNat a b w) (N0 : 0 ≤ N.toInt) (N1 : N.toInt < 300) (a0 : 0 ≤ a.toInt) (hA : ∀ (a' : Int32) (w' : MW), WSm w0 N.toInt.toNat a' (d + y) w' → a'.toInt = cap a.toInt → A (N + (1 : Int32)) w') : q_Tx_isSmall_281 x1 N y d N w A E Q := by
  refine Eq.mpr (q_Tx_isSmall_281.eq_1 _ _ _ _ _ _ _ _ _) ⟨⟨N0, N1⟩, ⟨N0, N1⟩, fun c => ⟨⟨N0, N1⟩, ⟨N0, N1⟩, ?_⟩, fun c => ⟨⟨N0, N1⟩, ?_⟩⟩
  · rw [hW.2.2.1] at c ⊢
    exact hA a _ hW.set2 (by unfold cap; rw [if_pos c])
  · rw [hW.2.2.1] at c
    exact hA 501 _ hW.set2 (by unfold cap; rw [if_neg c]; decide)
theorem csl_p : ∀ (ns : List Nod) (acc : List (Int × Int)), ∃ t, csl ns acc = acc ++ t := by
  intro ns
  induction ns with
  | nil => exact fun acc => ⟨[], (List.append_nil acc).symm⟩
  | cons d ns ih =>
    intro acc
    obtain ⟨t, e⟩ := ih (acc ++ [cs1 acc d])
    exact ⟨cs1 acc d :: t, by rw [show csl (d :: ns) acc = csl ns (acc ++ [cs1 acc d]) from rfl, e, List.append_assoc]; rfl⟩
theorem gC_a {acc t : List (Int × Int)} {i : Nat} (h : i < acc.length) : gC (acc ++ t) i = gC acc i ∧ gD (acc ++ t) i = gD acc i := by
  unfold gC gD
  rw [List.getD_eq_getElem?_getD, List.getD_eq_getElem?_getD, List.getElem?_append_left h]
  exact ⟨rfl, rfl⟩
theorem smC_g {acc acc' : List (Int × Int)} : ∀ (l : List Nat) (a : Int), (∀ c ∈ l, gC acc' c = gC acc c) → smC acc' a l = smC acc a l := by
  intro l
  induction l with
  | nil => exact fun _ _ => rfl
  | cons k l ih =>
    intro a h
    rw [smC_c, smC_c, h k List.mem_cons_self]
    exact ih _ (fun c hc => h c (List.mem_cons_of_mem _ hc))
theorem mxD_g {acc acc' : List (Int × Int)} : ∀ (l : List Nat) (a : Int), (∀ c ∈ l, gD acc' c = gD acc c) → mxD acc' a l = mxD acc a l := by
  intro l
  induction l with
  | nil => exact fun _ _ => rfl
  | cons k l ih =>
    intro a h
    rw [mxD_c, mxD_c, h k List.mem_cons_self]
    exact ih _ (fun c hc => h c (List.mem_cons_of_mem _ hc))
/-- the cost and depth of node N -/
theorem cs_at {ns : List Nod} {N : Nat} {d : Nod} (h : ns[N]? = some d) (hk : ∀ c ∈ d.2.2.2, c < N) (hd : d.1 = 23 → d.2.2.1.toNat < N) : gC (csl ns []) N = (cs1 (csl ns []) d).1 ∧ gD (csl ns []) N = (cs1 (csl ns []) d).2 := by
  have l := (List.getElem?_eq_some_iff.mp h)
  have e : ns = ns.take N ++ (d :: ns.drop (N + 1)) := by
    have t := (List.take_append_drop N ns).symm
    rw [List.drop_eq_getElem_cons l.1, l.2] at t
    exact t
  have e2 : csl ns [] = csl (ns.drop (N + 1)) (csl (ns.take N) [] ++ [cs1 (csl (ns.take N) []) d]) := by
    rw [e, csl_a]
    have t1 : (ns.take N ++ (d :: ns.drop (N + 1))).take N = ns.take N := by rw [← e]
    have t2 : (ns.take N ++ (d :: ns.drop (N + 1))).drop (N + 1) = ns.drop (N + 1) := by rw [← e]
    rw [t1, t2]
    rfl
  obtain ⟨t, e3⟩ := csl_p (ns.drop (N + 1)) (csl (ns.take N) [] ++ [cs1 (csl (ns.take N) []) d])
  have nlt := (List.getElem?_eq_some_iff.mp h).1
  have len : (csl (ns.take N) []).length = N := by
    rw [csl_l, List.length_take]
    show 0 + _ = N
    omega
  have low : ∀ c : Nat, c < N → gC (csl ns []) c = gC (csl (ns.take N) []) c ∧ gD (csl ns []) c = gD (csl (ns.take N) []) c := fun c hc => by
    rw [e2, e3, List.append_assoc]
    exact gC_a (by omega)
  have eq : cs1 (csl ns []) d = cs1 (csl (ns.take N) []) d := by
    unfold cs1
    by_cases q : d.1 = 23
    · rw [if_pos q, if_pos q, (low _ (hd q)).1, (low _ (hd q)).2]
    · rw [if_neg q, if_neg q, smC_g _ _ (fun c hc => (low c (hk c hc)).1), mxD_g _ _ (fun c hc => (low c (hk c hc)).2)]
  have at' : (csl ns [])[N]? = some (cs1 (csl (ns.take N) []) d) := by
    rw [e2, e3, List.append_assoc, List.getElem?_append_right (by omega), len, Nat.sub_self]
    rfl
  rw [eq]
  unfold gC gD
  rw [List.getD_eq_getElem?_getD, at']
  exact ⟨rfl, rfl⟩
/-- the nodes below x are counted -/
def XSm (v : MW) (acc : List (Int × Int)) (x : Int) (w : MW) : Prop := BND w ∧ FR lsm v w ∧ ∀ c : Nat, (c : Int) < x → (w.1 145 c).toInt = gC acc c ∧ (w.1 146 c).toInt = gD acc c
/-- what the reference has of a do -/
def DOf (v : MW) (N : Int) (d : Nod) : Prop := (0 ≤ numB v N ∧ numB v N < 40) ∧ (0 ≤ stB v (numB v N) ∧ stB v (numB v N) < N) ∧ (v.1 135 (nb v (stB v (numB v N)))).toInt < 300 ∧ kidB v (stB v (numB v N)) 0 = d.2.2.1 ∧ 0 ≤ d.2.2.1 ∧ d.2.2.1 < N
theorem xs_step {v w w' : MW} {acc : List (Int × Int)} {N a b : Int32} (h : XSm v acc N.toInt w) (N0 : 0 ≤ N.toInt) (N1 : N.toInt < 300) (hW : WSm w N.toInt.toNat a b w') (ha : a.toInt = gC acc N.toInt.toNat) (hb : b.toInt = gD acc N.toInt.toNat) (a0 : 0 ≤ a.toInt) (a1 : a.toInt ≤ 501) (b0 : 0 ≤ b.toInt) (b1 : b.toInt ≤ 301) : XSm v acc (N.toInt + 1) w' := by
  refine ⟨hW.bnd h.1 a0 a1 b0 b1, h.2.1.tr hW.fr rfl, fun c hc => ?_⟩
  by_cases q : c = N.toInt.toNat
  · rw [q, hW.2.2.1, hW.2.2.2]
    exact ⟨ha, hb⟩
  · rw [hW.1 145 c (fun z => q z.2) (fun z => absurd z.1 (by decide)), hW.1 146 c (fun z => absurd z.1 (by decide)) (fun z => q z.2)]
    exact h.2.2 c (by omega)
theorem cap_b {a : Int} (h : 0 ≤ a) : 0 ≤ cap a ∧ cap a ≤ 501 := by
  unfold cap
  by_cases c : a ≤ 500
  · rw [if_pos c]
    omega
  · rw [if_neg c]
    omega
theorem xs_46 {v w : MW} {acc : List (Int × Int)} {N x1 K c0 : Int32} {d : Nod} {A : Int32 → MW → Prop} {E : MW → Prop} {Q : Int32 → MW → Prop} (hI : BND v) (hJ : XSm v acc N.toInt w) (N0 : 0 ≤ N.toInt) (N3 : N.toInt < 300) (P : PNd v N.toInt d) (h21 : (v.1 129 21).toInt ≤ 300) (lt : ∀ c ∈ d.2.2.2, (c : Int) < N.toInt) (hD : d.1 = 23 → d.2.2.2 = [] ∧ DOf v N.toInt d) (hat : gC acc N.toInt.toNat = (cs1 acc d).1 ∧ gD acc N.toInt.toNat = (cs1 acc d).2) (gb : ∀ c : Nat, (c : Int) < N.toInt → gD acc c ≤ (c : Int) + 1) (gN : gD acc N.toInt.toNat ≤ N.toInt + 1) (hK : K.toInt = wht d.1) (hc : c0.toInt = own d.1) (hA : ∀ w', XSm v acc (N.toInt + 1) w' → A (N + (1 : Int32)) w') : q_Tx_isSmall_46 x1 N K c0 N w A E Q := by
  have wk := wht_23 d.1
  have c01 : 0 ≤ c0.toInt ∧ c0.toInt ≤ 1 := by
    rw [hc]
    unfold own
    by_cases q : isS d.1 = true ∨ d.1 = 35
    · rw [if_pos q]
      decide
    · rw [if_neg q]
      decide
  have bh := bhf_b hI
  refine Eq.mpr (q_Tx_isSmall_46.eq_1 _ _ _ _ _ _ _ _ _) ⟨⟨N0, N3⟩, ⟨N0, N3⟩, xs_57 (acc := acc) (kids := d.2.2.2) (A := smC acc (own d.1) d.2.2.2) (B := mxD acc 0 d.2.2.2) hI N0 N3 P.2.2.2.1 (by have := P.2.2.2.2.1; omega) P.2.2.2.2.2 lt hJ.2.1 hJ.1 hJ.2.2 (fun a b w24 hW ha hb a0 a1 b0 b1 => ?_) FU 0 c0 0 _ (WSm.refl w _).set (Nat.zero_le _) (by rw [hc]; rfl) (by rw [i_0]; rfl) c01.1 (by omega) (by decide) (by decide) (Nat.lt_of_le_of_lt (show _ ≤ 300 by have := P.2.2.2.1; have := bd_136 hI (nb v N.toInt); omega) (fu_lt (by decide)))⟩
  by_cases k19 : d.1 = 23
  · have D0 := hD k19
    have D := D0.2
    have a1' : a.toInt = 1 := by
      rw [ha, D0.1, k19]
      show own 23 = 1
      decide
    have cs : cs1 acc d = (cap (1 + gC acc d.2.2.1.toNat), gD acc d.2.2.1.toNat) := by
      unfold cs1
      rw [if_pos k19]
    rw [cs] at hat
    refine ⟨fun z => absurd (by rw [hK]; exact wk.1.mpr k19) z, fun _ => ?_⟩
    have hG : FR lsm v w24 := hJ.2.1.tr hW.fr rfl
    have e := bb_ix (n := N) hI N0 (by omega)
    have en : (((300 : Int32) * ((1 : Int32) - (v.1 129 12))) + N).toInt.toNat = nb v N.toInt := by rw [e]; rfl
    have e12 : w24.1 129 12 = v.1 129 12 := (hG 129 12 rfl).1
    have e132 : ∀ j, w24.2.1 132 j = v.2.1 132 j := fun j => (hG 132 j rfl).2.1
    have e135 : ∀ j, w24.1 135 j = v.1 135 j := fun j => (hG 135 j rfl).1
    have e137 : ∀ j, w24.1 137 j = v.1 137 j := fun j => (hG 137 j rfl).1
    have e143 : ∀ j, w24.1 143 j = v.1 143 j := fun j => (hG 143 j rfl).1
    have n12 : ∀ x, (sI w24 145 N.toInt.toNat x).1 129 12 = w24.1 129 12 := fun x => rfl
    have n135 : ∀ x j, (sI w24 145 N.toInt.toNat x).1 135 j = w24.1 135 j := fun x j => rfl
    have n137 : ∀ x j, (sI w24 145 N.toInt.toNat x).1 137 j = w24.1 137 j := fun x j => rfl
    have i0 := cc_ix (n := Int64.toInt32 (v.2.1 132 (nb v N.toInt))) hI D.1.1 (by have := D.1.2; unfold numB at this; omega)
    have hnum : numB v N.toInt = (Int64.toInt32 (v.2.1 132 (nb v N.toInt))).toInt := rfl
    simp only [p_Tx_base.eq_1]
    simp only [n12, n135, n137, e12, e132, e135, e137, e143, en]
    generalize hIX : ((((40 : Int32) * ((1 : Int32) - (v.1 129 12))) + (Int64.toInt32 (v.2.1 132 (nb v N.toInt)))).toInt) = IX at *
    have hst : (v.1 143 IX.toNat).toInt = stB v (numB v N.toInt) := by rw [i0]; rfl
    have b143 := bd_143 hI IX.toNat
    generalize (v.1 143 IX.toNat) = st at *
    have iI : IX = 40 * bhf v + numB v N.toInt := by first | exact i0 | (rw [← hIX]; exact i0)
    have Dn := D.1
    have D1 := D.2.1
    have D2 := D.2.2.1
    have D4 := D.2.2.2.2
    have is := bb_ix (n := st) hI (by omega) (by omega)
    have isn : (((300 : Int32) * ((1 : Int32) - (v.1 129 12))) + st).toInt.toNat = nb v (stB v (numB v N.toInt)) := by rw [is, hst]; rfl
    simp only [isn]
    have b135 := bd_135 hI (nb v (stB v (numB v N.toInt)))
    have ik := bb_ix (n := v.1 135 (nb v (stB v (numB v N.toInt)))) hI b135.1 (by omega)
    have hkd : (v.1 137 ((((300 : Int32) * ((1 : Int32) - (v.1 129 12))) + (v.1 135 (nb v (stB v (numB v N.toInt))))).toInt.toNat)).toInt = d.2.2.1 := by
      rw [← D.2.2.2.1, ik]
      unfold kidB
      rw [Int.add_zero]
    simp only [hkd]
    have o1 : ∀ j : Nat, j ≠ N.toInt.toNat → w24.1 145 j = w.1 145 j ∧ w24.1 146 j = w.1 146 j := fun j hj => ⟨hW.1 145 j (fun q => hj q.2) (fun q => absurd q.1 (by decide)), hW.1 146 j (fun q => absurd q.1 (by decide)) (fun q => hj q.2)⟩
    have db := D.2.2.2.2
    have kz := o1 d.2.2.1.toNat (by omega)
    have gz := hJ.2.2 d.2.2.1.toNat (by omega)
    have cz := bd_145 hJ.1 d.2.2.1.toNat
    have cz6 := bd_146 hJ.1 d.2.2.1.toNat
    have sa := ti_add2 a1' (Eq.refl (w.1 145 d.2.2.1.toNat).toInt) (by omega) (by omega)
    have G : ∀ (d' : Int32) (w3 : MW), d' = (w.1 146 d.2.2.1.toNat) → WSm w N.toInt.toNat (a + (w.1 145 d.2.2.1.toNat)) d' w3 → q_Tx_isSmall_281 x1 N 0 d' N w3 A E Q := fun d' w3 hd h3 => xs_281 h3 N0 N3 (by omega) (fun a' w' hW' ha' => hA w' (by
      have cb := cap_b (a := (a + (w.1 145 d.2.2.1.toNat)).toInt) (by omega)
      have hd' : d'.toInt = (w.1 146 d.2.2.1.toNat).toInt := by rw [hd]
      have sd := ti_add2 (Eq.refl d'.toInt) i_0 (by omega) (by omega)
      refine xs_step hJ N0 N3 hW' ?_ ?_ (by omega) (by omega) (by rw [sd, hd]; omega) (by rw [sd, hd]; omega)
      · rw [ha', hat.1, sa, gz.1]
      · rw [hat.2, sd, hd, gz.2]
        show gD acc d.2.2.1.toNat + 0 = gD acc d.2.2.1.toNat
        omega))
    have R1 : ∀ x, (sI w24 145 N.toInt.toNat x).1 146 d.2.2.1.toNat = (w.1 146 d.2.2.1.toNat) := fun x => kz.2
    simp only [R1, sI_same, hW.2.2.1, kz.1]
    have WF := (hW.a (a' := a + (w.1 145 d.2.2.1.toNat))).b (b' := w.1 146 d.2.2.1.toNat)
    refine ⟨⟨by omega, by omega⟩, ⟨by omega, by omega⟩, ⟨N0, N3⟩, ⟨by omega, by omega⟩, ⟨by omega, by omega⟩, ⟨by omega, by omega⟩, ⟨N0, N3⟩, ⟨by omega, by omega⟩, ⟨by omega, by omega⟩, ⟨by omega, by omega⟩, ⟨N0, N3⟩, ⟨N0, N3⟩, fun _ => G _ _ rfl WF, fun z => ?_⟩
    have z' := wk.2.1.mp (by rw [← hK]; exact Classical.not_not.mp z)
    omega
  · have cs : cs1 acc d = (cap (smC acc (own d.1) d.2.2.2), mxD acc 0 d.2.2.2 + (if d.1 = 35 then 1 else 0)) := by
      unfold cs1
      rw [if_neg k19]
    rw [cs] at hat
    have F : ∀ (y dd : Int32), dd = b → y.toInt = (if d.1 = 35 then 1 else 0) → q_Tx_isSmall_281 x1 N y dd N w24 A E Q := fun y dd edd ey => xs_281 hW N0 N3 a0 (fun a' w' hW' ha' => hA w' (by
      have cb := cap_b a0
      have yb : 0 ≤ y.toInt ∧ y.toInt ≤ 1 := by
        rw [ey]
        by_cases q : d.1 = 35
        · rw [if_pos q]
          decide
        · rw [if_neg q]
          decide
      have sd := ti_add2 (Eq.refl b.toInt) (Eq.refl y.toInt) (by omega) (by omega)
      rw [edd] at hW'
      have e2 : gD acc N.toInt.toNat = b.toInt + y.toInt := by rw [hat.2, hb, ey]
      refine xs_step hJ N0 N3 hW' ?_ ?_ (by omega) (by omega) (by omega) (by omega)
      · rw [ha', hat.1, ha]
      · rw [sd, e2]))
    refine ⟨fun _ => ⟨⟨N0, N3⟩, fun z => F 0 _ hW.2.2.2 ?_, fun z => F 1 _ hW.2.2.2 ?_⟩, fun z => absurd (wk.1.mp (by rw [← hK]; exact Classical.not_not.mp z)) k19⟩
    · rw [if_neg (fun q => z (by rw [hK]; exact wk.2.1.mpr q))]
      decide
    · rw [if_pos (wk.2.1.mp (by rw [← hK]; exact Classical.not_not.mp z))]
      decide
/-! the reference: isSmall and read, exactly -/
theorem mxD_b {acc : List (Int × Int)} {B : Int} : ∀ (l : List Nat) (a : Int), 0 ≤ a → a ≤ B → (∀ c ∈ l, gD acc c ≤ B) → 0 ≤ mxD acc a l ∧ mxD acc a l ≤ B := by
  intro l
  induction l with
  | nil => exact fun a a0 aB _ => ⟨a0, aB⟩
  | cons k l ih =>
    intro a a0 aB h
    rw [mxD_c]
    have hk := h k List.mem_cons_self
    by_cases c : gD acc k ≤ a
    · rw [if_pos c]
      exact ih a a0 aB (fun c hc => h c (List.mem_cons_of_mem _ hc))
    · rw [if_neg c]
      exact ih _ (by omega) hk (fun c hc => h c (List.mem_cons_of_mem _ hc))
theorem gD_b {lk : List Int → Int × Int × Int × Int} {ns : List Nod} (h : NWf lk ns) : ∀ N : Nat, N < ns.length → 0 ≤ gD (csl ns []) N ∧ gD (csl ns []) N ≤ (N : Int) + 1 := by
  intro N
  induction N using Nat.strongRecOn with
  | ind N ih =>
    intro hN
    obtain ⟨d, hd⟩ : ∃ d, ns[N]? = some d := ⟨_, List.getElem?_eq_getElem hN⟩
    have w := h N d hd
    have db : d.1 = 23 → d.2.2.1.toNat < N := fun q => by
      have := (w.2 q).2.2
      omega
    rw [(cs_at hd w.1 db).2]
    unfold cs1
    by_cases q : d.1 = 23
    · rw [if_pos q]
      have t := ih _ (db q) (by have := db q; omega)
      have b := (w.2 q).2.2
      show 0 ≤ gD (csl ns []) d.2.2.1.toNat ∧ gD (csl ns []) d.2.2.1.toNat ≤ (N : Int) + 1
      omega
    · rw [if_neg q]
      show 0 ≤ mxD (csl ns []) 0 d.2.2.2 + _ ∧ mxD (csl ns []) 0 d.2.2.2 + _ ≤ (N : Int) + 1
      have t := mxD_b (acc := csl ns []) (B := (N : Int)) d.2.2.2 0 (Int.le_refl _) (by omega) (fun c hc => by
        have lc := w.1 c hc
        have := (ih c lc (by omega)).2
        omega)
      by_cases e : d.1 = 35
      · rw [if_pos e]
        omega
      · rw [if_neg e]
        omega
/-- the steps that are told, in the nodes -/
def WNm (ns : List Nod) (nm : List Nm) : Prop := ∀ (i : Nat) (x : Nm), nm[i]? = some x → 0 ≤ x.2.2.2 → ns[(x.2.2.2 + 1).toNat]? = some (10, 0, 0, [x.2.2.2.toNat])
theorem lkn_x {nm : List Nm} {l : List Int} {j u b : Int} (h : lkn nm l = (j, 10, u, b)) (j0 : 0 ≤ j) : ∃ (i : Nat) (x : Nm), nm[i]? = some x ∧ j = (i : Int) ∧ x.2.1 = 10 ∧ x.2.2.2 = b ∧ 0 ≤ b := by
  unfold lkn at h
  by_cases c : (lki l nm 0).2.1 = 10 ∧ (lki l nm 0).2.2.2 < 0
  · rw [if_pos c] at h
    have t : (-1 : Int) = j := congrArg Prod.fst h
    omega
  · rw [if_neg c] at h
    rcases lki_b l nm 0 with ⟨a, b', _⟩ | ⟨i, x, a, b', d⟩
    · rw [h] at a
      have t : j = -1 := a
      omega
    · rw [d] at h c
      have t1 : 0 + (i : Int) = j := congrArg Prod.fst h
      have t2 : x.2.1 = 10 := congrArg (fun r : Int × Int × Int × Int => r.2.1) h
      have t3 : x.2.2.2 = b := congrArg (fun r : Int × Int × Int × Int => r.2.2.2) h
      have c' : ¬ (x.2.1 = 10 ∧ x.2.2.2 < 0) := c
      exact ⟨i, x, a, by omega, t2, t3, by
        by_cases q : b < 0
        · exact absurd ⟨t2, by omega⟩ c'
        · omega⟩
theorem y_dof {v : MW} {ns : List Nod} {nm : List Nm} {N : Nat} {d : Nod} (hI : BND v) (PN : PNm v ns) (NN : NmM v nm) (W : WNm ns nm) (hW : NWf (lkn nm) ns) (hd : ns[N]? = some d) (q : d.1 = 23) : DOf v (N : Int) d := by
  have t := (hW N d hd).2 q
  obtain ⟨l, u, el, e0⟩ := t.2.1
  have b := t.2.2
  obtain ⟨i, x, hx, ei, x10, xb, _⟩ := lkn_x el e0
  have il := (List.getElem?_eq_some_iff.mp hx).1
  have n4 := NN.2.1
  have P := PN.2 N d hd
  have num := P.2.2.1 (by omega) (by omega)
  have nl : N < ns.length := (List.getElem?_eq_some_iff.mp hd).1
  have b13 := bd_129_13 hI
  have e13 := PN.1
  have en : numB v (N : Int) = d.2.1 := by
    unfold numB
    rw [nb_l2i (by rw [num]; omega) (by rw [num]; omega)]
    exact num
  have st : stB v d.2.1 = d.2.2.1 + 1 := by
    have g := (NN.2.2 i x hx).2.2.2.2.2.1
    unfold stB
    rw [ei, g, xb, if_neg (by omega)]
  have hs := W i x hx (by omega)
  rw [xb] at hs
  have S := PN.2 _ _ hs
  have s1 : (((d.2.2.1 + 1).toNat : Nat) : Int) = d.2.2.1 + 1 := by omega
  rw [s1] at S
  have b21 := bd_129_21 hI
  have kid := S.2.2.2.2.2 0 d.2.2.1.toNat rfl
  have cn : (v.1 135 (nb v (d.2.2.1 + 1))).toInt + 1 ≤ (v.1 129 21).toInt := S.2.2.2.2.1
  refine ⟨by rw [en]; omega, by rw [en, st]; omega, by rw [en, st]; omega, ?_, b.1, by omega⟩
  rw [en, st]
  unfold kidB
  rw [show (300 * bhf v + (v.1 135 (nb v (d.2.2.1 + 1))).toInt + 0).toNat = nb v ((v.1 135 (nb v (d.2.2.1 + 1))).toInt + ((0 : Nat) : Int)) by unfold nb; omega, kid]
  omega
theorem xs_4 {v : MW} {ns : List Nod} {nm : List Nm} {x1 : Int32} {E : MW → Prop} {Q : Int32 → MW → Prop} (hI : BND v) (PN : PNm v ns) (NN : NmM v nm) (W : WNm ns nm) (hW : NWf (lkn nm) ns) (hE : ∀ w', XSm v (csl ns []) (ns.length : Int) w' → E w') (m : Nat) : ∀ (x : Nat) (w : MW), XSm v (csl ns []) (x : Int) w → x ≤ ns.length → ns.length - x < m → q_Tx_isSmall_4 x1 E Q m (nI x) w := by
  induction m with
  | zero => intros; omega
  | succ m ih =>
    intro x w hJ x9 hm
    have b13 := bd_129_13 hI
    have e13 := PN.1
    have bh := bhf_b hI
    have tx : (nI x).toInt = (x : Int) := nI_toInt (by omega)
    have f12 : w.1 129 12 = v.1 129 12 := (hJ.2.1 129 12 rfl).1
    have f13 : w.1 129 13 = v.1 129 13 := (hJ.2.1 129 13 rfl).1
    have f131 : ∀ j, w.1 131 j = v.1 131 j := fun j => (hJ.2.1 131 j rfl).1
    rw [q_Tx_isSmall_4.eq_2, f13, e13, tx]
    refine ⟨fun c => hE w ?_, fun c => Eq.mpr (p_Tx_base.eq_1 _ _) ?_⟩
    · rw [show (ns.length : Int) = (x : Int) by omega]
      exact hJ
    · have xl : x < ns.length := by omega
      obtain ⟨d, hd⟩ : ∃ d, ns[x]? = some d := ⟨_, List.getElem?_eq_getElem xl⟩
      have P := PN.2 x d hd
      have wf := hW x d hd
      have e := bb_ix (n := nI x) hI (by omega) (by omega)
      have en : (((300 : Int32) * ((1 : Int32) - (v.1 129 12))) + (nI x)).toInt.toNat = nb v (x : Int) := by rw [e, tx]; rfl
      have xt : (nI x).toInt.toNat = x := by omega
      have db : d.1 = 23 → d.2.2.1.toNat < x := fun q => by
        have := (wf.2 q).2.2
        omega
      have ow := own_w d.1
      have b21 := bd_129_21 hI
      have K : ∀ c0 : Int32, c0.toInt = own d.1 → q_Tx_isSmall_46 x1 (nI x) (v.1 131 (nb v (x : Int))) c0 (nI x) w (fun (x4_2 : Int32) (w : MW) => q_Tx_isSmall_4 x1 E Q m x4_2 w) E Q := fun c0 ec => by
        refine xs_46 (acc := csl ns []) (d := d) hI (by rw [tx]; exact hJ) (by omega) (by omega) (by rw [tx]; exact P) b21.2 (fun c hc => by have := wf.1 c hc; omega) (fun q => ⟨(wf.2 q).1, by rw [tx]; exact y_dof hI PN NN W hW hd q⟩) (by rw [xt]; exact cs_at hd wf.1 db) (fun c hc => (gD_b hW c (by omega)).2) (by rw [xt, tx]; exact (gD_b hW x xl).2) P.1 ec (fun w' h' => ?_)
        rw [nI_1]
        rw [tx] at h'
        exact ih (x + 1) w' h' xl (by omega)
      rw [f12, f131, en]
      refine ⟨⟨by omega, by omega⟩, fun lt => K 0 ?_, fun ge => ⟨fun gt => K 0 ?_, fun le => K 1 ?_⟩⟩
      · rw [P.1] at lt
        rw [ow, if_pos lt]
        decide
      · rw [P.1] at ge gt
        rw [ow, if_neg ge, if_pos gt]
        decide
      · rw [P.1] at ge le
        rw [ow, if_neg ge, if_neg le]
        decide
theorem smC_a (acc : List (Int × Int)) : ∀ (l m : List Nat) (a : Int), smC acc a (l ++ m) = smC acc (smC acc a l) m := by
  intro l
  induction l with
  | nil => exact fun _ _ => rfl
  | cons k l ih => exact fun m a => ih m (a + gC acc k)
theorem smC_le {acc : List (Int × Int)} : ∀ (l : List Nat) (a : Int), (∀ c ∈ l, 0 ≤ gC acc c) → a ≤ smC acc a l := by
  intro l
  induction l with
  | nil => exact fun a _ => Int.le_refl a
  | cons k l ih =>
    intro a h
    rw [smC_c]
    have := ih (a + gC acc k) (fun c hc => h c (List.mem_cons_of_mem _ hc))
    have := h k List.mem_cons_self
    omega
/-- what stands outside, summed -/
theorem xs_321 {v w : MW} {ns : List Nod} {ts ks : List Nat} {E : Int32 → MW → Prop} {Q : Int32 → MW → Prop} (hI : BND v) (PN : (v.1 129 13).toInt = (ns.length : Int)) (hT : TpM v (ts ++ ks)) (hs : ∀ t ∈ ts, t < ns.length ∧ (v.1 131 (nb v (t : Int))).toInt = 24) (hk : ∀ t ∈ ks, t < ns.length ∧ (v.1 131 (nb v (t : Int))).toInt ≤ 23) (hJ : XSm v (csl ns []) (ns.length : Int) w) (hE : ∀ s : Int32, 0 ≤ s.toInt → (500 < s.toInt ↔ tooM ns ks) → E s w) (m : Nat) : ∀ (j : Nat) (s : Int32), j ≤ (ts ++ ks).length → 0 ≤ s.toInt → s.toInt ≤ 1001 → (500 < s.toInt → tooM ns ks) → (s.toInt ≤ 500 → s.toInt = smC (csl ns []) 0 (ks.take (j - ts.length)) ∧ ∀ c ∈ ks.take (j - ts.length), gD (csl ns []) c ≤ 40) → (ts ++ ks).length - j < m → q_Tx_isSmall_321 E Q m s (nI j) w := by
  induction m with
  | zero => intros; omega
  | succ m ih =>
    intro j s hj s0 s1 hm1 hm2 hm
    have b13 := bd_129_13 hI
    have b23 := bd_129_23 hI
    have bh := bhf_b hI
    have t1 := hT.1
    have tj : (nI j).toInt = (j : Int) := nI_toInt (by omega)
    have f12 : w.1 129 12 = v.1 129 12 := (hJ.2.1 129 12 rfl).1
    have f23 : w.1 129 23 = v.1 129 23 := (hJ.2.1 129 23 rfl).1
    have f131 : ∀ j, w.1 131 j = v.1 131 j := fun j => (hJ.2.1 131 j rfl).1
    have f138 : ∀ j, w.1 138 j = v.1 138 j := fun j => (hJ.2.1 138 j rfl).1
    have ll : (ts ++ ks).length = ts.length + ks.length := List.length_append
    have gp : ∀ c : Nat, c < ns.length → 0 ≤ gC (csl ns []) c ∧ gC (csl ns []) c ≤ 501 := fun c hc => by
      have b := bd_145 hJ.1 c
      rw [(hJ.2.2 c (by omega)).1] at b
      exact b
    rw [q_Tx_isSmall_321.eq_2, f23, t1, tj]
    refine ⟨fun c => hE s s0 ⟨hm1, fun tm => ?_⟩, fun c => ⟨fun big => hE s s0 ⟨hm1, fun _ => big⟩, fun small => Eq.mpr (p_Tx_base.eq_1 _ _) ?_⟩⟩
    · by_cases le : s.toInt ≤ 500
      · have h2 := hm2 le
        have ea : ks.take (j - ts.length) = ks := List.take_of_length_le (by omega)
        rw [ea] at h2
        rcases tm with tm | ⟨k, hk', tm⟩
        · omega
        · have := h2.2 k hk'
          omega
      · omega
    · have h2 := hm2 (by omega)
      have jl : j < (ts ++ ks).length := by omega
      have e := bb_ix (n := nI j) hI (by omega) (by omega)
      have g := hT.2 j _ (List.getElem?_eq_getElem jl)
      have et : (v.1 138 (((300 : Int32) * ((1 : Int32) - (v.1 129 12))) + (nI j)).toInt.toNat).toInt = ((ts ++ ks)[j] : Int) := by
        rw [← g, e, tj]
        rfl
      have tn : (nI j) + (1 : Int32) = nI (j + 1) := nI_1 j
      rw [f12, f138]
      generalize (v.1 138 (((300 : Int32) * ((1 : Int32) - (v.1 129 12))) + (nI j)).toInt.toNat) = tp at *
      by_cases c2 : j < ts.length
      · have ej : (ts ++ ks)[j] = ts[j] := List.getElem_append_left c2
        have q := hs _ (List.getElem_mem c2)
        rw [ej] at et
        have e2 := bb_ix (n := tp) hI (by omega) (by omega)
        have en : (((300 : Int32) * ((1 : Int32) - (v.1 129 12))) + tp).toInt.toNat = nb v ((ts[j] : Nat) : Int) := by rw [e2, et]; rfl
        refine ⟨⟨by omega, by omega⟩, Eq.mpr (p_Tx_base.eq_1 _ _) ?_⟩
        rw [f12, f131, en, q.2, tn]
        have ss := ti_add2 (Eq.refl s.toInt) i_0 (by omega) (by omega)
        refine ⟨⟨by omega, by omega⟩, fun z => absurd rfl z, fun _ => ih (j + 1) _ (by omega) (by omega) (by omega) (fun z => by omega) (fun z => ?_) (by omega)⟩
        rw [ss, Int.add_zero, show j + 1 - ts.length = j - ts.length by omega]
        exact h2
      · have kl : j - ts.length < ks.length := by omega
        have ej : (ts ++ ks)[j] = ks[j - ts.length] := List.getElem_append_right (by omega)
        have q := hk _ (List.getElem_mem kl)
        rw [ej] at et
        have e2 := bb_ix (n := tp) hI (by omega) (by omega)
        have en : (((300 : Int32) * ((1 : Int32) - (v.1 129 12))) + tp).toInt.toNat = nb v ((ks[j - ts.length] : Nat) : Int) := by rw [e2, et]; rfl
        have tt : tp.toInt.toNat = ks[j - ts.length] := by omega
        have gj := hJ.2.2 ks[j - ts.length] (by omega)
        have gb := gp ks[j - ts.length] q.1
        have tk : ks.take (j + 1 - ts.length) = ks.take (j - ts.length) ++ [ks[j - ts.length]] := by
          rw [show j + 1 - ts.length = (j - ts.length) + 1 by omega, List.take_succ, List.getElem?_eq_getElem kl]
          rfl
        have mem : ks[j - ts.length] ∈ ks := List.getElem_mem kl
        refine ⟨⟨by omega, by omega⟩, Eq.mpr (p_Tx_base.eq_1 _ _) ?_⟩
        rw [f12, f131, en, tt, tn]
        have w23 := q.2
        have sm : smC (csl ns []) 0 (ks.take (j + 1 - ts.length)) = s.toInt + gC (csl ns []) ks[j - ts.length] := by
          rw [tk, smC_a, ← h2.1]
          rfl
        refine ⟨⟨by omega, by omega⟩, fun z => ⟨⟨by omega, by omega⟩, fun d40 => ⟨⟨by omega, by omega⟩, ?_⟩, fun d41 => ?_⟩, fun z => by have := Classical.not_not.mp z; omega⟩
        · have ss := ti_add2 (Eq.refl s.toInt) gj.1 (by omega) (by omega)
          refine ih (j + 1) _ (by omega) (by omega) (by omega) (fun z => Or.inl ?_) (fun z => ⟨by rw [ss, sm], fun c hc => ?_⟩) (by omega)
          · have e3 : ks = ks.take (j + 1 - ts.length) ++ ks.drop (j + 1 - ts.length) := (List.take_append_drop _ _).symm
            have le := smC_le (acc := csl ns []) (ks.drop (j + 1 - ts.length)) (smC (csl ns []) 0 (ks.take (j + 1 - ts.length))) (fun c hc => (gp c (hk c (List.mem_of_mem_drop hc)).1).1)
            rw [e3, smC_a]
            omega
          · rw [tk] at hc
            rcases List.mem_append.mp hc with p | p
            · exact h2.2 c p
            · rw [List.mem_singleton.mp p, ← gj.2]
              exact d40
        · have ss := ti_add2 (Eq.refl s.toInt) (show (501 : Int32).toInt = 501 by decide) (by omega) (by omega)
          have tm : tooM ns ks := Or.inr ⟨_, mem, by rw [← gj.2]; omega⟩
          exact ih (j + 1) _ (by omega) (by omega) (by omega) (fun _ => tm) (fun z => by omega) (by omega)
/-- THE REFERENCE'S isSmall exactly -/
theorem y_small {v : MW} {f : Int → Int} {n : Int} {nm : List Nm} {z : ZS} {ts : List Nat} {Q : Int32 → MW → Prop} (h : YE v f n nm z ts) (W : WNm z.2.1 nm) (hW : NWf (lkn nm) z.2.1) (hb : tooM z.2.1 z.2.2.2.1 → ∀ w', (w'.1 129 10).toInt = n → Q 0 w') (hg : ¬ tooM z.2.1 z.2.2.2.1 → ∀ w', BND w' → FR lsm2 v w' → Q 1 w') : p_Tx_isSmall v Q := by
  have hI := h.1.1.1.1
  have fu : (1000 : Nat) < FU := fu_lt (by decide)
  have l3 := ys_len h.1
  have tl := h.2.2.2.2.1.1
  have b23 := bd_129_23 hI
  have S0 : XSm v (csl z.2.1 []) ((0 : Nat) : Int) v := ⟨hI, FR.refl _ v, fun c hc => by omega⟩
  refine Eq.mpr (p_Tx_isSmall.eq_1 _ _) (xs_4 hI h.1.2.2.2.1 h.1.1.2.2.1 W hW (fun w hJ => ?_) FU 0 v S0 (Nat.zero_le _) (by omega))
  have e1 : (w.1 129 1).toInt = n := by rw [(hJ.2.1 129 1 rfl).1]; exact h.1.1.2.1.1
  refine xs_321 hI h.1.2.2.2.1.1 h.2.2.2.2.1 h.2.2.2.2.2.1 h.2.2.2.2.2.2 hJ (fun s s0 hs => ⟨fun c => ⟨fun c2 => by omega, fun _ => hg (fun t => by have := hs.mpr t; omega) _ (wbd_129_10 hJ.1) (FR.I ((FR.refl lsm2 v).tr hJ.2.1 rfl) rfl)⟩, fun c => ⟨fun c2 => hb (hs.mp c2) _ (by rw [sI_same]; exact e1), fun c2 => by omega⟩⟩) FU 0 0 (Nat.zero_le _) (by decide) (by decide) (fun z => absurd z (by decide)) (fun _ => ⟨?_, fun c hc => ?_⟩) (by omega)
  · rw [show 0 - ts.length = 0 by omega, List.take_zero]
    show (0 : Int32).toInt = 0
    decide
  · rw [show 0 - ts.length = 0 by omega, List.take_zero] at hc
    cases hc
/-! programs: steps and nodes fit; read of the reference -/
theorem lki_app {l : List Int} : ∀ (xs t : List Nm) (i : Int), ¬ lki l xs i = (-1, 0, 0, 0) → lki l (xs ++ t) i = lki l xs i := by
  intro xs
  induction xs with
  | nil => exact fun _ _ h => absurd rfl h
  | cons x xs ih =>
    intro t i h
    show lki l (x :: (xs ++ t)) i = _
    rw [lki_u, lki_u]
    rw [lki_u] at h
    by_cases c : x.1 = l
    · rw [if_pos c, if_pos c]
    · rw [if_neg c] at h
      rw [if_neg c, if_neg c]
      exact ih t (i + 1) h
theorem lkn_mono {nm t : List Nm} {l : List Int} {j u b : Int} (h : lkn nm l = (j, 10, u, b)) (j0 : 0 ≤ j) : lkn (nm ++ t) l = (j, 10, u, b) := by
  have e : lki l nm 0 = (j, 10, u, b) := by
    unfold lkn at h
    by_cases c : (lki l nm 0).2.1 = 10 ∧ (lki l nm 0).2.2.2 < 0
    · rw [if_pos c] at h
      have t : (-1 : Int) = j := congrArg Prod.fst h
      omega
    · rw [if_neg c] at h
      exact h
  have a := lki_app nm t 0 (fun z => by
    rw [e] at z
    have t : j = -1 := congrArg Prod.fst z
    omega)
  rw [← h]
  unfold lkn
  rw [a]
theorem nwf_mono {nm t : List Nm} {ns : List Nod} (h : NWf (lkn nm) ns) : NWf (lkn (nm ++ t)) ns := fun i d hd => by
  have q := h i d hd
  refine ⟨q.1, fun k => ?_⟩
  have w := q.2 k
  obtain ⟨l, u, el, e0⟩ := w.2.1
  exact ⟨w.1, ⟨l, u, lkn_mono el e0, e0⟩, w.2.2⟩
def DWf (s : DS) : Prop := NWf (lkn s.2.2.2) s.2.1 ∧ WNm s.2.1 s.2.2.2
theorem dwf_l {s : DS} (h : DWf s) : LkB (lkn s.2.2.2) s.2.1 := fun l h0 h1 => by
  obtain ⟨i, x, hx, _, _, xb, b0⟩ := lkn_x (nm := s.2.2.2) (l := l) (j := (lkn s.2.2.2 l).1) (u := (lkn s.2.2.2 l).2.2.1) (b := (lkn s.2.2.2 l).2.2.2) (by rw [← h1]) h0
  have t := h.2 i x hx (by omega)
  have lt := (List.getElem?_eq_some_iff.mp t).1
  exact ⟨b0, by omega⟩
theorem der_t {s : DS} {e : Int} (h : dok s = der e) : False := absurd (show true = false from congrArg Prod.fst h) (by decide)
theorem dok_i {s t : DS} (h : dok s = dok t) : s = t := congrArg (fun r : DQ => r.2.2) h
theorem dun_wf {f : Int → Int} {n c u p : Int} {s s' : DS} {l : List Int} (h : dok s' = dun f n s c u p l) (hD : DWf s) : DWf s' := by
  unfold dun at h
  by_cases k : (wrd f n p).1 = 59
  · rw [if_pos k] at h
    by_cases b : (wrd f n (wrd f n p).2.2.1).1 = 33
    · rw [if_pos b] at h
      exact (der_t h).elim
    · rw [if_neg b] at h
      rw [dok_i h]
      refine ⟨nwf_mono hD.1, fun i x hx x0 => ?_⟩
      rcases app_get hx with q | ⟨q, q2⟩
      · exact hD.2 i x q x0
      · rw [q2] at x0
        exact absurd x0 (show ¬ (0 : Int) ≤ -1 by decide)
  · rw [if_neg k] at h
    exact (der_t h).elim
theorem dcl_wf {f : Int → Int} {n : Int} {s s' : DS} (h : dcl f n s (dok s')) (hD : DWf s) : DWf s' := by
  unfold dcl at h
  by_cases c1 : (wrd f n (wrd f n s.1).2.2.1).1 = 33
  · rw [if_pos c1] at h
    exact (der_t h).elim
  rw [if_neg c1] at h
  by_cases c2 : ¬ ((wrd f n (wrd f n s.1).2.2.1).1 = 30 ∧ (lki (wrd f n (wrd f n s.1).2.2.1).2.2.2.1 s.2.2.2 0).1 < 0 ∧ s.2.2.2.length < 40)
  · rw [if_pos c2] at h
    exact (der_t h).elim
  rw [if_neg c2] at h
  by_cases c3 : (wrd f n (wrd f n (wrd f n s.1).2.2.1).2.2.1).1 = 33
  · rw [if_pos c3] at h
    exact (der_t h).elim
  rw [if_neg c3] at h
  by_cases c4 : (wrd f n s.1).1 = 10
  · rw [if_pos c4] at h
    obtain ⟨r1, a, b⟩ := h
    by_cases g : r1.1 = true
    · rw [if_pos g] at b
      obtain ⟨k, a⟩ := a
      have t := zit_wf (ZZ_wf f n (lkn s.2.2.2) k) a g (hN := hD.1) (dwf_l hD) (fun c hc => (by cases hc))
      have kd : 0 < r1.2.2.2.1.length := by
        have a' : zbl f n (ZZ f n (lkn s.2.2.2) k) 0 (dbl ((wrd f n (wrd f n s.1).2.2.1).2.2.1, s.2)) r1 := a
        unfold zbl at a'
        by_cases q : (wrd f n (dbl ((wrd f n (wrd f n s.1).2.2.1).2.2.1, s.2)).1).1 = 123 ∧ 0 < 20
        · rw [if_pos q] at a'
          obtain ⟨r2, _, b2⟩ := a'
          by_cases g2 : r2.1 = true
          · rw [if_pos g2] at b2
            unfold znd at b2
            by_cases q3 : r2.2.2.2.1.length = 300
            · rw [if_pos q3] at b2
              exact (zer_t b2 g).elim
            · rw [if_neg q3] at b2
              rw [b2]
              show 0 < (r2.2.2.2.1 ++ [_]).length
              rw [List.length_append, List.length_singleton]
              omega
          · rw [if_neg g2] at b2
            rw [b2] at g
            exact absurd g g2
        · rw [if_neg q] at a'
          exact (zer_t a' g).elim
      unfold dst at b
      by_cases q3 : r1.2.2.2.1.length = 300
      · rw [if_pos q3] at b
        exact (der_t b).elim
      · rw [if_neg q3] at b
        rw [dok_i b]
        have pre : PRE s.2.1 r1.2.2.2.1 := t.2.1
        have pre2 := pre.tr (PRE.one r1.2.2.2.1 (10, 0, 0, [r1.2.2.2.1.length - 1]))
        refine ⟨nwf_mono (nwf_s t.1 (fun c hc => by rw [List.mem_singleton.mp hc]; omega) (fun z => absurd z (show ¬ (10 : Int) = 23 by decide))), fun i x hx x0 => ?_⟩
        rcases app_get hx with q | ⟨q, q2⟩
        · exact pre2.get (hD.2 i x q x0)
        · rw [q2]
          show (r1.2.2.2.1 ++ [(10, 0, 0, [r1.2.2.2.1.length - 1])])[((r1.2.2.2.1.length : Int) - 1 + 1).toNat]? = some (10, 0, 0, [((r1.2.2.2.1.length : Int) - 1).toNat])
          rw [show ((r1.2.2.2.1.length : Int) - 1 + 1).toNat = r1.2.2.2.1.length by omega, show ((r1.2.2.2.1.length : Int) - 1).toNat = r1.2.2.2.1.length - 1 by omega, List.getElem?_append_right (Nat.le_refl _), Nat.sub_self]
          rfl
    · rw [if_neg g] at b
      exact (der_t b).elim
  · rw [if_neg c4] at h
    unfold dsg at h
    by_cases u : 1 ≤ (wrd f n (wrd f n (wrd f n s.1).2.2.1).2.2.1).1 ∧ (wrd f n (wrd f n (wrd f n s.1).2.2.1).2.2.1).1 ≤ 5
    · rw [if_pos u] at h
      by_cases b : (wrd f n (wrd f n (wrd f n (wrd f n s.1).2.2.1).2.2.1).2.2.1).1 = 33
      · rw [if_pos b] at h
        exact (der_t h).elim
      · rw [if_neg b] at h
        exact dun_wf h hD
    · rw [if_neg u] at h
      exact dun_wf h hD
theorem dcl_ok {f : Int → Int} {n : Int} {s : DS} {r : DQ} (h : dcl f n s r) (g : r.1 = true) : r = dok r.2.2 := by
  have no : ∀ {e : Int}, r = der e → r = dok r.2.2 := fun e => by
    rw [e] at g
    exact absurd (show false = true from g) (by decide)
  have yes : ∀ {t : DS}, r = dok t → r = dok r.2.2 := fun e => by
    rw [e]
    rfl
  have un : ∀ (c u p : Int) (l : List Int), r = dun f n s c u p l → r = dok r.2.2 := fun c u p l e => by
    unfold dun at e
    by_cases k : (wrd f n p).1 = 59
    · rw [if_pos k] at e
      by_cases b : (wrd f n (wrd f n p).2.2.1).1 = 33
      · rw [if_pos b] at e
        exact no e
      · rw [if_neg b] at e
        exact yes e
    · rw [if_neg k] at e
      exact no e
  unfold dcl at h
  by_cases c1 : (wrd f n (wrd f n s.1).2.2.1).1 = 33
  · rw [if_pos c1] at h
    exact no h
  rw [if_neg c1] at h
  by_cases c2 : ¬ ((wrd f n (wrd f n s.1).2.2.1).1 = 30 ∧ (lki (wrd f n (wrd f n s.1).2.2.1).2.2.2.1 s.2.2.2 0).1 < 0 ∧ s.2.2.2.length < 40)
  · rw [if_pos c2] at h
    exact no h
  rw [if_neg c2] at h
  by_cases c3 : (wrd f n (wrd f n (wrd f n s.1).2.2.1).2.2.1).1 = 33
  · rw [if_pos c3] at h
    exact no h
  rw [if_neg c3] at h
  by_cases c4 : (wrd f n s.1).1 = 10
  · rw [if_pos c4] at h
    obtain ⟨r1, _, b⟩ := h
    by_cases g1 : r1.1 = true
    · rw [if_pos g1] at b
      unfold dst at b
      by_cases q3 : r1.2.2.2.1.length = 300
      · rw [if_pos q3] at b
        exact no b
      · rw [if_neg q3] at b
        exact yes b
    · rw [if_neg g1] at b
      exact no b
  · rw [if_neg c4] at h
    unfold dsg at h
    by_cases u : 1 ≤ (wrd f n (wrd f n (wrd f n s.1).2.2.1).2.2.1).1 ∧ (wrd f n (wrd f n (wrd f n s.1).2.2.1).2.2.1).1 ≤ 5
    · rw [if_pos u] at h
      by_cases b : (wrd f n (wrd f n (wrd f n (wrd f n s.1).2.2.1).2.2.1).2.2.1).1 = 33
      · rw [if_pos b] at h
        exact no h
      · rw [if_neg b] at h
        exact un _ _ _ _ h
    · rw [if_neg u] at h
      exact un _ _ _ _ h
theorem DP_ok (f : Int → Int) (n : Int) : ∀ (k : Nat) (s : DS) (r : DQ), DP f n k s r → r.1 = true → r = dok r.2.2 := by
  intro k
  induction k with
  | zero => exact fun _ _ h _ => False.elim h
  | succ k ih =>
    intro s r h g
    rw [DP_u] at h
    by_cases c : (wrd f n s.1).1 = 8 ∨ (wrd f n s.1).1 = 9 ∨ (wrd f n s.1).1 = 10
    · rw [if_pos c] at h
      obtain ⟨r1, a, b⟩ := h
      by_cases g1 : r1.1 = true
      · rw [if_pos g1] at b
        exact ih _ _ b g
      · rw [if_neg g1] at b
        rw [b] at g
        exact absurd g g1
    · rw [if_neg c] at h
      rw [h]
      rfl
theorem DP_wf (f : Int → Int) (n : Int) : ∀ (k : Nat) (s s' : DS), DP f n k s (dok s') → DWf s → DWf s' := by
  intro k
  induction k with
  | zero => exact fun _ _ h _ => False.elim h
  | succ k ih =>
    intro s s' h hD
    rw [DP_u] at h
    by_cases c : (wrd f n s.1).1 = 8 ∨ (wrd f n s.1).1 = 9 ∨ (wrd f n s.1).1 = 10
    · rw [if_pos c] at h
      obtain ⟨r1, a, b⟩ := h
      by_cases g : r1.1 = true
      · rw [if_pos g] at b
        have er : r1 = dok r1.2.2 := dcl_ok a g
        rw [er] at a
        exact ih r1.2.2 s' b (dcl_wf a hD)
      · rw [if_neg g] at b
        exact absurd (show r1.1 = true from (congrArg Prod.fst b).symm) g
    · rw [if_neg c] at h
      rw [dok_i h]
      exact hD
theorem PG1_wf {f : Int → Int} {n : Int} {z : ZS} {nm : List Nm} (h : PG1 f n (true, 0) z nm) : NWf (lkn nm) z.2.1 ∧ WNm z.2.1 nm := by
  unfold PG1 at h
  by_cases c : (wrd f n 0).1 = 33
  · rw [if_pos c] at h
    exact absurd (show true = false from congrArg Prod.fst h) (by decide)
  · rw [if_neg c] at h
    obtain ⟨k, d, a, b⟩ := h
    by_cases g : d.1 = true
    · rw [if_pos g] at b
      obtain ⟨y, yz, yb⟩ := b
      by_cases gy : y.1 = true
      · rw [if_pos gy] at yb
        have D0 : DWf (0, [], 0, []) := ⟨fun i d hd => (by cases hd), fun i x hx => (by cases hx)⟩
        have ed : d = dok d.2.2 := DP_ok f n k _ _ a g
        rw [ed] at a
        have D := DP_wf f n k _ _ a D0
        obtain ⟨kk, yz⟩ := yz
        have t := zit_wf (ZZ_wf f n _ kk) yz gy (hN := D.1) (dwf_l D) (fun c hc => (by cases hc))
        rw [yb.2.1, yb.2.2]
        have pre : PRE d.2.2.2.1 y.2.2.2.1 := t.2.1
        exact ⟨t.1, fun i x hx x0 => pre.get (D.2 i x hx x0)⟩
      · rw [if_neg gy] at yb
        exact absurd (show true = false from congrArg Prod.fst yb) (by decide)
    · rw [if_neg g] at b
      exact absurd (show true = false from congrArg Prod.fst b) (by decide)
