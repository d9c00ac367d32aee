/-! the reference's names; which word a token is -/
theorem wrd_k (f : Int → Int) (n p : Int) : (wrd f n p).1 = 33 ∨ (wrd f n p).1 = 32 ∨ (wrd f n p).1 = 31 ∨ (40 ≤ (wrd f n p).1 ∧ (wrd f n p).1 ≤ 125) ∨ (((wrd f n p).1 = 30 ∨ (1 ≤ (wrd f n p).1 ∧ (wrd f n p).1 ≤ 26)) ∧ (wrd f n p).2.2.1 = (wrd f n p).2.1 + ((wrd f n p).2.2.2.1.length : Int) ∧ ∀ (i : Nat) (c : Int), (wrd f n p).2.2.2.1[i]? = some c → c = f ((wrd f n p).2.1 + (i : Int))) := by
  have e : wrd f n p = wrq f n (skp f n 4001 p) := rfl
  rw [e]
  generalize skp f n 4001 p = q
  unfold wrq
  by_cases c : n ≤ q
  · rw [if_pos c]
    exact Or.inr (Or.inl rfl)
  · rw [if_neg c]
    by_cases d : lt1 (f q) = true
    · rw [if_pos d]
      unfold wrL
      by_cases b : bd1 (f (q + ((lts f 12 q).length : Int))) = true
      · rw [if_pos b]
        exact Or.inl rfl
      · rw [if_neg b]
        exact Or.inr (Or.inr (Or.inr (Or.inr ⟨kwd_b _, rfl, fun i c h => lts_g f 12 q i c h⟩)))
    · rw [if_neg d]
      by_cases g : dg1 (f q) = true
      · rw [if_pos g]
        unfold wrN
        by_cases b : bd1 (f (dgn f q)) = true
        · rw [if_pos b]
          exact Or.inl rfl
        · rw [if_neg b]
          exact Or.inr (Or.inr (Or.inl rfl))
      · rw [if_neg g]
        by_cases k : mk1 (f q) = true
        · rw [if_pos k]
          have t := mk1_t.mp k
          refine Or.inr (Or.inr (Or.inr (Or.inl ?_)))
          show 40 ≤ f q ∧ f q ≤ 125
          omega
        · rw [if_neg k]
          exact Or.inl rfl
theorem mng_r (k : Int) (h : k = 30 ∨ (1 ≤ k ∧ k ≤ 26)) : -1 ≤ mng k ∧ mng k ≤ 46 := mng_b k (h.symm)
theorem mng_30 (k : Int) (h : k = 30 ∨ (1 ≤ k ∧ k ≤ 26)) : mng k = -1 ↔ k = 30 := by
  have t : ∀ j : Nat, j < 31 → ((j : Int) = 30 ∨ (1 ≤ (j : Int) ∧ (j : Int) ≤ 26)) → (mng (j : Int) = -1 ↔ (j : Int) = 30) := by decide +kernel
  have := t k.toNat (by omega)
  rw [show ((k.toNat : Nat) : Int) = k by omega] at this
  exact this h
/-- the words of the class, by the reference's numbers -/
theorem mng_i {k c : Int} (h : k = 30 ∨ (1 ≤ k ∧ k ≤ 26)) (h' : 1 ≤ c ∧ c ≤ 26) : mng k = mng c ↔ k = c := by
  have t : ∀ i : Nat, i < 31 → ∀ j : Nat, j < 27 → ((i : Int) = 30 ∨ (1 ≤ (i : Int) ∧ (i : Int) ≤ 26)) → (1 ≤ (j : Int)) → (mng (i : Int) = mng (j : Int) ↔ (i : Int) = (j : Int)) := by decide +kernel
  have := t k.toNat (by omega) c.toNat (by omega)
  rw [show ((k.toNat : Nat) : Int) = k by omega, show ((c.toNat : Nat) : Int) = c by omega] at this
  exact this h h'.1
/-- a token that is a sign -/
theorem tk_sign {f : Int → Int} {n p c : Int} (h : ¬ (wrd f n p).1 = 33) (c0 : 40 ≤ c) (c1 : c ≤ 125) : tkm (wrd f n p).1 = c ↔ (wrd f n p).1 = c := by
  unfold tkm
  rcases wrd_k f n p with k | k | k | k | k
  · exact absurd k h
  · rw [if_pos k]
    omega
  · rw [if_neg (by omega), if_pos k]
    omega
  · rw [if_neg (by omega), if_neg (by omega), if_neg (by omega)]
  · have b := mng_r _ k.1
    rw [if_neg (by omega), if_neg (by omega), if_pos (by omega)]
    have k1 := k.1
    omega
theorem tk_num {f : Int → Int} {n p : Int} (h : ¬ (wrd f n p).1 = 33) : tkm (wrd f n p).1 = 2000 ↔ (wrd f n p).1 = 31 := by
  unfold tkm
  rcases wrd_k f n p with k | k | k | k | k
  · exact absurd k h
  · rw [if_pos k]
    omega
  · rw [if_neg (by omega), if_pos k]
    omega
  · rw [if_neg (by omega), if_neg (by omega), if_neg (by omega)]
    omega
  · have b := mng_r _ k.1
    rw [if_neg (by omega), if_neg (by omega), if_pos (by omega)]
    have k1 := k.1
    omega
theorem tk_end {f : Int → Int} {n p : Int} (h : ¬ (wrd f n p).1 = 33) : tkm (wrd f n p).1 = 1 ↔ (wrd f n p).1 = 32 := by
  unfold tkm
  rcases wrd_k f n p with k | k | k | k | k
  · exact absurd k h
  · rw [if_pos k]
    omega
  · rw [if_neg (by omega), if_pos k]
    omega
  · rw [if_neg (by omega), if_neg (by omega), if_neg (by omega)]
    omega
  · have b := mng_r _ k.1
    rw [if_neg (by omega), if_neg (by omega), if_pos (by omega)]
    have k1 := k.1
    omega
theorem tk_name {f : Int → Int} {n p : Int} (h : ¬ (wrd f n p).1 = 33) : tkm (wrd f n p).1 = 999 ↔ (wrd f n p).1 = 30 := by
  unfold tkm
  rcases wrd_k f n p with k | k | k | k | k
  · exact absurd k h
  · rw [if_pos k]
    omega
  · rw [if_neg (by omega), if_pos k]
    omega
  · rw [if_neg (by omega), if_neg (by omega), if_neg (by omega)]
    omega
  · have b := mng_30 _ k.1
    have k1 := k.1
    rw [if_neg (by omega), if_neg (by omega), if_pos (by omega)]
    omega
/-- a token that is the word c -/
theorem tk_word {f : Int → Int} {n p c : Int} (h : ¬ (wrd f n p).1 = 33) (c1 : 1 ≤ c ∧ c ≤ 26) : tkm (wrd f n p).1 = 1000 + mng c ↔ (wrd f n p).1 = c := by
  have bc := mng_r c (Or.inr c1)
  unfold tkm
  rcases wrd_k f n p with k | k | k | k | k
  · exact absurd k h
  · rw [if_pos k]
    omega
  · rw [if_neg (by omega), if_pos k]
    omega
  · rw [if_neg (by omega), if_neg (by omega), if_neg (by omega)]
    omega
  · have b := mng_i k.1 c1
    have k1 := k.1
    rw [if_neg (by omega), if_neg (by omega), if_pos (by omega)]
    omega
theorem y_tk {w : MW} {f : Int → Int} {n : Int} {nm : List Nm} {op : Nat} {e p : Int} {ns : List Nod} (h : YS w f n nm op e p ns) : (w.1 129 4).toInt = tkm (wrd f n p).1 := h.2.1.1
/-- isWord of a word of the class -/
theorem y_isw {w : MW} {f : Int → Int} {n : Int} {nm : List Nm} {op : Nat} {e p : Int} {ns : List Nod} {a : Int32} {c : Int} {Q : Int32 → MW → Prop} (h : YS w f n nm op e p ns) (c1 : 1 ≤ c ∧ c ≤ 26) (ha : a.toInt = mng c) (h1 : (wrd f n p).1 = c → Q 1 w) (h0 : ¬ (wrd f n p).1 = c → Q 0 w) : p_Tx_isWord w a Q := by
  have bc := mng_r c (Or.inr c1)
  have s := ti_add2 (show (1000 : Int32).toInt = 1000 by decide) ha (by omega) (by omega)
  have t := tk_word (f := f) (n := n) (p := p) h.2.2.1 c1
  refine Eq.mpr (p_Tx_isWord.eq_1 _ _ _) ⟨fun z => h0 (fun q => z ?_), fun z => h1 ?_⟩
  · rw [s, y_tk h]
    exact t.mpr q
  · have z' := Classical.not_not.mp z
    rw [s, y_tk h] at z'
    exact t.mp z'
theorem y_isn {w : MW} {f : Int → Int} {n : Int} {nm : List Nm} {op : Nat} {e p : Int} {ns : List Nod} {Q : Int32 → MW → Prop} (h : YS w f n nm op e p ns) (h1 : (wrd f n p).1 = 30 → Q 1 w) (h0 : ¬ (wrd f n p).1 = 30 → Q 0 w) : p_Tx_isWord w (-1) Q := by
  have s : ((1000 : Int32) + (-1 : Int32)).toInt = 999 := by decide
  have t := tk_name (f := f) (n := n) (p := p) h.2.2.1
  refine Eq.mpr (p_Tx_isWord.eq_1 _ _ _) ⟨fun z => h0 (fun q => z ?_), fun z => h1 ?_⟩
  · rw [s, y_tk h]
    exact t.mpr q
  · have z' := Classical.not_not.mp z
    rw [s, y_tk h] at z'
    exact t.mp z'
/-- the letters of the word that is next -/
theorem y_sg {w : MW} {f : Int → Int} {n : Int} {nm : List Nm} {op : Nat} {e p : Int} {ns : List Nod} (h : YS w f n nm op e p ns) (k : (wrd f n p).1 = 30 ∨ (1 ≤ (wrd f n p).1 ∧ (wrd f n p).1 ≤ 26)) : SgM w (wrd f n p).2.1.toNat (wrd f n p).2.2.2.1 := by
  have wn := wrd_n (f := f) (n := n) (p := p) h.1.2.1.2.2.2 h.2.2.2.2.1 h.2.2.2.2.2
  have n4 := h.1.2.1.2.1
  have T := h.2.1
  rcases wrd_k f n p with q | q | q | q | q
  · exact absurd q h.2.2.1
  · omega
  · omega
  · omega
  · have q1 := q.2.1
    refine ⟨by rw [T.2.1]; omega, by rw [T.2.2.2.1]; omega, by omega, fun i c hc => ?_⟩
    have il := (List.getElem?_eq_some_iff.mp hc).1
    have t := h.1.2.1.2.2.1 ((wrd f n p).2.1.toNat + i) (by omega)
    rw [t, q.2.2 i c hc]
    congr 1
    omega
theorem lki_f (l : List Int) : ∀ (xs : List Nm) (i : Int) (j : Nat) (x : Nm), xs[j]? = some x → x.1 = l → (∀ (k : Nat) (y : Nm), k < j → xs[k]? = some y → ¬ y.1 = l) → lki l xs i = (i + (j : Int), x.2.1, x.2.2.1, x.2.2.2) := by
  intro xs
  induction xs with
  | nil => intro i j x h; cases h
  | cons z zs ih =>
    intro i j x h e first
    rw [lki_u]
    cases j with
    | zero =>
      have ez : z = x := Option.some.inj h
      rw [ez, if_pos e, show i + ((0 : Nat) : Int) = i by omega]
    | succ j =>
      rw [if_neg (first 0 z (Nat.succ_pos _) rfl), ih (i + 1) j x h e (fun k y hk hy => first (k + 1) y (Nat.succ_lt_succ hk) hy), show i + 1 + (j : Int) = i + ((j + 1 : Nat) : Int) by omega]
theorem lki_n (l : List Int) : ∀ (xs : List Nm) (i : Int), (∀ x ∈ xs, ¬ x.1 = l) → lki l xs i = (-1, 0, 0, 0) := by
  intro xs
  induction xs with
  | nil => exact fun _ _ => rfl
  | cons z zs ih =>
    intro i h
    rw [lki_u, if_neg (h z List.mem_cons_self)]
    exact ih (i + 1) (fun x hx => h x (List.mem_cons_of_mem _ hx))
theorem nm_490 {w : MW} {x1 x2 y : Int32} {E : Int32 → MW → Prop} {Q : Int32 → MW → Prop} (m : Nat) (hm : 0 < m) (h : 0 ≤ x2.toInt ∧ x2.toInt < 80) (hE : E 0 w) : q_Tx_nameOf_49 x1 x2 E Q m 0 y w := by
  cases m with
  | zero => omega
  | succ m =>
    rw [q_Tx_nameOf_49.eq_2]
    exact ⟨h, fun _ => hE, fun _ => ⟨fun _ => hE, fun z => absurd i_0 z⟩⟩
/-- the letters of a name and of the word, one by one -/
theorem nm_49 {w : MW} {b A : Nat} {l x : List Int} {x1 x2 : Int32} {E : Int32 → MW → Prop} {Q : Int32 → MW → Prop} (hs : SgM w b l) (hA : x2.toInt = (A : Int)) (A8 : A < 80) (hl : (w.1 140 A).toInt = (x.length : Int)) (x12 : x.length ≤ 12) (hx : ∀ (k : Nat) (c : Int), x[k]? = some c → (w.1 139 (12 * A + k)).toInt = c) (el : x.length = l.length) (m : Nat) : ∀ j : Nat, j ≤ x.length → (x.drop j = l.drop j → E 1 w) → (¬ x.drop j = l.drop j → E 0 w) → x.length - j < m → q_Tx_nameOf_49 x1 x2 E Q m 1 (nI j) w := by
  induction m with
  | zero => intros; omega
  | succ m ih =>
    intro j hj h1 h0 hm
    have b4 := hs.2.2.1
    have e5 := hs.1
    have tj : (nI j).toInt = (j : Int) := nI_toInt (by omega)
    have ta : x2.toInt.toNat = A := by omega
    have s12 := ti_mul2 (show (12 : Int32).toInt = 12 by decide) hA (by omega) (by omega)
    have sA := ti_add2 s12 tj (by omega) (by omega)
    have sB := ti_add2 e5 tj (by omega) (by omega)
    rw [q_Tx_nameOf_49.eq_2, ta, hl]
    refine ⟨⟨by omega, by omega⟩, fun c => h1 ?_, fun c => ⟨fun z => absurd z (by decide), fun _ => ⟨⟨by omega, by omega⟩, ⟨by omega, by omega⟩, ?_⟩⟩⟩
    · rw [List.drop_eq_nil_iff.mpr (by omega), List.drop_eq_nil_iff.mpr (by omega)]
    · have jx : j < x.length := by omega
      have jl : j < l.length := by omega
      have g := hx j _ (List.getElem?_eq_getElem jx)
      have g2 := hs.2.2.2 j _ (List.getElem?_eq_getElem jl)
      have d1 : x.drop j = x[j] :: x.drop (j + 1) := List.drop_eq_getElem_cons jx
      have d2 : l.drop j = l[j] :: l.drop (j + 1) := List.drop_eq_getElem_cons jl
      rw [show ((((12 : Int32) * x2) + (nI j)).toInt.toNat) = 12 * A + j by omega, show (((w.1 129 5) + (nI j)).toInt.toNat) = b + j by omega, g, g2, nI_1]
      refine ⟨fun y => ?_, fun y => ?_⟩
      · have no : E 0 w := h0 (fun e => by
          rw [d1, d2] at e
          injection e with e _
          exact y e)
        exact nm_490 m (by omega) ⟨by omega, by omega⟩ no
      · have y' := Classical.not_not.mp y
        refine ih (j + 1) jx (fun e => h1 (by rw [d1, d2, y', e])) (fun e => h0 (fun q => e ?_)) (by omega)
        rw [d1, d2] at q
        injection q with _ q
theorem nm_2 {w : MW} {nm : List Nm} {b : Nat} {l : List Int} {E : MW → Prop} {Q : Int32 → MW → Prop} (hI : BND w) (h : NmM w nm) (hs : SgM w b l) (hE : (∀ x ∈ nm, ¬ x.1 = l) → E w) (hQ : ∀ (j : Nat) (x : Nm), nm[j]? = some x → x.1 = l → (∀ (i : Nat) (y : Nm), i < j → nm[i]? = some y → ¬ y.1 = l) → Q (nI j) w) (m : Nat) : ∀ j : Nat, j ≤ nm.length → (∀ (i : Nat) (y : Nm), i < j → nm[i]? = some y → ¬ y.1 = l) → nm.length - j < m → q_Tx_nameOf_2 E Q m (nI j) w := by
  induction m with
  | zero => intros; omega
  | succ m ih =>
    intro j hj hn hm
    have n4 := h.2.1
    have n0 := h.1
    have bh := bhf_b hI
    have b4 := hs.2.2.1
    have tj : (nI j).toInt = (j : Int) := nI_toInt (by omega)
    have ei := cc_ix (n := nI j) hI (by omega) (by omega)
    have ed := ti_sub2 hs.2.1 hs.1 (by omega) (by omega)
    rw [q_Tx_nameOf_2.eq_2]
    refine ⟨fun z => hE (fun x hx => ?_), fun z => ?_⟩
    · obtain ⟨i, hi⟩ := List.mem_iff_getElem?.mp hx
      have : i < nm.length := (List.getElem?_eq_some_iff.mp hi).1
      exact hn i x (by omega) hi
    · have jl : j < nm.length := by omega
      obtain ⟨x, hx⟩ : ∃ x, nm[j]? = some x := ⟨_, List.getElem?_eq_getElem jl⟩
      have t := h.2.2 j x hx
      have eA : (((40 : Int32) * ((1 : Int32) - (w.1 129 12))) + (nI j)).toInt = (((40 * bhf w + (j : Int)).toNat : Nat) : Int) := by omega
      have eN : (((40 : Int32) * ((1 : Int32) - (w.1 129 12))) + (nI j)).toInt.toNat = (40 * bhf w + (j : Int)).toNat := by omega
      have nx : ¬ x.1 = l → q_Tx_nameOf_2 E Q m (nI j + (1 : Int32)) w := fun no => by
        rw [nI_1]
        refine ih (j + 1) jl (fun i y hi hy => ?_) (by omega)
        by_cases e : i = j
        · rw [e] at hy
          rw [Option.some.inj (hy.symm.trans hx)]
          exact no
        · exact hn i y (by omega) hy
      refine ⟨⟨by omega, by omega⟩, fun c => ?_, fun c => ?_⟩
      · rw [eN, t.1, ed] at c
        have no : ¬ x.1 = l := fun e => c (by rw [e]; omega)
        exact nm_490 FU (Nat.lt_of_le_of_lt (Nat.zero_le _) (fu_lt (by decide) : (100 : Nat) < FU)) ⟨by omega, by omega⟩ ⟨fun _ => nx no, fun z => absurd i_0 z⟩
      · rw [eN, t.1, ed] at c
        have c' := Classical.not_not.mp c
        refine nm_49 (A := (40 * bhf w + (j : Int)).toNat) (x := x.1) hs eA (by omega) t.1 t.2.1 (fun k cc hk => ?_) (by omega) FU 0 (Nat.zero_le _) (fun e => ⟨fun z => absurd z (by decide), fun _ => hQ j x hx e hn⟩) (fun e => ⟨fun _ => nx e, fun z => absurd i_0 z⟩) (Nat.lt_of_le_of_lt (show _ ≤ 12 by have := t.2.1; omega) (fu_lt (by decide)))
        have q := t.2.2.1 k cc hk
        rw [show (12 * (40 * bhf w + (j : Int)) + (k : Int)).toNat = 12 * (40 * bhf w + (j : Int)).toNat + k by omega] at q
        exact q
/-- nameOf exactly -/
theorem mn_x {w : MW} {nm : List Nm} {b : Nat} {l : List Int} {Q : Int32 → MW → Prop} (hI : BND w) (h : NmM w nm) (hs : SgM w b l) (h0 : lki l nm 0 = (-1, 0, 0, 0) → Q (-1) w) (h1 : ∀ (j : Nat) (x : Nm), nm[j]? = some x → x.1 = l → lki l nm 0 = ((j : Int), x.2.1, x.2.2.1, x.2.2.2) → Q (nI j) w) : p_Tx_nameOf w Q := by
  have n4 := h.2.1
  refine Eq.mpr (p_Tx_nameOf.eq_1 _ _) (nm_2 (m := FU) hI h hs (fun no => h0 (lki_n l nm 0 no)) (fun j x hx e first => h1 j x hx e ?_) 0 (Nat.zero_le _) (fun i y hi => absurd hi (Nat.not_lt_zero _)) (Nat.lt_of_le_of_lt (show _ ≤ 40 by omega) (fu_lt (by decide))))
  rw [lki_f l nm 0 j x hx e first, show 0 + (j : Int) = (j : Int) by omega]
