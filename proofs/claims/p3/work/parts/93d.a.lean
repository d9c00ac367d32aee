/-! the words of a program's text -/
def lt1 (c : Int) : Bool := decide (97 ≤ c ∧ c ≤ 122)
def dg1 (c : Int) : Bool := decide (48 ≤ c ∧ c ≤ 57)
def ld1 (c : Int) : Bool := lt1 c || dg1 c
def bd1 (c : Int) : Bool := ld1 c || decide (c = 46)
def mk1 (c : Int) : Bool := decide (c = 123 ∨ c = 125 ∨ c = 40 ∨ c = 41 ∨ c = 59 ∨ c = 43 ∨ c = 45 ∨ c = 42 ∨ c = 47 ∨ c = 60 ∨ c = 61 ∨ c = 62)
theorem lt1_t {c : Int} : lt1 c = true ↔ 97 ≤ c ∧ c ≤ 122 := decide_eq_true_iff
theorem lt1_f {c : Int} : lt1 c = false ↔ ¬ (97 ≤ c ∧ c ≤ 122) := decide_eq_false_iff_not
theorem dg1_t {c : Int} : dg1 c = true ↔ 48 ≤ c ∧ c ≤ 57 := decide_eq_true_iff
theorem dg1_f {c : Int} : dg1 c = false ↔ ¬ (48 ≤ c ∧ c ≤ 57) := decide_eq_false_iff_not
theorem mk1_t {c : Int} : mk1 c = true ↔ (c = 123 ∨ c = 125 ∨ c = 40 ∨ c = 41 ∨ c = 59 ∨ c = 43 ∨ c = 45 ∨ c = 42 ∨ c = 47 ∨ c = 60 ∨ c = 61 ∨ c = 62) := decide_eq_true_iff
theorem mk1_f {c : Int} : mk1 c = false ↔ ¬ (c = 123 ∨ c = 125 ∨ c = 40 ∨ c = 41 ∨ c = 59 ∨ c = 43 ∨ c = 45 ∨ c = 42 ∨ c = 47 ∨ c = 60 ∨ c = 61 ∨ c = 62) := decide_eq_false_iff_not
theorem ld1_t {c : Int} : ld1 c = true ↔ (97 ≤ c ∧ c ≤ 122) ∨ (48 ≤ c ∧ c ≤ 57) := by
  unfold ld1
  rw [Bool.or_eq_true, lt1_t, dg1_t]
theorem ld1_f {c : Int} : ld1 c = false ↔ ¬ (97 ≤ c ∧ c ≤ 122) ∧ ¬ (48 ≤ c ∧ c ≤ 57) := by
  unfold ld1
  rw [Bool.or_eq_false_iff, lt1_f, dg1_f]
theorem bd1_t {c : Int} : bd1 c = true ↔ ((97 ≤ c ∧ c ≤ 122) ∨ (48 ≤ c ∧ c ≤ 57)) ∨ c = 46 := by
  unfold bd1
  rw [Bool.or_eq_true, ld1_t, decide_eq_true_iff]
theorem bd1_f {c : Int} : bd1 c = false ↔ (¬ (97 ≤ c ∧ c ≤ 122) ∧ ¬ (48 ≤ c ∧ c ≤ 57)) ∧ ¬ c = 46 := by
  unfold bd1
  rw [Bool.or_eq_false_iff, ld1_f, decide_eq_false_iff_not]
/-- up to k letters and digits from p -/
def lts (f : Int → Int) : Nat → Int → List Int
  | 0, _ => []
  | k + 1, p => if ld1 (f p) = true then f p :: lts f k (p + 1) else []
/-- up to k digits from p -/
def dgl (f : Int → Int) : Nat → Int → List Int
  | 0, _ => []
  | k + 1, p => if dg1 (f p) = true then f p :: dgl f k (p + 1) else []
def cdg (c : Int) : Int := if c < 97 then c - 48 + 27 else c - 97 + 1
/-- letters as a number of base 37 -/
def cod (a : Int) : List Int → Int
  | [] => a
  | c :: l => cod (a * 37 + cdg c) l
def vlu (a : Int) : List Int → Int
  | [] => a
  | c :: l => vlu (a * 10 + c - 48) l
def fra (b a : Int) : List Int → Int
  | [] => a
  | c :: l => fra (b / 10) (a + b * (c - 48)) l
def kwl : List (List Int) := [[108], [99], [115], [98, 97, 114], [112, 97, 114, 116], [109, 105, 110], [104], [115, 105, 103, 110, 97, 108], [111, 117, 116, 112, 117, 116], [115, 116, 101, 112], [115, 101, 116], [119, 97, 105, 116], [117, 110, 116, 105, 108], [114, 97, 109, 112], [105, 110], [112, 97, 114], [105, 102], [101, 108, 115, 101], [114, 101, 112, 101, 97, 116], [108, 105, 109, 105, 116], [116, 104, 101, 110], [97, 115, 107], [100, 111], [115, 116, 111, 112], [104, 111, 108, 100], [97, 99, 116]]
def kix (l : List Int) : List (List Int) → Int → Int
  | [], _ => 30
  | k :: ks, i => if k = l then i else kix l ks (i + 1)
/-- a word's number: 1 to 26, or 30 of a name -/
def kwd (l : List Int) : Int := kix l kwl 1
/-- a word: its kind, where it begins (or is wrong), what is behind it, its letters, its value, whether it has a point -/
abbrev Tk : Type := Int × Int × Int × List Int × Int × Bool
def wrL (f : Int → Int) (q : Int) : Tk := if bd1 (f (q + ((lts f 12 q).length : Int))) = true then (33, q + ((lts f 12 q).length : Int), q + ((lts f 12 q).length : Int), lts f 12 q, 0, false) else (kwd (lts f 12 q), q, q + ((lts f 12 q).length : Int), lts f 12 q, 0, false)
/-- where the first digits end -/
def dge (f : Int → Int) (q : Int) : Int := q + ((dgl f 9 q).length : Int)
def dgp (f : Int → Int) (q : Int) : Bool := decide (f (dge f q) = 46 ∧ dg1 (f (dge f q + 1)) = true)
def dgf (f : Int → Int) (q : Int) : List Int := if dgp f q = true then dgl f 3 (dge f q + 1) else []
def dgn (f : Int → Int) (q : Int) : Int := if dgp f q = true then dge f q + 1 + ((dgl f 3 (dge f q + 1)).length : Int) else dge f q
def dgz (f : Int → Int) (q : Int) : Int := fra 100 (vlu 0 (dgl f 9 q) * 1000) (dgf f q)
def wrN (f : Int → Int) (q : Int) : Tk := if bd1 (f (dgn f q)) = true then (33, dgn f q, dgn f q, [], dgz f q, dgp f q) else (31, q, dgn f q, [], dgz f q, dgp f q)
def wrq (f : Int → Int) (n q : Int) : Tk := if n ≤ q then (32, q, q, [], 0, false) else if lt1 (f q) = true then wrL f q else if dg1 (f q) = true then wrN f q else if mk1 (f q) = true then (f q, q, q + 1, [], 0, false) else (33, q, q + 1, [], 0, false)
/-- the word that is read from p on -/
def wrd (f : Int → Int) (n p : Int) : Tk := wrq f n (skp f n 4001 p)
theorem lts_u (f : Int → Int) (k : Nat) (p : Int) : lts f (k + 1) p = if ld1 (f p) = true then f p :: lts f k (p + 1) else [] := rfl
theorem dgl_u (f : Int → Int) (k : Nat) (p : Int) : dgl f (k + 1) p = if dg1 (f p) = true then f p :: dgl f k (p + 1) else [] := rfl
theorem lts_m (f : Int → Int) : ∀ (k : Nat) (p : Int), (lts f k p).length ≤ k ∧ ∀ c ∈ lts f k p, (97 ≤ c ∧ c ≤ 122) ∨ (48 ≤ c ∧ c ≤ 57) := by
  intro k
  induction k with
  | zero => exact fun p => ⟨Nat.le_refl _, fun c h => (by cases h)⟩
  | succ k ih =>
    intro p
    rw [lts_u]
    by_cases q : ld1 (f p) = true
    · rw [if_pos q]
      refine ⟨Nat.succ_le_succ (ih (p + 1)).1, fun c h => ?_⟩
      rcases List.mem_cons.mp h with e | e
      · rw [e]
        exact ld1_t.mp q
      · exact (ih (p + 1)).2 c e
    · rw [if_neg q]
      exact ⟨Nat.zero_le _, fun c h => (by cases h)⟩
theorem dgl_m (f : Int → Int) : ∀ (k : Nat) (p : Int), (dgl f k p).length ≤ k ∧ ∀ c ∈ dgl f k p, 48 ≤ c ∧ c ≤ 57 := by
  intro k
  induction k with
  | zero => exact fun p => ⟨Nat.le_refl _, fun c h => (by cases h)⟩
  | succ k ih =>
    intro p
    rw [dgl_u]
    by_cases q : dg1 (f p) = true
    · rw [if_pos q]
      refine ⟨Nat.succ_le_succ (ih (p + 1)).1, fun c h => ?_⟩
      rcases List.mem_cons.mp h with e | e
      · rw [e]
        exact dg1_t.mp q
      · exact (ih (p + 1)).2 c e
    · rw [if_neg q]
      exact ⟨Nat.zero_le _, fun c h => (by cases h)⟩
def ldc (c : Int) : Prop := (97 ≤ c ∧ c ≤ 122) ∨ (48 ≤ c ∧ c ≤ 57)
theorem cdg_b {c : Int} (h : ldc c) : 1 ≤ cdg c ∧ cdg c ≤ 36 := by
  unfold cdg
  rcases h with h | h
  · rw [if_neg (by omega)]
    omega
  · rw [if_pos (by omega)]
    omega
theorem cdg_i {c d : Int} (h : ldc c) (h' : ldc d) (e : cdg c = cdg d) : c = d := by
  unfold cdg at e
  rcases h with h | h
  · rw [if_neg (by omega)] at e
    rcases h' with h' | h'
    · rw [if_neg (by omega)] at e
      omega
    · rw [if_pos (by omega)] at e
      omega
  · rw [if_pos (by omega)] at e
    rcases h' with h' | h'
    · rw [if_neg (by omega)] at e
      omega
    · rw [if_pos (by omega)] at e
      omega
theorem cod_a : ∀ (l m : List Int) (a : Int), cod a (l ++ m) = cod (cod a l) m := by
  intro l
  induction l with
  | nil => exact fun _ _ => rfl
  | cons c l ih => exact fun m a => ih m (a * 37 + cdg c)
theorem cod_s (l : List Int) (c a : Int) : cod a (l ++ [c]) = cod a l * 37 + cdg c := by
  rw [cod_a]
  rfl
theorem cod_0 : ∀ (l : List Int) (a : Int), 0 ≤ a → (∀ c ∈ l, ldc c) → 0 ≤ cod a l ∧ (l ≠ [] ∨ 0 < a → 0 < cod a l) := by
  intro l
  induction l with
  | nil => exact fun a a0 _ => ⟨a0, fun h => h.resolve_left (fun z => z rfl)⟩
  | cons c l ih =>
    intro a a0 h
    have b := cdg_b (h c List.mem_cons_self)
    have t := ih (a * 37 + cdg c) (by omega) (fun d hd => h d (List.mem_cons_of_mem _ hd))
    exact ⟨t.1, fun _ => t.2 (Or.inr (by omega))⟩
/-- words are equal when their codes are -/
theorem cod_i : ∀ (n : Nat) (l m : List Int), l.length ≤ n → (∀ c ∈ l, ldc c) → (∀ c ∈ m, ldc c) → cod 0 l = cod 0 m → l = m := by
  intro n
  induction n with
  | zero =>
    intro l m hl h h' e
    have el : l = [] := List.length_eq_zero_iff.mp (Nat.le_zero.mp hl)
    rw [el] at e ⊢
    by_cases q : m = []
    · exact q.symm
    · have t := (cod_0 m 0 (Int.le_refl _) h').2 (Or.inl q)
      rw [← e] at t
      exact absurd t (by decide)
  | succ n ih =>
    intro l m hl h h' e
    rcases List.eq_nil_or_concat l with el | ⟨l', c, el⟩
    · rw [el] at e ⊢
      by_cases q : m = []
      · exact q.symm
      · have t := (cod_0 m 0 (Int.le_refl _) h').2 (Or.inl q)
        rw [← e] at t
        exact absurd t (by decide)
    · rcases List.eq_nil_or_concat m with em | ⟨m', d, em⟩
      · rw [em] at e
        have t := (cod_0 l 0 (Int.le_refl _) h).2 (Or.inl (by rw [el]; exact fun z => by simp at z))
        rw [e] at t
        exact absurd t (by decide)
      · rw [List.concat_eq_append] at el em
        rw [el] at hl h e ⊢
        rw [em] at h' e ⊢
        rw [cod_s, cod_s] at e
        have hc : ldc c := h c (List.mem_append_right _ List.mem_cons_self)
        have hd : ldc d := h' d (List.mem_append_right _ List.mem_cons_self)
        have b1 := cdg_b hc
        have b2 := cdg_b hd
        have e1 : cdg c = cdg d := by omega
        have e2 : cod 0 l' = cod 0 m' := by omega
        rw [List.length_append, List.length_singleton] at hl
        rw [cdg_i hc hd e1, ih l' m' (by omega) (fun x hx => h x (List.mem_append_left _ hx)) (fun x hx => h' x (List.mem_append_left _ hx)) e2]
theorem kwl_m : ∀ k ∈ kwl, k.length ≤ 6 ∧ ∀ c ∈ k, 97 ≤ c ∧ c ≤ 122 := by decide
theorem kix_u (l k : List Int) (ks : List (List Int)) (i : Int) : kix l (k :: ks) i = if k = l then i else kix l ks (i + 1) := rfl
theorem kix_b (l : List Int) : ∀ (ks : List (List Int)) (i : Int), kix l ks i = 30 ∨ (i ≤ kix l ks i ∧ kix l ks i < i + (ks.length : Int)) := by
  intro ks
  induction ks with
  | nil => exact fun i => Or.inl rfl
  | cons k ks ih =>
    intro i
    rw [kix_u]
    by_cases q : k = l
    · rw [if_pos q, List.length_cons]
      right
      omega
    · rw [if_neg q, List.length_cons]
      rcases ih (i + 1) with h | h
      · exact Or.inl h
      · right
        omega
theorem kwd_b (l : List Int) : kwd l = 30 ∨ (1 ≤ kwd l ∧ kwd l ≤ 26) := by
  rcases kix_b l kwl 1 with h | h
  · exact Or.inl h
  · right
    have e : (kwl.length : Int) = 26 := by decide
    unfold kwd
    omega
/-! the class reads a word of a program -/
theorem pl_x {w : MW} {c : Int32} {Q : Int32 → MW → Prop} (h1 : lt1 c.toInt = true → Q 1 w) (h0 : lt1 c.toInt = false → Q 0 w) : p_Tp_isLetter w c Q :=
  Eq.mpr (p_Tp_isLetter.eq_1 _ _ _) ⟨fun d => h0 (lt1_f.mpr (by omega)), fun d => ⟨fun d2 => h0 (lt1_f.mpr (by omega)), fun d2 => h1 (lt1_t.mpr (by omega))⟩⟩
theorem pd_x {w : MW} {c : Int32} {Q : Int32 → MW → Prop} (h1 : dg1 c.toInt = true → Q 1 w) (h0 : dg1 c.toInt = false → Q 0 w) : p_Tp_isDigit w c Q :=
  Eq.mpr (p_Tp_isDigit.eq_1 _ _ _) ⟨fun d => h0 (dg1_f.mpr (by omega)), fun d => ⟨fun d2 => h0 (dg1_f.mpr (by omega)), fun d2 => h1 (dg1_t.mpr (by omega))⟩⟩
theorem pm_x {w : MW} {c : Int32} {Q : Int32 → MW → Prop} (h1 : mk1 c.toInt = true → Q 1 w) (h0 : mk1 c.toInt = false → Q 0 w) : p_Rd_isMark w c Q :=
  Eq.mpr (p_Rd_isMark.eq_1 _ _ _) ⟨fun d => h1 (mk1_t.mpr (by omega)), fun d0 => ⟨fun d => h1 (mk1_t.mpr (by omega)), fun d1 => ⟨fun d => h1 (mk1_t.mpr (by omega)), fun d2 => ⟨fun d => h1 (mk1_t.mpr (by omega)), fun d3 => ⟨fun d => h1 (mk1_t.mpr (by omega)), fun d4 => ⟨fun d => h1 (mk1_t.mpr (by omega)), fun d5 => ⟨fun d => h1 (mk1_t.mpr (by omega)), fun d6 => ⟨fun d => h1 (mk1_t.mpr (by omega)), fun d7 => ⟨fun d => h1 (mk1_t.mpr (by omega)), fun d8 => ⟨fun d => h1 (mk1_t.mpr (by omega)), fun d9 => ⟨fun d => h1 (mk1_t.mpr (by omega)), fun d10 => ⟨fun d => h0 (mk1_f.mpr (by omega)), fun d => h1 (mk1_t.mpr (by omega))⟩⟩⟩⟩⟩⟩⟩⟩⟩⟩⟩⟩
theorem cf_lt {w : MW} {p : Int} (h : 0 ≤ cf w p) : 0 ≤ p ∧ p < (w.1 1 2).toInt := by
  unfold cf at h
  by_cases q : 0 ≤ p ∧ p < (w.1 1 2).toInt
  · exact q
  · rw [if_neg q] at h
    omega
theorem p37 : ∀ i : Nat, i < 13 → (37 : Int) ^ i ≤ 6582952005840035281 := by decide +kernel
theorem p10q : ∀ i : Nat, i < 10 → (10 : Int) ^ i ≤ 1000000000 := by decide +kernel
/-- the reader knows the words -/
def KWc (w : MW) : Prop := ∀ (i : Nat) (k : List Int), kwl[i]? = some k → (w.2.1 90 i).toInt = cod 0 k
def lsl : Pl := [(87, some 2), (87, some 5)]
theorem slq_19 {w0 : MW} {T P : Int} {E Q : MW → Prop} (hr : w0.2.2 87 0 = some 1) (hE : ∀ w', BND w' → FR lsl w0 w' → (w'.2.1 87 5).toInt = T → (w'.1 87 2).toInt = P → E w') (m : Nat) : ∀ (i : Nat) (w : MW) (c : Int32), BND w → FR lsl w0 w → i ≤ 12 → c = cv w (w.1 87 2) → 0 ≤ (w.2.1 87 5).toInt → (w.2.1 87 5).toInt < 37 ^ i → cod (w.2.1 87 5).toInt (lts (cf w0) (12 - i) (w.1 87 2).toInt) = T → (w.1 87 2).toInt + ((lts (cf w0) (12 - i) (w.1 87 2).toInt).length : Int) = P → 12 - i < m → q_Rd_scanLetters_19 E Q m c (nI i) w := by
  induction m with
  | zero => intros; omega
  | succ m ih =>
    intro i w c hB hF hi hc c0 c1 hT hP hm
    have ti : (nI i).toInt = (i : Int) := nI_toInt (by omega)
    have ec : cf w = cf w0 := cf_fr hF rfl
    have rr : w.2.2 87 0 = some 1 := ((hF 87 0 rfl).2.2).trans hr
    have v : c.toInt = cf w0 (w.1 87 2).toInt := by rw [hc, cv_cf, ec]
    have b2 := bd_87_2 hB
    have bn := bd_1_2 hB
    rw [q_Rd_scanLetters_19.eq_2]
    have out : (12 - i = 0 ∨ ld1 (cf w0 (w.1 87 2).toInt) = false) → E w := fun o => by
      have el : lts (cf w0) (12 - i) (w.1 87 2).toInt = [] := by
        rcases o with o | o
        · rw [o]
          rfl
        · obtain ⟨k, ek⟩ : ∃ k, 12 - i = k ∨ (12 - i = k + 1) := ⟨12 - i, Or.inl rfl⟩
          cases hk : 12 - i with
          | zero => rfl
          | succ k => rw [lts_u, if_neg (nt o)]
      rw [el] at hT hP
      exact hE w hB hF hT (by rw [← hP]; simp)
    have step : ld1 (cf w0 (w.1 87 2).toInt) = true → ¬ 12 ≤ i → q_Rd_scanLetters_39 c (nI i) w (fun (x19_1 : Int32) (x19_2 : Int32) (w : MW) => q_Rd_scanLetters_19 E Q m x19_1 x19_2 w) E Q := fun ld i12 => by
      have ldc' := ld1_t.mp ld
      have lt := cf_lt (w := w) (p := (w.1 87 2).toInt) (by rw [ec]; omega)
      have cb := cdg_b (c := cf w0 (w.1 87 2).toInt) ldc'
      have pw := p37 i (by omega)
      have pw1 := p37 (i + 1) (by omega)
      have pe : (37 : Int) ^ (i + 1) = 37 ^ i * 37 := Int.pow_succ 37 i
      rw [show 12 - i = (12 - (i + 1)) + 1 by omega, lts_u, if_pos ld] at hT hP
      have nx : ∀ r6 : Int32, r6.toInt = cdg (cf w0 (w.1 87 2).toInt) → ((w.2.2 87 0 = some 1) ∧ (p_Tp_at (sI (sJ w 87 5 (((w.2.1 87 5) * (37 : Int64)) + (Int32.toInt64 r6))) 87 2 ((w.1 87 2) + (1 : Int32))) ((w.1 87 2) + (1 : Int32)) (fun r8 w8 => q_Rd_scanLetters_19 E Q m r8 ((nI i) + (1 : Int32)) w8))) := fun r6 er => by
        have s := ti_add2 (Eq.refl (w.1 87 2).toInt) i_1 (by omega) (by omega)
        have e37 := li_mul (Eq.refl (w.2.1 87 5).toInt) (show (37 : Int64).toInt = 37 by decide) (by omega) (by omega)
        have eK := li_add e37 ((nb_i2l r6).trans er) (by omega) (by omega)
        generalize hK : ((w.2.1 87 5) * (37 : Int64)) + (Int32.toInt64 r6) = K at *
        have B1 : BND (sI (sJ w 87 5 K) 87 2 ((w.1 87 2) + (1 : Int32))) := wbd_87_2 (show BND (sJ w 87 5 K) from hB) (by omega) (by omega)
        have F1 : FR lsl w0 (sI (sJ w 87 5 K) 87 2 ((w.1 87 2) + (1 : Int32))) := FR.I (FR.J hF rfl) rfl
        have a1 : (sI (sJ w 87 5 K) 87 2 ((w.1 87 2) + (1 : Int32))).1 87 2 = (w.1 87 2) + (1 : Int32) := sI_same _ _ _ _
        have a5 : (sI (sJ w 87 5 K) 87 2 ((w.1 87 2) + (1 : Int32))).2.1 87 5 = K := sJ_same _ _ _ _
        refine ⟨rr, at_x B1 ?_⟩
        rw [nI_1]
        refine ih (i + 1) _ _ B1 F1 (by omega) (by rw [a1]) (by rw [a5, eK]; omega) (by rw [a5, eK, pe]; omega) ?_ ?_ (by omega)
        · rw [a5, eK, a1, s]
          exact hT
        · rw [a1, s, ← hP, List.length_cons]
          omega
      refine Eq.mpr (q_Rd_scanLetters_39.eq_1 _ _ _ _ _ _) (Eq.mpr (p_Rd_digitOf.eq_1 _ _ _) ⟨fun l => nx _ ?_, fun l => nx _ ?_⟩)
      · rw [ti_add2 (ti_sub2 v (show (48 : Int32).toInt = 48 by decide) (by omega) (by omega)) (show (27 : Int32).toInt = 27 by decide) (by omega) (by omega)]
        unfold cdg
        rw [if_pos (by omega)]
      · rw [ti_add2 (ti_sub2 v (show (97 : Int32).toInt = 97 by decide) (by omega) (by omega)) i_1 (by omega) (by omega)]
        unfold cdg
        rw [if_neg (by omega)]
    refine ⟨fun z => out (Or.inl (by omega)), fun z => pl_x (fun d => ⟨fun _ => step (ld1_t.mpr (Or.inl (by rw [← v]; exact lt1_t.mp d))) (by omega), fun q => absurd i1n q⟩) (fun d => ⟨fun q => absurd i_0 q, fun _ => pd_x (fun d2 => ⟨fun q => absurd q i1n, fun _ => step (ld1_t.mpr (Or.inr (by rw [← v]; exact dg1_t.mp d2))) (by omega)⟩) (fun d2 => ⟨fun _ => out (Or.inr (ld1_f.mpr ⟨by rw [← v]; exact lt1_f.mp d, by rw [← v]; exact dg1_f.mp d2⟩)), fun q => absurd i_0 q⟩)⟩)⟩
theorem slq_93 {w0 : MW} {l : List Int} {E Q : MW → Prop} (hK : KWc w0) (hl : ∀ c ∈ l, ldc c) (hc : (w0.2.1 87 5).toInt = cod 0 l) (hE : ∀ w', BND w' → FR [(87, some 3)] w0 w' → (w'.1 87 3).toInt = kwd l → E w') (m : Nat) : ∀ (i : Nat) (w : MW), BND w → FR [(87, some 3)] w0 w → i ≤ 26 → (((w.1 87 3).toInt = 30 ∧ kix l (kwl.drop i) ((i : Int) + 1) = kwd l) ∨ (¬ (w.1 87 3).toInt = 30 ∧ (w.1 87 3).toInt = kwd l)) → 26 - i < m → q_Rd_scanLetters_93 E Q m (nI i) w := by
  induction m with
  | zero => intros; omega
  | succ m ih =>
    intro i w hB hF hi hh hm
    have ti : (nI i).toInt = (i : Int) := nI_toInt (by omega)
    have tn : (nI i).toInt.toNat = i := by omega
    have kl : kwl.length = 26 := by decide
    rw [q_Rd_scanLetters_93.eq_2, tn]
    refine ⟨fun z => hE w hB hF ?_, fun z => ⟨fun n => hE w hB hF ?_, fun n => ⟨by omega, fun q => ?_, fun q => ?_⟩⟩⟩
    · rcases hh with ⟨a, b⟩ | ⟨_, b⟩
      · rw [show i = 26 by omega] at b
        rw [a, ← b]
        rfl
      · exact b
    · rcases hh with ⟨a, _⟩ | ⟨_, b⟩
      · exact absurd a n
      · exact b
    · have n0 := Classical.not_not.mp n
      rcases hh with ⟨a, b⟩ | ⟨a, _⟩
      · have il : i < kwl.length := by omega
        have gk : kwl[i]? = some kwl[i] := List.getElem?_eq_getElem il
        have cK := hK i _ gk
        have e90 : w.2.1 90 i = w0.2.1 90 i := (hF 90 i rfl).2.1
        have e5 : w.2.1 87 5 = w0.2.1 87 5 := (hF 87 5 rfl).2.1
        rw [List.drop_eq_getElem_cons il, kix_u] at b
        have ne : ¬ kwl[i] = l := fun z => by
          rcases nb_cmp (w.2.1 90 i) (w.2.1 87 5) with t | t | t
          · have := t.2
            rw [e90, e5, cK, hc, z] at this
            omega
          · exact q t.1
          · have := t.2
            rw [e90, e5, cK, hc, z] at this
            omega
        rw [if_neg ne] at b
        rw [nI_1]
        have B1 : BND (sI w 87 3 30) := wbd_87_3 hB
        refine ih (i + 1) _ B1 (FR.I hF rfl) (by omega) (Or.inl ⟨by rw [sI_same]; decide, ?_⟩) (by omega)
        rw [show ((i + 1 : Nat) : Int) + 1 = (i : Int) + 1 + 1 by omega]
        exact b
      · exact absurd n0 a
    · rcases hh with ⟨a, b⟩ | ⟨a, _⟩
      · have q0 := Classical.not_not.mp q
        have il : i < kwl.length := by omega
        have gk : kwl[i]? = some kwl[i] := List.getElem?_eq_getElem il
        have cK := hK i _ gk
        have e90 : w.2.1 90 i = w0.2.1 90 i := (hF 90 i rfl).2.1
        have e5 : w.2.1 87 5 = w0.2.1 87 5 := (hF 87 5 rfl).2.1
        have ee : cod 0 kwl[i] = cod 0 l := by
          rcases nb_cmp (w.2.1 90 i) (w.2.1 87 5) with t | t | t
          · have := t.1
            omega
          · have := t.2
            rw [e90, e5, cK, hc] at this
            exact this
          · have := t.1
            omega
        have km := kwl_m _ (List.mem_of_getElem? gk)
        have ek : kwl[i] = l := cod_i 6 _ _ km.1 (fun c h => Or.inl (km.2 c h)) hl ee
        rw [List.drop_eq_getElem_cons il, kix_u, if_pos ek] at b
        rw [nI_1]
        have t1 : (nI (i + 1)).toInt = ((i + 1 : Nat) : Int) := nI_toInt (by omega)
        refine ih (i + 1) _ (wbd_87_3 hB) (FR.I hF rfl) (by omega) (Or.inr ⟨by rw [sI_same, t1]; omega, by rw [sI_same, t1, ← b]; omega⟩) (by omega)
      · exact absurd (Classical.not_not.mp n) a
def lsw : Pl := [(87, some 2), (87, some 3), (87, some 5)]
theorem sl_x {w : MW} {Q : MW → Prop} (hI : BND w) (hr : w.2.2 87 0 = some 1) (hK : KWc w) (hQ : ∀ w', BND w' → FR lsw w w' → (w'.2.1 87 5).toInt = cod 0 (lts (cf w) 12 (w.1 87 2).toInt) → (w'.1 87 2).toInt = (w.1 87 2).toInt + ((lts (cf w) 12 (w.1 87 2).toInt).length : Int) → (w'.1 87 3).toInt = kwd (lts (cf w) 12 (w.1 87 2).toInt) → Q w') : p_Rd_scanLetters w Q := by
  have B1 : BND (sJ w 87 5 0) := hI
  have F1 : FR lsl w (sJ w 87 5 0) := FR.J (FR.refl _ w) rfl
  have a5 : (sJ w 87 5 0).2.1 87 5 = 0 := sJ_same _ _ _ _
  have z0 : (0 : Int64).toInt = 0 := by decide
  refine Eq.mpr (p_Rd_scanLetters.eq_1 _ _) ⟨hr, at_x B1 ?_⟩
  refine slq_19 (w0 := w) hr (fun w' B' F' e5 e2 => ?_) FU 0 (sJ w 87 5 0) _ B1 F1 (Nat.zero_le _) rfl (by rw [a5, z0] <;> decide) (by rw [a5, z0] <;> decide) (by rw [a5, z0] <;> rfl) rfl (fu_lt (by decide))
  have B2 : BND (sI w' 87 3 30) := wbd_87_3 B'
  have F2 : FR lsw w (sI w' 87 3 30) := FR.I (FR.tr (FR.refl _ w) F' rfl) rfl
  have c3 : ((sI w' 87 3 30).1 87 3).toInt = 30 := by rw [sI_same]; decide
  have c5 : ((sI w' 87 3 30).2.1 87 5).toInt = cod 0 (lts (cf w) 12 (w.1 87 2).toInt) := e5
  have c2 : ((sI w' 87 3 30).1 87 2).toInt = (w.1 87 2).toInt + ((lts (cf w) 12 (w.1 87 2).toInt).length : Int) := by rw [sI_ne _ _ _ _ _ (by decide)]; exact e2
  generalize (sI w' 87 3 30) = w2 at *
  have lm := lts_m (cf w) 12 (w.1 87 2).toInt
  have K2 : KWc w2 := fun i k hk => by rw [(F2 90 i rfl).2.1]; exact hK i k hk
  exact slq_93 (w0 := w2) K2 lm.2 c5 (fun w3 B3 F3 e3 => hQ w3 B3 (FR.tr F2 F3 rfl) (by rw [(F3 87 5 rfl).2.1]; exact c5) (by rw [(F3 87 2 rfl).1]; exact c2) e3) FU 0 w2 B2 (FR.refl _ w2) (Nat.zero_le _) (Or.inl ⟨c3, rfl⟩) (fu_lt (by decide))
def lsn : Pl := [(87, some 2), (87, some 6)]
theorem sn_13 {w0 : MW} {T P : Int} {E Q : MW → Prop} (hr : w0.2.2 87 0 = some 1) (hE : ∀ w', BND w' → FR lsn w0 w' → (w'.2.1 87 6).toInt = T → (w'.1 87 2).toInt = P → 0 ≤ T → T < 1000000000 → E w') (m : Nat) : ∀ (i : Nat) (w : MW), BND w → FR lsn w0 w → i ≤ 9 → 0 ≤ (w.2.1 87 6).toInt → (w.2.1 87 6).toInt < 10 ^ i → vlu (w.2.1 87 6).toInt (dgl (cf w0) (9 - i) (w.1 87 2).toInt) = T → (w.1 87 2).toInt + ((dgl (cf w0) (9 - i) (w.1 87 2).toInt).length : Int) = P → 9 - i < m → q_Rd_scanNumber_13 E Q m (nI i) w := by
  induction m with
  | zero => intros; omega
  | succ m ih =>
    intro i w hB hF hi c0 c1 hT hP hm
    have ti : (nI i).toInt = (i : Int) := nI_toInt (by omega)
    have ec : cf w = cf w0 := cf_fr hF rfl
    have rr : w.2.2 87 0 = some 1 := ((hF 87 0 rfl).2.2).trans hr
    have v : (cv w (w.1 87 2)).toInt = cf w0 (w.1 87 2).toInt := by rw [cv_cf, ec]
    have b2 := bd_87_2 hB
    have bn := bd_1_2 hB
    have pw := p10q i (by omega)
    rw [q_Rd_scanNumber_13.eq_2]
    have out : (9 - i = 0 ∨ dg1 (cf w0 (w.1 87 2).toInt) = false) → E w := fun o => by
      have el : dgl (cf w0) (9 - i) (w.1 87 2).toInt = [] := by
        cases hk : 9 - i with
        | zero => rfl
        | succ k =>
          rcases o with o | o
          · omega
          · rw [dgl_u, if_neg (nt o)]
      rw [el] at hT hP
      have hT' : (w.2.1 87 6).toInt = T := hT
      exact hE w hB hF hT' (by rw [← hP]; simp) (by omega) (by omega)
    refine ⟨fun z => out (Or.inl (by omega)), fun z => ⟨rr, at_x hB (pd_x (fun d => ⟨fun q => absurd q i1n, fun _ => ⟨rr, at_x hB ?_⟩⟩) (fun d => ⟨fun _ => out (Or.inr (by rw [← v]; exact d)), fun q => absurd i_0 q⟩))⟩⟩
    rw [v] at d
    have dd := dg1_t.mp d
    have lt := cf_lt (w := w) (p := (w.1 87 2).toInt) (by rw [ec]; omega)
    have pw1 := p10q i (by omega)
    have pe : (10 : Int) ^ (i + 1) = 10 ^ i * 10 := Int.pow_succ 10 i
    rw [show 9 - i = (9 - (i + 1)) + 1 by omega, dgl_u, if_pos d] at hT hP
    have s := ti_add2 (Eq.refl (w.1 87 2).toInt) i_1 (by omega) (by omega)
    have e10 := li_mul (Eq.refl (w.2.1 87 6).toInt) (show (10 : Int64).toInt = 10 by decide) (by omega) (by omega)
    have e11 := li_add e10 ((nb_i2l (cv w (w.1 87 2))).trans v) (by omega) (by omega)
    have eK := li_sub e11 (show (48 : Int64).toInt = 48 by decide) (by omega) (by omega)
    generalize hK : (((w.2.1 87 6) * (10 : Int64)) + (Int32.toInt64 (cv w (w.1 87 2)))) - (48 : Int64) = K at *
    have B1 : BND (sI (sJ w 87 6 K) 87 2 ((w.1 87 2) + (1 : Int32))) := wbd_87_2 (show BND (sJ w 87 6 K) from hB) (by omega) (by omega)
    have a1 : (sI (sJ w 87 6 K) 87 2 ((w.1 87 2) + (1 : Int32))).1 87 2 = (w.1 87 2) + (1 : Int32) := sI_same _ _ _ _
    have a6 : (sI (sJ w 87 6 K) 87 2 ((w.1 87 2) + (1 : Int32))).2.1 87 6 = K := sJ_same _ _ _ _
    rw [nI_1]
    refine ih (i + 1) _ B1 (FR.I (FR.J hF rfl) rfl) (by omega) (by rw [a6, eK]; omega) (by rw [a6, eK, pe]; omega) ?_ ?_ (by omega)
    · rw [a6, eK, a1, s]
      exact hT
    · rw [a1, s, ← hP, List.length_cons]
      omega
def fkb (k : Nat) (b : Int32) : Prop := (k = 3 ∧ b = 100) ∨ (k = 2 ∧ b = 10) ∨ (k = 1 ∧ b = 1) ∨ (k = 0 ∧ b = 0)
theorem sn_172 {w0 : MW} {T P : Int} {E Q : MW → Prop} (hr : w0.2.2 87 0 = some 1) (hE : ∀ w', BND w' → FR lsn w0 w' → (w'.2.1 87 6).toInt = T → (w'.1 87 2).toInt = P → E w') (m : Nat) : ∀ (k : Nat) (b : Int32) (w : MW), fkb k b → BND w → FR lsn w0 w → 0 ≤ (w.2.1 87 6).toInt → (w.2.1 87 6).toInt + 1000 * (k : Int) ≤ 2000000000000 → fra b.toInt (w.2.1 87 6).toInt (dgl (cf w0) k (w.1 87 2).toInt) = T → (w.1 87 2).toInt + ((dgl (cf w0) k (w.1 87 2).toInt).length : Int) = P → k < m → q_Rd_scanNumber_172 E Q m b w := by
  induction m with
  | zero => intros; omega
  | succ m ih =>
    intro k b w hk hB hF c0 c1 hT hP hm
    have ec : cf w = cf w0 := cf_fr hF rfl
    have rr : w.2.2 87 0 = some 1 := ((hF 87 0 rfl).2.2).trans hr
    have v : (cv w (w.1 87 2)).toInt = cf w0 (w.1 87 2).toInt := by rw [cv_cf, ec]
    have b2 := bd_87_2 hB
    have bn := bd_1_2 hB
    rw [q_Rd_scanNumber_172.eq_2]
    have out : (k = 0 ∨ dg1 (cf w0 (w.1 87 2).toInt) = false) → E w := fun o => by
      have el : dgl (cf w0) k (w.1 87 2).toInt = [] := by
        cases k with
        | zero => rfl
        | succ k =>
          rcases o with o | o
          · omega
          · rw [dgl_u, if_neg (nt o)]
      rw [el] at hT hP
      exact hE w hB hF hT (by rw [← hP]; simp)
    have step : ∀ (k' : Nat) (b' : Int32) (B : Int), k = k' + 1 → b.toInt = B → b / (10 : Int32) = b' → B / 10 = b'.toInt → fkb k' b' → 0 ≤ B → B ≤ 100 → dg1 (cf w0 (w.1 87 2).toInt) = true → q_Rd_scanNumber_172 E Q m (b / (10 : Int32)) (sI (sJ w 87 6 ((w.2.1 87 6) + (Int32.toInt64 (b * ((cv w (w.1 87 2)) - (48 : Int32)))))) 87 2 ((w.1 87 2) + (1 : Int32))) := fun k' b' B ek eb e1 e2 hk' B0 B1 d => by
      have dd := dg1_t.mp d
      have lt := cf_lt (w := w) (p := (w.1 87 2).toInt) (by rw [ec]; omega)
      have s := ti_add2 (Eq.refl (w.1 87 2).toInt) i_1 (by omega) (by omega)
      rw [ek, dgl_u, if_pos d] at hT hP
      have d0 := ti_sub2 v (show (48 : Int32).toInt = 48 by decide) (by omega) (by omega)
      have mb : 0 ≤ B * (cf w0 (w.1 87 2).toInt - 48) ∧ B * (cf w0 (w.1 87 2).toInt - 48) ≤ 100 * 9 := ⟨Int.mul_nonneg B0 (by omega), Int.mul_le_mul B1 (by omega) (by omega) (by omega)⟩
      have dm := ti_mul2 eb d0 (by omega) (by omega)
      have eK := li_add (Eq.refl (w.2.1 87 6).toInt) ((nb_i2l (b * ((cv w (w.1 87 2)) - (48 : Int32)))).trans dm) (by omega) (by omega)
      generalize hK : (w.2.1 87 6) + (Int32.toInt64 (b * ((cv w (w.1 87 2)) - (48 : Int32)))) = K at *
      have a1 : (sI (sJ w 87 6 K) 87 2 ((w.1 87 2) + (1 : Int32))).1 87 2 = (w.1 87 2) + (1 : Int32) := sI_same _ _ _ _
      have a6 : (sI (sJ w 87 6 K) 87 2 ((w.1 87 2) + (1 : Int32))).2.1 87 6 = K := sJ_same _ _ _ _
      rw [e1]
      refine ih k' b' _ hk' (wbd_87_2 (show BND (sJ w 87 6 K) from hB) (by omega) (by omega)) (FR.I (FR.J hF rfl) rfl) (by rw [a6, eK]; omega) (by rw [a6, eK]; omega) ?_ ?_ (by omega)
      · rw [a6, eK, a1, s, ← e2]
        rw [eb] at hT
        exact hT
      · rw [a1, s, ← hP, List.length_cons]
        omega
    refine ⟨fun z => out ?_, fun z => ⟨rr, at_x hB (pd_x (fun d => ⟨fun q => absurd q i1n, fun _ => ⟨rr, at_x hB ?_⟩⟩) (fun d => ⟨fun _ => out (Or.inr (by rw [← v]; exact d)), fun q => absurd i_0 q⟩))⟩⟩
    · rcases hk with ⟨_, e⟩ | ⟨_, e⟩ | ⟨_, e⟩ | ⟨e, _⟩
      · rw [e] at z
        exact absurd z (by decide)
      · rw [e] at z
        exact absurd z (by decide)
      · rw [e] at z
        exact absurd z (by decide)
      · exact Or.inl e
    · rw [v] at d
      rcases hk with ⟨ek, e⟩ | ⟨ek, e⟩ | ⟨ek, e⟩ | ⟨ek, e⟩
      · exact step 2 10 100 ek (by rw [e]; decide) (by rw [e]; decide) (by decide) (Or.inr (Or.inl ⟨rfl, rfl⟩)) (by decide) (by decide) d
      · exact step 1 1 10 ek (by rw [e]; decide) (by rw [e]; decide) (by decide) (Or.inr (Or.inr (Or.inl ⟨rfl, rfl⟩))) (by decide) (by decide) d
      · exact step 0 0 1 ek (by rw [e]; decide) (by rw [e]; decide) (by decide) (Or.inr (Or.inr (Or.inr ⟨rfl, rfl⟩))) (by decide) (by decide) d
      · rw [e] at z
        exact absurd (show (0 : Int32).toInt ≤ 0 by decide) z
/-! the class's next word of a program -/
def lsnm : Pl := [(87, some 2), (87, some 3), (87, some 6), (87, some 7)]
theorem snu_x {w : MW} {Q : MW → Prop} (hI : BND w) (hr : w.2.2 87 0 = some 1) (hQ : ∀ w', BND w' → FR lsnm w w' → (w'.2.1 87 6).toInt = dgz (cf w) (w.1 87 2).toInt → (w'.1 87 2).toInt = dgn (cf w) (w.1 87 2).toInt → (w'.1 87 3).toInt = 31 → (w'.1 87 7).toInt = (if dgp (cf w) (w.1 87 2).toInt = true then 1 else 0) → Q w') : p_Rd_scanNumber w Q := by
  have B1 : BND (sJ (sI w 87 3 31) 87 6 0) := wbd_87_3 (v := 31) hI
  have F1 : FR lsnm w (sJ (sI w 87 3 31) 87 6 0) := FR.J (FR.I (FR.refl _ w) rfl) rfl
  have a6 : (sJ (sI w 87 3 31) 87 6 0).2.1 87 6 = 0 := sJ_same _ _ _ _
  have a2 : (sJ (sI w 87 3 31) 87 6 0).1 87 2 = w.1 87 2 := by
    show (sI w 87 3 31).1 87 2 = w.1 87 2
    exact sI_ne _ _ _ _ _ (by decide)
  have a3 : ((sJ (sI w 87 3 31) 87 6 0).1 87 3).toInt = 31 := by
    show ((sI w 87 3 31).1 87 3).toInt = 31
    rw [sI_same]
    decide
  have z0 : (0 : Int64).toInt = 0 := by decide
  refine Eq.mpr (p_Rd_scanNumber.eq_1 _ _) ?_
  generalize (sJ (sI w 87 3 31) 87 6 0) = w1 at *
  have r1 : w1.2.2 87 0 = some 1 := ((F1 87 0 rfl).2.2).trans hr
  have ec : cf w1 = cf w := cf_fr F1 rfl
  refine sn_13 (w0 := w1) r1 (fun w8 B8 F8 e6 e2 t0 t1 => ?_) FU 0 w1 B1 (FR.refl _ w1) (Nat.zero_le _) (by rw [a6, z0]; decide) (by rw [a6, z0]; decide) (by rw [a6, z0]) rfl (fu_lt (by decide))
  rw [a2, ec] at e2
  rw [ec, a2] at e6 t0 t1
  have hd : (w8.1 87 2).toInt = dge (cf w) (w.1 87 2).toInt := e2.trans rfl
  have e6' : (w8.2.1 87 6).toInt = vlu 0 (dgl (cf w) 9 (w.1 87 2).toInt) := e6
  have F18 : FR lsnm w w8 := F1.tr F8 rfl
  have eM := li_mul (Eq.refl (w8.2.1 87 6).toInt) (show (1000 : Int64).toInt = 1000 by decide) (by omega) (by omega)
  have B9 : BND (sJ w8 87 6 ((w8.2.1 87 6) * (1000 : Int64))) := B8
  have F9 : FR lsnm w (sJ w8 87 6 ((w8.2.1 87 6) * (1000 : Int64))) := FR.J F18 rfl
  have c6 : (sJ w8 87 6 ((w8.2.1 87 6) * (1000 : Int64))).2.1 87 6 = (w8.2.1 87 6) * (1000 : Int64) := sJ_same _ _ _ _
  have c2 : (sJ w8 87 6 ((w8.2.1 87 6) * (1000 : Int64))).1 87 2 = w8.1 87 2 := rfl
  have c3 : ((sJ w8 87 6 ((w8.2.1 87 6) * (1000 : Int64))).1 87 3).toInt = 31 := by
    show (w8.1 87 3).toInt = 31
    rw [(F8 87 3 rfl).1]
    exact a3
  refine ⟨((F18 87 0 rfl).2.2).trans hr, at_x B9 ?_⟩
  rw [← c2]
  generalize (sJ w8 87 6 ((w8.2.1 87 6) * (1000 : Int64))) = w9 at *
  have r9 : w9.2.2 87 0 = some 1 := ((F9 87 0 rfl).2.2).trans hr
  have ec9 : cf w9 = cf w := cf_fr F9 rfl
  have v9 : (cv w9 (w9.1 87 2)).toInt = cf w (dge (cf w) (w.1 87 2).toInt) := by rw [cv_cf, ec9, c2, hd]
  have d2 : (w9.1 87 2).toInt = dge (cf w) (w.1 87 2).toInt := by rw [c2]; exact hd
  have n6 : (w9.2.1 87 6).toInt = vlu 0 (dgl (cf w) 9 (w.1 87 2).toInt) * 1000 := by rw [c6, eM, e6']
  have t0' : 0 ≤ vlu 0 (dgl (cf w) 9 (w.1 87 2).toInt) := t0
  have t1' : vlu 0 (dgl (cf w) 9 (w.1 87 2).toInt) < 1000000000 := t1
  have b2 := bd_87_2 B9
  have no : dgp (cf w) (w.1 87 2).toInt = false → q_Rd_scanNumber_154 0 (w9.1 87 2) (sI w9 87 7 0) Q := fun np => by
    have B10 : BND (sI (sI w9 87 7 0) 87 2 ((w9.1 87 2) + (0 : Int32))) := wbd_87_2 (wbd_87_7 B9 (by decide) (by decide)) (by rw [Int32.add_zero]; exact b2.1) (by rw [Int32.add_zero]; exact b2.2)
    have F10 : FR lsnm w (sI (sI w9 87 7 0) 87 2 ((w9.1 87 2) + (0 : Int32))) := FR.I (FR.I F9 rfl) rfl
    have g2 : (sI (sI w9 87 7 0) 87 2 ((w9.1 87 2) + (0 : Int32))).1 87 2 = w9.1 87 2 := by rw [sI_same, Int32.add_zero]
    have g7 : ((sI (sI w9 87 7 0) 87 2 ((w9.1 87 2) + (0 : Int32))).1 87 7).toInt = 0 := by rw [sI_ne _ _ _ _ _ (by decide), sI_same]; exact i_0
    have g3 : ((sI (sI w9 87 7 0) 87 2 ((w9.1 87 2) + (0 : Int32))).1 87 3).toInt = 31 := by rw [sI_ne _ _ _ _ _ (by decide), sI_ne _ _ _ _ _ (by decide)]; exact c3
    have g6 : ((sI (sI w9 87 7 0) 87 2 ((w9.1 87 2) + (0 : Int32))).2.1 87 6).toInt = vlu 0 (dgl (cf w) 9 (w.1 87 2).toInt) * 1000 := n6
    have s7 : ((sI w9 87 7 0).1 87 7).toInt = 0 := by rw [sI_same]; exact i_0
    refine Eq.mpr (q_Rd_scanNumber_154.eq_1 _ _ _ _) ⟨fun _ => ?_, fun z => absurd s7 z⟩
    generalize (sI (sI w9 87 7 0) 87 2 ((w9.1 87 2) + (0 : Int32))) = w10 at *
    have r10 : w10.2.2 87 0 = some 1 := ((F10 87 0 rfl).2.2).trans hr
    refine sn_172 (w0 := w10) r10 (fun w' B' F' f6 f2 => hQ w' B' (F10.tr F' rfl) ?_ ?_ (by rw [(F' 87 3 rfl).1]; exact g3) ?_) FU 0 0 w10 (Or.inr (Or.inr (Or.inr ⟨rfl, rfl⟩))) B10 (FR.refl _ w10) (by rw [g6]; omega) (by rw [g6]; omega) rfl rfl (fu_lt (by decide))
    · rw [f6, g6]
      unfold dgz dgf
      rw [if_neg (nt np)]
      rfl
    · rw [f2, g2, d2]
      unfold dgn
      rw [if_neg (nt np)]
      show _ + ((0 : Nat) : Int) = _
      omega
    · rw [(F' 87 7 rfl).1, g7, if_neg (nt np)]
  refine ⟨fun z => no ?_, fun z => ⟨r9, at_x B9 ?_⟩⟩
  · unfold dgp
    rw [v9] at z
    exact decide_eq_false (fun q => z q.1)
  · have z0' := Classical.not_not.mp z
    rw [v9] at z0'
    have lt := cf_lt (w := w) (p := dge (cf w) (w.1 87 2).toInt) (by rw [z0']; decide)
    have en : w9.1 1 2 = w.1 1 2 := (F9 1 2 rfl).1
    have bn := bd_1_2 hI
    have s := ti_add2 (Eq.refl (w9.1 87 2).toInt) i_1 (by omega) (by omega)
    have v10 : (cv w9 ((w9.1 87 2) + (1 : Int32))).toInt = cf w (dge (cf w) (w.1 87 2).toInt + 1) := by rw [cv_cf, ec9, s, d2]
    refine pd_x (fun d => ⟨fun q => absurd q i1n, fun _ => ?_⟩) (fun d => ⟨fun _ => no ?_, fun q => absurd i_0 q⟩)
    · rw [v10] at d
      have yes : dgp (cf w) (w.1 87 2).toInt = true := decide_eq_true ⟨z0', d⟩
      have B10 : BND (sI (sI w9 87 7 1) 87 2 ((w9.1 87 2) + (1 : Int32))) := wbd_87_2 (wbd_87_7 B9 (by decide) (by decide)) (by omega) (by omega)
      have F10 : FR lsnm w (sI (sI w9 87 7 1) 87 2 ((w9.1 87 2) + (1 : Int32))) := FR.I (FR.I F9 rfl) rfl
      have g2 : (sI (sI w9 87 7 1) 87 2 ((w9.1 87 2) + (1 : Int32))).1 87 2 = (w9.1 87 2) + (1 : Int32) := sI_same _ _ _ _
      have g7 : ((sI (sI w9 87 7 1) 87 2 ((w9.1 87 2) + (1 : Int32))).1 87 7).toInt = 1 := by rw [sI_ne _ _ _ _ _ (by decide), sI_same]; exact i_1
      have g3 : ((sI (sI w9 87 7 1) 87 2 ((w9.1 87 2) + (1 : Int32))).1 87 3).toInt = 31 := by rw [sI_ne _ _ _ _ _ (by decide), sI_ne _ _ _ _ _ (by decide)]; exact c3
      have g6 : ((sI (sI w9 87 7 1) 87 2 ((w9.1 87 2) + (1 : Int32))).2.1 87 6).toInt = vlu 0 (dgl (cf w) 9 (w.1 87 2).toInt) * 1000 := n6
      have s7 : ¬ ((sI w9 87 7 1).1 87 7).toInt = 0 := by rw [sI_same]; decide
      refine Eq.mpr (q_Rd_scanNumber_154.eq_1 _ _ _ _) ⟨fun z => absurd z s7, fun _ => ?_⟩
      generalize (sI (sI w9 87 7 1) 87 2 ((w9.1 87 2) + (1 : Int32))) = w10 at *
      have r10 : w10.2.2 87 0 = some 1 := ((F10 87 0 rfl).2.2).trans hr
      have ec10 : cf w10 = cf w := cf_fr F10 rfl
      refine sn_172 (w0 := w10) r10 (fun w' B' F' f6 f2 => hQ w' B' (F10.tr F' rfl) ?_ ?_ (by rw [(F' 87 3 rfl).1]; exact g3) ?_) FU 3 100 w10 (Or.inl ⟨rfl, rfl⟩) B10 (FR.refl _ w10) (by rw [g6]; omega) (by rw [g6]; omega) rfl rfl (fu_lt (by decide))
      · rw [f6, g6, g2, s, d2, ec10]
        unfold dgz dgf
        rw [if_pos yes]
        rfl
      · rw [f2, g2, s, d2, ec10]
        unfold dgn
        rw [if_pos yes]
      · rw [(F' 87 7 rfl).1, g7, if_pos yes]
    · rw [v10] at d
      unfold dgp
      exact decide_eq_false (fun q => absurd q.2 (nt d))
/-- the word t stands in the reader -/
def TkC (w : MW) (t : Tk) : Prop := (w.1 87 3).toInt = t.1 ∧ (w.1 87 4).toInt = t.2.1 ∧ (w.1 87 2).toInt = t.2.2.1 ∧ (t.1 ≤ 30 → (w.2.1 87 5).toInt = cod 0 t.2.2.2.1) ∧ (t.1 = 31 → (w.2.1 87 6).toInt = t.2.2.2.2.1 ∧ (w.1 87 7).toInt = (if t.2.2.2.2.2 = true then 1 else 0))
/-- what stands in 'wrong' behind the word t -/
def WrC (w w' : MW) (t : Tk) : Prop := (w'.1 87 9).toInt = (if t.1 = 33 ∧ ¬ 0 ≤ (w.1 87 9).toInt then t.2.1 else (w.1 87 9).toInt)
def lpw : Pl := [(87, some 2), (87, some 3), (87, some 4), (87, some 5), (87, some 6), (87, some 7), (87, some 9)]
theorem pn_0 {w0 : MW} {T : Int} {E Q : MW → Prop} (hr : w0.2.2 87 0 = some 1) (hE : ∀ w', BND w' → FR [(87, some 2)] w0 w' → (w'.1 87 2).toInt = T → E w') (m : Nat) : ∀ w : MW, BND w → FR [(87, some 2)] w0 w → skp (cf w0) (w0.1 1 2).toInt 4001 (w.1 87 2).toInt = T → (4001 - (w.1 87 2).toInt).toNat < m → q_Rd_nextWord_0 E Q m w := by
  induction m with
  | zero => intros; omega
  | succ m ih =>
    intro w hB hF hT hm
    have b12 := bd_87_2 hB
    have en : w.1 1 2 = w0.1 1 2 := (hF 1 2 rfl).1
    have ec : cf w = cf w0 := cf_fr hF rfl
    have b2 := bd_1_2 hB
    have rr : w.2.2 87 0 = some 1 := ((hF 87 0 rfl).2.2).trans hr
    rw [q_Rd_nextWord_0.eq_2]
    rw [en] at b2 ⊢
    refine ⟨rr, fun c => hE w hB hF ?_, fun c => ⟨rr, at_x hB ?_⟩⟩
    · rw [skp_n 4001 (fun z => by have := z.1; omega)] at hT
      exact hT
    · have v := cv_cf w (w.1 87 2)
      rw [ec] at v
      refine ib_x (fun d => ⟨fun z => absurd z (by decide), fun _ => ?_⟩) (fun d => ⟨fun _ => hE w hB hF ?_, fun z => absurd i_0 z⟩)
      · rw [v] at d
        have s := ti_add2 (Eq.refl (w.1 87 2).toInt) i_1 (by omega) (by omega)
        refine ih _ (wbd_87_2 hB (by omega) (by omega)) (FR.I hF rfl) ?_ ?_
        · rw [sI_same, s, ← skp_1 (by omega) ⟨by omega, d⟩]
          exact hT
        · rw [sI_same, s]
          omega
      · rw [v] at d
        rw [skp_n 4001 (fun z => by rw [d] at z; exact absurd z.2 (by decide))] at hT
        exact hT
theorem rf_x {w : MW} {a : Int32} {Q : MW → Prop} (hI : BND w) (hQ : ∀ w', BND w' → FR [(87, some 3), (87, some 4), (87, some 9)] w w' → (w'.1 87 3).toInt = 33 → w'.1 87 4 = a → (w'.1 87 9).toInt = (if ¬ 0 ≤ (w.1 87 9).toInt then a.toInt else (w.1 87 9).toInt) → Q w') : p_Rd_refuseByte w a Q := by
  have B1 : BND (sI (sI w 87 3 33) 87 4 a) := wbd_87_4 (wbd_87_3 hI)
  have F1 : FR [(87, some 3), (87, some 4), (87, some 9)] w (sI (sI w 87 3 33) 87 4 a) := FR.I (FR.I (FR.refl _ w) rfl) rfl
  have a3 : ((sI (sI w 87 3 33) 87 4 a).1 87 3).toInt = 33 := by rw [sI_ne _ _ _ _ _ (by decide), sI_same]; decide
  have a4 : (sI (sI w 87 3 33) 87 4 a).1 87 4 = a := sI_same _ _ _ _
  have a9 : (sI (sI w 87 3 33) 87 4 a).1 87 9 = w.1 87 9 := by rw [sI_ne _ _ _ _ _ (by decide), sI_ne _ _ _ _ _ (by decide)]
  refine Eq.mpr (p_Rd_refuseByte.eq_1 _ _ _) (Eq.mpr (p_Rd_fail.eq_1 _ _) ⟨fun c => ?_, fun c => ?_⟩)
  · refine hQ _ B1 F1 a3 a4 ?_
    rw [a9] at c ⊢
    rw [if_neg (fun z => z c)]
  · refine hQ _ (wbd_87_9 B1) (FR.I F1 rfl) (by rw [sI_ne _ _ _ _ _ (by decide)]; exact a3) (by rw [sI_ne _ _ _ _ _ (by decide)]; exact a4) ?_
    rw [a9] at c
    rw [sI_same, a4, if_pos c]
/-- behind a word's letters or digits -/
theorem pn_144 {w : MW} {e : Int} {Q : MW → Prop} (hI : BND w) (hr : w.2.2 87 0 = some 1) (he : (w.1 87 2).toInt = e) (h0 : bd1 (cf w e) = false → Q w) (h1 : bd1 (cf w e) = true → ∀ w', BND w' → FR [(87, some 3), (87, some 4), (87, some 9)] w w' → (w'.1 87 3).toInt = 33 → (w'.1 87 4).toInt = e → (w'.1 87 9).toInt = (if ¬ 0 ≤ (w.1 87 9).toInt then e else (w.1 87 9).toInt) → Q w') : q_Rd_nextWord_144 w Q := by
  have v : (cv w (w.1 87 2)).toInt = cf w e := by rw [cv_cf, he]
  have bad : bd1 (cf w e) = true → p_Rd_refuseByte w (w.1 87 2) (fun w24 => Q w24) := fun b => rf_x hI (fun w' B' F' a3 a4 a9 => h1 b w' B' F' a3 (by rw [a4]; exact he) (by rw [he] at a9; exact a9))
  refine Eq.mpr (q_Rd_nextWord_144.eq_1 _ _) ⟨hr, at_x hI (pl_x (fun d => ⟨fun _ => bad (bd1_t.mpr (Or.inl (Or.inl (by rw [← v]; exact lt1_t.mp d)))), fun q => absurd i1n q⟩) (fun d => ⟨fun q => absurd i_0 q, fun _ => pd_x (fun d2 => ⟨fun _ => bad (bd1_t.mpr (Or.inl (Or.inr (by rw [← v]; exact dg1_t.mp d2)))), fun q => absurd i1n q⟩) (fun d2 => ⟨fun q => absurd i_0 q, fun _ => ⟨fun z => h0 (bd1_f.mpr ⟨⟨by rw [← v]; exact lt1_f.mp d, by rw [← v]; exact dg1_f.mp d2⟩, by rw [← v]; exact z⟩), fun z => bad (bd1_t.mpr (Or.inr (by rw [← v]; exact Classical.not_not.mp z)))⟩⟩)⟩))⟩
theorem pnw_x {w : MW} {p : Int} {Q : MW → Prop} (hI : BND w) (hr : w.2.2 87 0 = some 1) (hK : KWc w) (hp : (w.1 87 2).toInt = p) (p1 : p ≤ (w.1 1 2).toInt) (hQ : ∀ w', BND w' → FR lpw w w' → TkC w' (wrd (cf w) (w.1 1 2).toInt p) → WrC w w' (wrd (cf w) (w.1 1 2).toInt p) → Q w') : p_Rd_nextWord w Q := by
  have b2 := bd_87_2 hI
  have bn := bd_1_2 hI
  refine Eq.mpr (p_Rd_nextWord.eq_1 _ _) (pn_0 (w0 := w) hr (fun w7 B7 F7 e7 => ?_) FU w hI (FR.refl _ w) rfl (fu_lt (by omega)))
  rw [hp] at e7
  have kb := skp_b (cf w) (w.1 1 2).toInt 4001 p
  have ew : wrd (cf w) (w.1 1 2).toInt p = wrq (cf w) (w.1 1 2).toInt (skp (cf w) (w.1 1 2).toInt 4001 p) := rfl
  rw [ew] at hQ
  have q1 := kb.2 p1
  have q0 := kb.1
  generalize skp (cf w) (w.1 1 2).toInt 4001 p = q at *
  have B8 : BND (sI w7 87 4 (w7.1 87 2)) := wbd_87_4 B7
  have F8 : FR lpw w (sI w7 87 4 (w7.1 87 2)) := FR.I (FR.tr (FR.refl _ w) F7 rfl) rfl
  have a2 : (sI w7 87 4 (w7.1 87 2)).1 87 2 = w7.1 87 2 := sI_ne _ _ _ _ _ (by decide)
  have a4 : ((sI w7 87 4 (w7.1 87 2)).1 87 4).toInt = q := by rw [sI_same]; exact e7
  have a9 : (sI w7 87 4 (w7.1 87 2)).1 87 9 = w.1 87 9 := by rw [sI_ne _ _ _ _ _ (by decide)]; exact (F7 87 9 rfl).1
  refine ⟨((F7 87 0 rfl).2.2).trans hr, at_x B8 ?_⟩
  have e2 : ((sI w7 87 4 (w7.1 87 2)).1 87 2).toInt = q := by rw [a2]; exact e7
  generalize (sI w7 87 4 (w7.1 87 2)) = w8 at *
  rw [← a2]
  have r8 : w8.2.2 87 0 = some 1 := ((F8 87 0 rfl).2.2).trans hr
  have en : w8.1 1 2 = w.1 1 2 := (F8 1 2 rfl).1
  have ec : cf w8 = cf w := cf_fr F8 rfl
  have v : (cv w8 (w8.1 87 2)).toInt = cf w q := by rw [cv_cf, ec, e2]
  have K8 : KWc w8 := fun i k hk => by rw [(F8 90 i rfl).2.1]; exact hK i k hk
  refine ⟨r8, fun c => ?_, fun c => ?_⟩
  · rw [en, e2] at c
    have nq : ¬ (w.1 1 2).toInt ≤ q := by omega
    refine pl_x (fun d => ⟨fun z => absurd z i1n, fun _ => ?_⟩) (fun d => ⟨fun _ => pd_x (fun d2 => ⟨fun z => absurd z i1n, fun _ => ?_⟩) (fun d2 => ⟨fun _ => ?_, fun z => absurd i_0 z⟩), fun z => absurd i_0 z⟩)
    · rw [v] at d
      have ew : wrq (cf w) (w.1 1 2).toInt q = wrL (cf w) q := by
        unfold wrq
        rw [if_neg nq, if_pos d]
      rw [ew] at hQ
      refine sl_x B8 r8 K8 (fun w9 B9 F9 f5 f2 f3 => ?_)
      rw [ec, e2] at f5 f2 f3
      have F19 : FR lpw w w9 := F8.tr F9 rfl
      have g4 : (w9.1 87 4).toInt = q := by rw [(F9 87 4 rfl).1]; exact a4
      have g9 : w9.1 87 9 = w.1 87 9 := ((F9 87 9 rfl).1).trans a9
      have ec9 : cf w9 = cf w := cf_fr F19 rfl
      have kb := kwd_b (lts (cf w) 12 q)
      refine pn_144 B9 (((F19 87 0 rfl).2.2).trans hr) f2 (fun b => ?_) (fun b w' B' F' h3 h4 h9 => ?_)
      · rw [ec9] at b
        have e : wrL (cf w) q = (kwd (lts (cf w) 12 q), q, q + ((lts (cf w) 12 q).length : Int), lts (cf w) 12 q, 0, false) := by
          unfold wrL
          rw [if_neg (nt b)]
        rw [e] at hQ
        refine hQ w9 B9 F19 ⟨f3, g4, f2, fun _ => f5, fun z => ?_⟩ ?_
        · have z' : kwd (lts (cf w) 12 q) = 31 := z
          omega
        · unfold WrC
          rw [if_neg (fun z => by have z' : kwd (lts (cf w) 12 q) = 33 := z.1; omega), g9]
      · rw [ec9] at b
        have e : wrL (cf w) q = (33, q + ((lts (cf w) 12 q).length : Int), q + ((lts (cf w) 12 q).length : Int), lts (cf w) 12 q, 0, false) := by
          unfold wrL
          rw [if_pos b]
        rw [e] at hQ
        refine hQ w' B' (F19.tr F' rfl) ⟨h3, h4, by rw [(F' 87 2 rfl).1]; exact f2, fun z => absurd z (by show ¬ (33 : Int) ≤ 30; decide), fun z => absurd z (by show ¬ (33 : Int) = 31; decide)⟩ ?_
        unfold WrC
        rw [h9, g9]
        by_cases z : 0 ≤ (w.1 87 9).toInt
        · rw [if_neg (fun y => y z), if_neg (fun y => y.2 z)]
        · rw [if_pos z, if_pos ⟨rfl, z⟩]
    · rw [v] at d d2
      have ew : wrq (cf w) (w.1 1 2).toInt q = wrN (cf w) q := by
        unfold wrq
        rw [if_neg nq, if_neg (nt d), if_pos d2]
      rw [ew] at hQ
      refine snu_x B8 r8 (fun w9 B9 F9 f6 f2 f3 f7 => ?_)
      rw [ec, e2] at f6 f2 f7
      have F19 : FR lpw w w9 := F8.tr F9 rfl
      have g4 : (w9.1 87 4).toInt = q := by rw [(F9 87 4 rfl).1]; exact a4
      have g9 : w9.1 87 9 = w.1 87 9 := ((F9 87 9 rfl).1).trans a9
      have ec9 : cf w9 = cf w := cf_fr F19 rfl
      refine pn_144 B9 (((F19 87 0 rfl).2.2).trans hr) f2 (fun b => ?_) (fun b w' B' F' h3 h4 h9 => ?_)
      · rw [ec9] at b
        have e : wrN (cf w) q = (31, q, dgn (cf w) q, [], dgz (cf w) q, dgp (cf w) q) := by
          unfold wrN
          rw [if_neg (nt b)]
        rw [e] at hQ
        refine hQ w9 B9 F19 ⟨f3, g4, f2, fun z => absurd z (by show ¬ (31 : Int) ≤ 30; decide), fun _ => ⟨f6, f7⟩⟩ ?_
        unfold WrC
        rw [if_neg (fun z => absurd z.1 (by show ¬ (31 : Int) = 33; decide)), g9]
      · rw [ec9] at b
        have e : wrN (cf w) q = (33, dgn (cf w) q, dgn (cf w) q, [], dgz (cf w) q, dgp (cf w) q) := by
          unfold wrN
          rw [if_pos b]
        rw [e] at hQ
        refine hQ w' B' (F19.tr F' rfl) ⟨h3, h4, by rw [(F' 87 2 rfl).1]; exact f2, fun z => absurd z (by show ¬ (33 : Int) ≤ 30; decide), fun z => absurd z (by show ¬ (33 : Int) = 31; decide)⟩ ?_
        unfold WrC
        rw [h9, g9]
        by_cases z : 0 ≤ (w.1 87 9).toInt
        · rw [if_neg (fun y => y z), if_neg (fun y => y.2 z)]
        · rw [if_pos z, if_pos ⟨rfl, z⟩]
    · rw [v] at d d2
      have s := ti_add2 e2 i_1 (by omega) (by omega)
      have B9 : BND (sI (sI w8 87 3 (cv w8 (w8.1 87 2))) 87 2 ((w8.1 87 2) + (1 : Int32))) := wbd_87_2 (wbd_87_3 B8) (by omega) (by omega)
      have F9 : FR lpw w (sI (sI w8 87 3 (cv w8 (w8.1 87 2))) 87 2 ((w8.1 87 2) + (1 : Int32))) := FR.I (FR.I F8 rfl) rfl
      have g2 : ((sI (sI w8 87 3 (cv w8 (w8.1 87 2))) 87 2 ((w8.1 87 2) + (1 : Int32))).1 87 2).toInt = q + 1 := by rw [sI_same]; exact s
      have g3 : ((sI (sI w8 87 3 (cv w8 (w8.1 87 2))) 87 2 ((w8.1 87 2) + (1 : Int32))).1 87 3).toInt = cf w q := by rw [sI_ne _ _ _ _ _ (by decide), sI_same]; exact v
      have g4 : ((sI (sI w8 87 3 (cv w8 (w8.1 87 2))) 87 2 ((w8.1 87 2) + (1 : Int32))).1 87 4).toInt = q := by rw [sI_ne _ _ _ _ _ (by decide), sI_ne _ _ _ _ _ (by decide)]; exact a4
      have g9 : (sI (sI w8 87 3 (cv w8 (w8.1 87 2))) 87 2 ((w8.1 87 2) + (1 : Int32))).1 87 9 = w.1 87 9 := by rw [sI_ne _ _ _ _ _ (by decide), sI_ne _ _ _ _ _ (by decide)]; exact a9
      generalize hw9 : (sI (sI w8 87 3 (cv w8 (w8.1 87 2))) 87 2 ((w8.1 87 2) + (1 : Int32))) = w9 at *
      refine pm_x (fun b => ⟨fun _ => ?_, fun z => absurd i1n z⟩) (fun b => ⟨fun z => absurd i_0 z, fun _ => ?_⟩)
      · rw [v] at b
        have ew : wrq (cf w) (w.1 1 2).toInt q = (cf w q, q, q + 1, [], 0, false) := by
          unfold wrq
          rw [if_neg nq, if_neg (nt d), if_neg (nt d2), if_pos b]
        rw [ew] at hQ
        have bb := mk1_t.mp b
        refine hQ w9 B9 F9 ⟨g3, g4, g2, fun z => ?_, fun z => ?_⟩ ?_
        · have z' : cf w q ≤ 30 := z
          omega
        · have z' : cf w q = 31 := z
          omega
        · unfold WrC
          rw [if_neg (fun z => by have z' : cf w q = 33 := z.1; omega), g9]
      · rw [v] at b
        have ew : wrq (cf w) (w.1 1 2).toInt q = (33, q, q + 1, [], 0, false) := by
          unfold wrq
          rw [if_neg nq, if_neg (nt d), if_neg (nt d2), if_neg (nt b)]
        rw [ew] at hQ
        refine rf_x B9 (fun w' B' F' h3 h4 h9 => hQ w' B' (F9.tr F' rfl) ⟨h3, by rw [h4]; exact g4, by rw [(F' 87 2 rfl).1]; exact g2, fun z => absurd z (by show ¬ (33 : Int) ≤ 30; decide), fun z => absurd z (by show ¬ (33 : Int) = 31; decide)⟩ ?_)
        unfold WrC
        rw [h9, g9, g4]
        by_cases z : 0 ≤ (w.1 87 9).toInt
        · rw [if_neg (fun y => y z), if_neg (fun y => y.2 z)]
        · rw [if_pos z, if_pos ⟨rfl, z⟩]
  · rw [en, e2] at c
    have ew : wrq (cf w) (w.1 1 2).toInt q = (32, q, q, [], 0, false) := by
      unfold wrq
      rw [if_pos (by omega)]
    rw [ew] at hQ
    refine hQ _ (wbd_87_3 B8) (FR.I F8 rfl) ⟨by rw [sI_same]; rfl, by rw [sI_ne _ _ _ _ _ (by decide)]; exact a4, by rw [sI_ne _ _ _ _ _ (by decide)]; exact e2, fun z => absurd z (by show ¬ (32 : Int) ≤ 30; decide), fun z => absurd z (by show ¬ (32 : Int) = 31; decide)⟩ ?_
    unfold WrC
    rw [if_neg (fun z => absurd z.1 (by show ¬ (32 : Int) = 33; decide)), sI_ne _ _ _ _ _ (by decide), a9]
/-! the reference reads a word of a program -/
/-- the reference's text is f within n; f is -1 elsewhere -/
def TXm (w : MW) (f : Int → Int) (n : Int) : Prop := (w.1 129 1).toInt = n ∧ n ≤ 4000 ∧ (∀ p : Nat, (p : Int) < n → (w.1 130 p).toInt = f p) ∧ ∀ p : Int, ¬ (0 ≤ p ∧ p < n) → f p = -1
theorem txm_fr {l : Pl} {w w' : MW} {f : Int → Int} {n : Int} (h : TXm w f n) (hF : FR l w w') (ho : off l [(129, some 1), (130, none)] = true) : TXm w' f n :=
  ⟨by rw [(hF 129 1 (off_hit ho rfl)).1]; exact h.1, h.2.1, fun p hp => by rw [(hF 130 p (off_hit ho rfl)).1]; exact h.2.2.1 p hp, h.2.2.2⟩
def ag0 (y c : Int) : Prop := y = c ∨ (y = 0 ∧ c = -1)
theorem ta_x {w : MW} {f : Int → Int} {n p : Int} {P : Int32} {Q : Int32 → MW → Prop} (h : TXm w f n) (hP : P.toInt = p) (p0 : 0 ≤ p) (hQ : ∀ y : Int32, ag0 y.toInt (f p) → Q y w) : p_Tx_at w P Q := by
  have n4 := h.2.1
  have e1 := h.1
  refine Eq.mpr (p_Tx_at.eq_1 _ _ _) ⟨fun c => hQ 0 (Or.inr ⟨i_0, h.2.2.2 p (by omega)⟩), fun c => ⟨by omega, hQ _ (Or.inl ?_)⟩⟩
  have t := h.2.2.1 P.toInt.toNat (by omega)
  rw [show ((P.toInt.toNat : Nat) : Int) = p by omega] at t
  exact t
theorem ml_x {w : MW} {y : Int32} {c : Int} {Q : Int32 → MW → Prop} (a : ag0 y.toInt c) (h1 : lt1 c = true → Q 1 w) (h0 : lt1 c = false → Q 0 w) : p_Tx_isLetter w y Q := by
  have a' : y.toInt = c ∨ (y.toInt = 0 ∧ c = -1) := a
  exact Eq.mpr (p_Tx_isLetter.eq_1 _ _ _) ⟨fun d => h0 (lt1_f.mpr (by omega)), fun d => ⟨fun d2 => h0 (lt1_f.mpr (by omega)), fun d2 => h1 (lt1_t.mpr (by omega))⟩⟩
theorem md_x {w : MW} {y : Int32} {c : Int} {Q : Int32 → MW → Prop} (a : ag0 y.toInt c) (h1 : dg1 c = true → Q 1 w) (h0 : dg1 c = false → Q 0 w) : p_Tx_isDigit w y Q := by
  have a' : y.toInt = c ∨ (y.toInt = 0 ∧ c = -1) := a
  exact Eq.mpr (p_Tx_isDigit.eq_1 _ _ _) ⟨fun d => h0 (dg1_f.mpr (by omega)), fun d => ⟨fun d2 => h0 (dg1_f.mpr (by omega)), fun d2 => h1 (dg1_t.mpr (by omega))⟩⟩
/-- letters as bytes of a number, the first lowest -/
def pkl : List Int → Int
  | [] => 0
  | c :: l => c + 256 * pkl l
theorem pkl_0 : ∀ l : List Int, (∀ c ∈ l, 1 ≤ c ∧ c ≤ 127) → 0 ≤ pkl l := by
  intro l
  induction l with
  | nil => exact fun _ => Int.le_refl _
  | cons c l ih =>
    intro h
    have a := h c List.mem_cons_self
    have b := ih (fun d hd => h d (List.mem_cons_of_mem _ hd))
    show 0 ≤ c + 256 * pkl l
    omega
/-- the letters l stand from begin to end -/
def SgM (w : MW) (b : Nat) (l : List Int) : Prop := (w.1 129 5).toInt = (b : Int) ∧ (w.1 129 6).toInt = ((b + l.length : Nat) : Int) ∧ b + l.length ≤ 4000 ∧ ∀ (i : Nat) (c : Int), l[i]? = some c → (w.1 130 (b + i)).toInt = c
theorem isk_8 {w : MW} {b : Nat} {l : List Int} {Q : Int32 → MW → Prop} (hs : SgM w b l) (m : Nat) : ∀ (L : List Int) (j : Nat) (x : Int64), j ≤ l.length → x.toInt = pkl L → (∀ c ∈ L, 1 ≤ c ∧ c ≤ 127) → (l.drop j = L → Q 1 w) → (¬ l.drop j = L → Q 0 w) → L.length < m → q_Tx_is_8 (fun (e8_3_5 : Int32) (w5 : MW) => ((¬ e8_3_5.toInt = (w5.1 129 6).toInt → (Q 0 w5)) ∧ (¬ (¬ e8_3_5.toInt = (w5.1 129 6).toInt) → (Q 1 w5)))) Q m (nI (b + j)) x w := by
  induction m with
  | zero => intros; omega
  | succ m ih =>
    intro L j x hj hx hL h1 h0 hm
    have b4 := hs.2.2.1
    have e6 := hs.2.1
    have ti : (nI (b + j)).toInt = ((b + j : Nat) : Int) := nI_toInt (by omega)
    have tn : (nI (b + j)).toInt.toNat = b + j := by omega
    rw [q_Tx_is_8.eq_2, tn]
    cases L with
    | nil =>
      have x0 : x = 0 := Int64.toInt_inj.mp hx
      refine ⟨fun _ => ⟨fun z => h0 (fun e => ?_), fun z => h1 ?_⟩, fun z => absurd (lg0.mpr x0) z⟩
      · have el : l.length ≤ j := List.drop_eq_nil_iff.mp e
        omega
      · have z' := Classical.not_not.mp z
        exact List.drop_eq_nil_iff.mpr (by omega)
    | cons c L =>
      have c1 := hL c List.mem_cons_self
      have p0 := pkl_0 L (fun d hd => hL d (List.mem_cons_of_mem _ hd))
      have hx' : x.toInt = c + 256 * pkl L := hx
      have nz : ¬ (lg_cmp x (0 : Int64)).toInt = 0 := fun z => by
        have t := lg0.mp z
        rw [t] at hx'
        have : (0 : Int64).toInt = 0 := by decide
        omega
      refine ⟨fun z => absurd z nz, fun _ => ⟨fun z => h0 (fun e => ?_), fun z => ⟨by omega, ?_⟩⟩⟩
      · rw [List.drop_eq_nil_iff.mpr (by omega)] at e
        cases e
      · have jl : j < l.length := by omega
        have g := hs.2.2.2 j _ (List.getElem?_eq_getElem jl)
        have ed : l.drop j = l[j] :: l.drop (j + 1) := List.drop_eq_getElem_cons jl
        have em : (Int64.toInt32 (x &&& (255 : Int64))).toInt = c := by rw [nb_l255 x (by omega)]; omega
        have es : ((x.toUInt64 >>> ((8 : Int32).toInt64.toUInt64 &&& Int64.toUInt64 63)).toInt64).toInt = pkl L := by rw [nb_lushr8 x (by omega)]; omega
        rw [g, em]
        refine ⟨fun y => ?_, fun y => h0 (fun e => ?_)⟩
        · rw [nI_1]
          refine ih L (j + 1) _ (by omega) es (fun d hd => hL d (List.mem_cons_of_mem _ hd)) (fun e => h1 (by rw [ed, e, y])) (fun e => h0 (fun q => e ?_)) (by rw [List.length_cons] at hm; omega)
          rw [ed] at q
          injection q with _ q
        · rw [ed] at e
          injection e with e _
          exact y e
theorem ti_x {w : MW} {b : Nat} {l : List Int} {Q : Int32 → MW → Prop} (hs : SgM w b l) (K : Int64) (L : List Int) (hK : K.toInt = pkl L) (hL : ∀ c ∈ L, 1 ≤ c ∧ c ≤ 127) (hn : L.length < 100) (h1 : l = L → Q 1 w) (h0 : ¬ l = L → Q 0 w) : p_Tx_is w K Q := by
  have e5 : w.1 129 5 = nI (b + 0) := by
    have t := nI_tn (a := w.1 129 5) (by rw [hs.1]; omega)
    rw [hs.1] at t
    exact t.symm
  refine Eq.mpr (p_Tx_is.eq_1 _ _ _) ?_
  rw [e5]
  exact isk_8 hs FU L 0 K (Nat.zero_le _) hK hL (fun e => h1 e) (fun e => h0 e) (Nat.lt_of_lt_of_le hn (Nat.le_of_lt (fu_lt (by decide))))
def mfew (l : List Int) : Int := if l = [115, 101, 116] then 10 else if l = [119, 97, 105, 116] then 11 else if l = [117, 110, 116, 105, 108] then 12 else if l = [114, 97, 109, 112] then 13 else if l = [112, 97, 114] then 14 else if l = [105, 102] then 15 else if l = [114, 101, 112, 101, 97, 116] then 16 else if l = [108, 105, 109, 105, 116] then 17 else -1
def mmor (l : List Int) : Int := if l = [97, 115, 107] then 18 else if l = [100, 111] then 19 else if l = [115, 116, 111, 112] then 20 else if l = [104, 111, 108, 100] then 21 else if l = [97, 99, 116] then 22 else if l = [115, 116, 101, 112] then 24 else if l = [115, 105, 103, 110, 97, 108] then 30 else if l = [111, 117, 116, 112, 117, 116] then 31 else if l = [105, 110] then 32 else -1
def mres (l : List Int) : Int := if l = [101, 108, 115, 101] then 33 else if l = [116, 104, 101, 110] then 34 else if l = [108] then 40 else if l = [99] then 41 else if l = [115] then 42 else if l = [98, 97, 114] then 43 else if l = [112, 97, 114, 116] then 44 else if l = [109, 105, 110] then 45 else if l = [104] then 46 else -1
def mmn (l : List Int) : Int := if mfew l = -1 then (if mmor l = -1 then mres l else mmor l) else mfew l
/-- the reference's number of a word -/
def mng (k : Int) : Int := if k = 1 then 40 else if k = 2 then 41 else if k = 3 then 42 else if k = 4 then 43 else if k = 5 then 44 else if k = 6 then 45 else if k = 7 then 46 else if k = 8 then 30 else if k = 9 then 31 else if k = 10 then 24 else if k = 11 then 10 else if k = 12 then 11 else if k = 13 then 12 else if k = 14 then 13 else if k = 15 then 32 else if k = 16 then 14 else if k = 17 then 15 else if k = 18 then 33 else if k = 19 then 16 else if k = 20 then 17 else if k = 21 then 34 else if k = 22 then 18 else if k = 23 then 19 else if k = 24 then 20 else if k = 25 then 21 else if k = 26 then 22 else -1
theorem me_258 {w : MW} {b : Nat} {l : List Int} {x y : Int32} {Q : Int32 → MW → Prop} (hs : SgM w b l) (hQ : ∀ r : Int32, r.toInt = mres l → q_Tx_meaning_395 x y r w Q) : q_Tx_meaning_258 x y w Q :=
  Eq.mpr (q_Tx_meaning_258.eq_1 _ _ _ _) (ti_x hs 1702063205 [101, 108, 115, 101] (by decide) (by decide) (by decide) (fun e => ⟨fun z => absurd z i1n, fun _ => hQ 33 (by unfold mres; rw [if_pos e]; decide)⟩) (fun n0 => ⟨fun _ => ti_x hs 1852139636 [116, 104, 101, 110] (by decide) (by decide) (by decide) (fun e => ⟨fun z => absurd z i1n, fun _ => hQ 34 (by unfold mres; rw [if_neg n0, if_pos e]; decide)⟩) (fun n1 => ⟨fun _ => ti_x hs 108 [108] (by decide) (by decide) (by decide) (fun e => ⟨fun z => absurd z i1n, fun _ => hQ 40 (by unfold mres; rw [if_neg n0, if_neg n1, if_pos e]; decide)⟩) (fun n2 => ⟨fun _ => ti_x hs 99 [99] (by decide) (by decide) (by decide) (fun e => ⟨fun z => absurd z i1n, fun _ => hQ 41 (by unfold mres; rw [if_neg n0, if_neg n1, if_neg n2, if_pos e]; decide)⟩) (fun n3 => ⟨fun _ => ti_x hs 115 [115] (by decide) (by decide) (by decide) (fun e => ⟨fun z => absurd z i1n, fun _ => hQ 42 (by unfold mres; rw [if_neg n0, if_neg n1, if_neg n2, if_neg n3, if_pos e]; decide)⟩) (fun n4 => ⟨fun _ => ti_x hs 7496034 [98, 97, 114] (by decide) (by decide) (by decide) (fun e => ⟨fun z => absurd z i1n, fun _ => hQ 43 (by unfold mres; rw [if_neg n0, if_neg n1, if_neg n2, if_neg n3, if_neg n4, if_pos e]; decide)⟩) (fun n5 => ⟨fun _ => ti_x hs 1953653104 [112, 97, 114, 116] (by decide) (by decide) (by decide) (fun e => ⟨fun z => absurd z i1n, fun _ => hQ 44 (by unfold mres; rw [if_neg n0, if_neg n1, if_neg n2, if_neg n3, if_neg n4, if_neg n5, if_pos e]; decide)⟩) (fun n6 => ⟨fun _ => ti_x hs 7235949 [109, 105, 110] (by decide) (by decide) (by decide) (fun e => ⟨fun z => absurd z i1n, fun _ => hQ 45 (by unfold mres; rw [if_neg n0, if_neg n1, if_neg n2, if_neg n3, if_neg n4, if_neg n5, if_neg n6, if_pos e]; decide)⟩) (fun n7 => ⟨fun _ => ti_x hs 104 [104] (by decide) (by decide) (by decide) (fun e => ⟨fun z => absurd z i1n, fun _ => hQ 46 (by unfold mres; rw [if_neg n0, if_neg n1, if_neg n2, if_neg n3, if_neg n4, if_neg n5, if_neg n6, if_neg n7, if_pos e]; decide)⟩) (fun n8 => ⟨fun _ => hQ (-1) (by unfold mres; rw [if_neg n0, if_neg n1, if_neg n2, if_neg n3, if_neg n4, if_neg n5, if_neg n6, if_neg n7, if_neg n8]; decide), fun z => absurd i_0 z⟩), fun z => absurd i_0 z⟩), fun z => absurd i_0 z⟩), fun z => absurd i_0 z⟩), fun z => absurd i_0 z⟩), fun z => absurd i_0 z⟩), fun z => absurd i_0 z⟩), fun z => absurd i_0 z⟩), fun z => absurd i_0 z⟩))
theorem me_121 {w : MW} {b : Nat} {l : List Int} {x : Int32} {Q : Int32 → MW → Prop} (hs : SgM w b l) (hQ : ∀ r : Int32, r.toInt = mmor l → q_Tx_meaning_258 x r w Q) : q_Tx_meaning_121 x w Q :=
  Eq.mpr (q_Tx_meaning_121.eq_1 _ _ _) (ti_x hs 7041889 [97, 115, 107] (by decide) (by decide) (by decide) (fun e => ⟨fun z => absurd z i1n, fun _ => hQ 18 (by unfold mmor; rw [if_pos e]; decide)⟩) (fun n0 => ⟨fun _ => ti_x hs 28516 [100, 111] (by decide) (by decide) (by decide) (fun e => ⟨fun z => absurd z i1n, fun _ => hQ 19 (by unfold mmor; rw [if_neg n0, if_pos e]; decide)⟩) (fun n1 => ⟨fun _ => ti_x hs 1886352499 [115, 116, 111, 112] (by decide) (by decide) (by decide) (fun e => ⟨fun z => absurd z i1n, fun _ => hQ 20 (by unfold mmor; rw [if_neg n0, if_neg n1, if_pos e]; decide)⟩) (fun n2 => ⟨fun _ => ti_x hs 1684828008 [104, 111, 108, 100] (by decide) (by decide) (by decide) (fun e => ⟨fun z => absurd z i1n, fun _ => hQ 21 (by unfold mmor; rw [if_neg n0, if_neg n1, if_neg n2, if_pos e]; decide)⟩) (fun n3 => ⟨fun _ => ti_x hs 7627617 [97, 99, 116] (by decide) (by decide) (by decide) (fun e => ⟨fun z => absurd z i1n, fun _ => hQ 22 (by unfold mmor; rw [if_neg n0, if_neg n1, if_neg n2, if_neg n3, if_pos e]; decide)⟩) (fun n4 => ⟨fun _ => ti_x hs 1885697139 [115, 116, 101, 112] (by decide) (by decide) (by decide) (fun e => ⟨fun z => absurd z i1n, fun _ => hQ 24 (by unfold mmor; rw [if_neg n0, if_neg n1, if_neg n2, if_neg n3, if_neg n4, if_pos e]; decide)⟩) (fun n5 => ⟨fun _ => ti_x hs 119165719898483 [115, 105, 103, 110, 97, 108] (by decide) (by decide) (by decide) (fun e => ⟨fun z => absurd z i1n, fun _ => hQ 30 (by unfold mmor; rw [if_neg n0, if_neg n1, if_neg n2, if_neg n3, if_neg n4, if_neg n5, if_pos e]; decide)⟩) (fun n6 => ⟨fun _ => ti_x hs 128047746676079 [111, 117, 116, 112, 117, 116] (by decide) (by decide) (by decide) (fun e => ⟨fun z => absurd z i1n, fun _ => hQ 31 (by unfold mmor; rw [if_neg n0, if_neg n1, if_neg n2, if_neg n3, if_neg n4, if_neg n5, if_neg n6, if_pos e]; decide)⟩) (fun n7 => ⟨fun _ => ti_x hs 28265 [105, 110] (by decide) (by decide) (by decide) (fun e => ⟨fun z => absurd z i1n, fun _ => hQ 32 (by unfold mmor; rw [if_neg n0, if_neg n1, if_neg n2, if_neg n3, if_neg n4, if_neg n5, if_neg n6, if_neg n7, if_pos e]; decide)⟩) (fun n8 => ⟨fun _ => hQ (-1) (by unfold mmor; rw [if_neg n0, if_neg n1, if_neg n2, if_neg n3, if_neg n4, if_neg n5, if_neg n6, if_neg n7, if_neg n8]; decide), fun z => absurd i_0 z⟩), fun z => absurd i_0 z⟩), fun z => absurd i_0 z⟩), fun z => absurd i_0 z⟩), fun z => absurd i_0 z⟩), fun z => absurd i_0 z⟩), fun z => absurd i_0 z⟩), fun z => absurd i_0 z⟩), fun z => absurd i_0 z⟩))
theorem me_0 {w : MW} {b : Nat} {l : List Int} {Q : Int32 → MW → Prop} (hs : SgM w b l) (hQ : ∀ r : Int32, r.toInt = mfew l → q_Tx_meaning_121 r w Q) : p_Tx_meaning w Q :=
  Eq.mpr (p_Tx_meaning.eq_1 _ _) (ti_x hs 7628147 [115, 101, 116] (by decide) (by decide) (by decide) (fun e => ⟨fun z => absurd z i1n, fun _ => hQ 10 (by unfold mfew; rw [if_pos e]; decide)⟩) (fun n0 => ⟨fun _ => ti_x hs 1953063287 [119, 97, 105, 116] (by decide) (by decide) (by decide) (fun e => ⟨fun z => absurd z i1n, fun _ => hQ 11 (by unfold mfew; rw [if_neg n0, if_pos e]; decide)⟩) (fun n1 => ⟨fun _ => ti_x hs 465625706101 [117, 110, 116, 105, 108] (by decide) (by decide) (by decide) (fun e => ⟨fun z => absurd z i1n, fun _ => hQ 12 (by unfold mfew; rw [if_neg n0, if_neg n1, if_pos e]; decide)⟩) (fun n2 => ⟨fun _ => ti_x hs 1886216562 [114, 97, 109, 112] (by decide) (by decide) (by decide) (fun e => ⟨fun z => absurd z i1n, fun _ => hQ 13 (by unfold mfew; rw [if_neg n0, if_neg n1, if_neg n2, if_pos e]; decide)⟩) (fun n3 => ⟨fun _ => ti_x hs 7496048 [112, 97, 114] (by decide) (by decide) (by decide) (fun e => ⟨fun z => absurd z i1n, fun _ => hQ 14 (by unfold mfew; rw [if_neg n0, if_neg n1, if_neg n2, if_neg n3, if_pos e]; decide)⟩) (fun n4 => ⟨fun _ => ti_x hs 26217 [105, 102] (by decide) (by decide) (by decide) (fun e => ⟨fun z => absurd z i1n, fun _ => hQ 15 (by unfold mfew; rw [if_neg n0, if_neg n1, if_neg n2, if_neg n3, if_neg n4, if_pos e]; decide)⟩) (fun n5 => ⟨fun _ => ti_x hs 127961662514546 [114, 101, 112, 101, 97, 116] (by decide) (by decide) (by decide) (fun e => ⟨fun z => absurd z i1n, fun _ => hQ 16 (by unfold mfew; rw [if_neg n0, if_neg n1, if_neg n2, if_neg n3, if_neg n4, if_neg n5, if_pos e]; decide)⟩) (fun n6 => ⟨fun _ => ti_x hs 499984984428 [108, 105, 109, 105, 116] (by decide) (by decide) (by decide) (fun e => ⟨fun z => absurd z i1n, fun _ => hQ 17 (by unfold mfew; rw [if_neg n0, if_neg n1, if_neg n2, if_neg n3, if_neg n4, if_neg n5, if_neg n6, if_pos e]; decide)⟩) (fun n7 => ⟨fun _ => hQ (-1) (by unfold mfew; rw [if_neg n0, if_neg n1, if_neg n2, if_neg n3, if_neg n4, if_neg n5, if_neg n6, if_neg n7]; decide), fun z => absurd i_0 z⟩), fun z => absurd i_0 z⟩), fun z => absurd i_0 z⟩), fun z => absurd i_0 z⟩), fun z => absurd i_0 z⟩), fun z => absurd i_0 z⟩), fun z => absurd i_0 z⟩), fun z => absurd i_0 z⟩))
theorem mmn_k : ∀ l ∈ kwl, mmn l = mng (kwd l) := by decide
theorem mmn_n {l : List Int} (h : ¬ l ∈ kwl) : mmn l = mng (kwd l) := by
  have hk : ∀ (ks : List (List Int)) (i : Int), (∀ k ∈ ks, ¬ k = l) → kix l ks i = 30 := by
    intro ks
    induction ks with
    | nil => exact fun _ _ => rfl
    | cons k ks ih =>
      intro i hn
      rw [kix_u, if_neg (hn k List.mem_cons_self)]
      exact ih (i + 1) (fun d hd => hn d (List.mem_cons_of_mem _ hd))
  have e : kwd l = 30 := hk kwl 1 (fun k hk e => h (by rw [← e]; exact hk))
  have ne : ∀ k ∈ kwl, ¬ l = k := fun k hk e => h (by rw [e]; exact hk)
  have f1 : mfew l = -1 := by
    unfold mfew
    rw [if_neg (ne [115, 101, 116] (by decide)), if_neg (ne [119, 97, 105, 116] (by decide)), if_neg (ne [117, 110, 116, 105, 108] (by decide)), if_neg (ne [114, 97, 109, 112] (by decide)), if_neg (ne [112, 97, 114] (by decide)), if_neg (ne [105, 102] (by decide)), if_neg (ne [114, 101, 112, 101, 97, 116] (by decide)), if_neg (ne [108, 105, 109, 105, 116] (by decide))]
  have f2 : mmor l = -1 := by
    unfold mmor
    rw [if_neg (ne [97, 115, 107] (by decide)), if_neg (ne [100, 111] (by decide)), if_neg (ne [115, 116, 111, 112] (by decide)), if_neg (ne [104, 111, 108, 100] (by decide)), if_neg (ne [97, 99, 116] (by decide)), if_neg (ne [115, 116, 101, 112] (by decide)), if_neg (ne [115, 105, 103, 110, 97, 108] (by decide)), if_neg (ne [111, 117, 116, 112, 117, 116] (by decide)), if_neg (ne [105, 110] (by decide))]
  have f3 : mres l = -1 := by
    unfold mres
    rw [if_neg (ne [101, 108, 115, 101] (by decide)), if_neg (ne [116, 104, 101, 110] (by decide)), if_neg (ne [108] (by decide)), if_neg (ne [99] (by decide)), if_neg (ne [115] (by decide)), if_neg (ne [98, 97, 114] (by decide)), if_neg (ne [112, 97, 114, 116] (by decide)), if_neg (ne [109, 105, 110] (by decide)), if_neg (ne [104] (by decide))]
  rw [e]
  unfold mmn
  rw [if_pos f1, if_pos f2, f3]
  decide
theorem me_x {w : MW} {b : Nat} {l : List Int} {Q : Int32 → MW → Prop} (hs : SgM w b l) (hQ : ∀ r : Int32, r.toInt = mng (kwd l) → Q r w) : p_Tx_meaning w Q := by
  have em : mmn l = mng (kwd l) := by
    by_cases h : l ∈ kwl
    · exact mmn_k l h
    · exact mmn_n h
  have m1 : (-1 : Int32).toInt = -1 := by decide
  refine me_0 hs (fun r1 e1 => me_121 hs (fun r2 e2 => me_258 hs (fun r3 e3 => Eq.mpr (q_Tx_meaning_395.eq_1 _ _ _ _ _) ⟨fun a => ⟨fun b => hQ r3 ?_, fun b => hQ r2 ?_⟩, fun a => hQ r1 ?_⟩)))
  · rw [← em, e3]
    unfold mmn
    rw [if_pos (by omega), if_pos (by omega)]
  · rw [← em, e2]
    unfold mmn
    rw [if_pos (by omega), if_neg (by omega)]
  · rw [← em, e1]
    unfold mmn
    rw [if_neg (by omega)]
/-! the reference's next word of a program -/
theorem go_0 {w0 : MW} {f : Int → Int} {n T : Int} {E : MW → Prop} {Q : Int32 → MW → Prop} (hT : TXm w0 f n) (hE : ∀ w', BND w' → FR [(129, some 2), (129, some 3)] w0 w' → (w'.1 129 2).toInt = T → E w') (m : Nat) : ∀ w : MW, BND w → FR [(129, some 2), (129, some 3)] w0 w → (w.1 129 2).toInt ≤ n → skp f n 4001 (w.1 129 2).toInt = T → (4001 - (w.1 129 2).toInt).toNat < m → q_Tx_go_0 E Q m w := by
  induction m with
  | zero => intros; omega
  | succ m ih =>
    intro w hB hF pn hS hm
    have b2 := bd_129_2 hB
    have t := txm_fr hT hF rfl
    have n4 := hT.2.1
    have fb : (f (w.1 129 2).toInt = 32 ∨ f (w.1 129 2).toInt = 10) → (w.1 129 2).toInt < n := fun c => by
      by_cases q : 0 ≤ (w.1 129 2).toInt ∧ (w.1 129 2).toInt < n
      · exact q.2
      · have := hT.2.2.2 _ q
        omega
    have nx : (f (w.1 129 2).toInt = 32 ∨ f (w.1 129 2).toInt = 10) → q_Tx_go_26 w (fun (w : MW) => q_Tx_go_0 E Q m w) E Q := fun c => by
      have lt := fb c
      have s := ti_add2 (Eq.refl (w.1 129 2).toInt) i_1 (by omega) (by omega)
      have st : ∀ v : Int32, q_Tx_go_0 E Q m (sI (sI w 129 3 v) 129 2 ((w.1 129 2) + (1 : Int32))) := fun v => by
        refine ih _ (wbd_129_2 (wbd_129_3 hB) (by omega) (by omega)) (FR.I (FR.I hF rfl) rfl) (by rw [sI_same, s]; omega) ?_ (by rw [sI_same, s]; omega)
        rw [sI_same, s, ← skp_1 (by omega) ⟨lt, blk_t c⟩]
        exact hS
      exact Eq.mpr (q_Tx_go_26.eq_1 _ _ _ _) (ta_x t rfl b2.1 (fun y _ => ⟨fun _ => st _, fun _ => st _⟩))
    rw [q_Tx_go_0.eq_2]
    refine ta_x t rfl b2.1 (fun y a => ⟨fun c => nx ?_, fun c => ta_x t rfl b2.1 (fun y2 a2 => ⟨fun d => hE w hB hF ?_, fun d => nx ?_⟩)⟩)
    · have a' : y.toInt = f (w.1 129 2).toInt ∨ (y.toInt = 0 ∧ f (w.1 129 2).toInt = -1) := a
      omega
    · have a' : y.toInt = f (w.1 129 2).toInt ∨ (y.toInt = 0 ∧ f (w.1 129 2).toInt = -1) := a
      have a2' : y2.toInt = f (w.1 129 2).toInt ∨ (y2.toInt = 0 ∧ f (w.1 129 2).toInt = -1) := a2
      rw [skp_n 4001 (fun z => by rw [blk_f (by omega) (by omega)] at z; exact absurd z.2 (by decide))] at hS
      exact hS
    · have a2' : y2.toInt = f (w.1 129 2).toInt ∨ (y2.toInt = 0 ∧ f (w.1 129 2).toInt = -1) := a2
      omega
theorem go_124 {w0 : MW} {f : Int → Int} {n B P : Int} {x : Int32} {E : MW → Prop} {Q : Int32 → MW → Prop} (hT : TXm w0 f n) (hb : (w0.1 129 5).toInt = B) (B0 : 0 ≤ B) (hE : ∀ w', BND w' → FR [(129, some 2)] w0 w' → (w'.1 129 2).toInt = P → E w') (m : Nat) : ∀ (i : Nat) (w : MW), BND w → FR [(129, some 2)] w0 w → i ≤ 12 → (w.1 129 2).toInt = B + (i : Int) → B + (i : Int) ≤ n → B + (i : Int) + ((lts f (12 - i) (B + (i : Int))).length : Int) = P → 12 - i < m → q_Tx_go_124 x E Q m w := by
  induction m with
  | zero => intros; omega
  | succ m ih =>
    intro i w hB hF hi hp pn hP hm
    have t := txm_fr hT hF rfl
    have n4 := hT.2.1
    have e5 : (w.1 129 5).toInt = B := by rw [(hF 129 5 rfl).1]; exact hb
    have sb := ti_sub2 hp e5 (by omega) (by omega)
    have out : (12 - i = 0 ∨ ld1 (f (B + (i : Int))) = false) → E w := fun o => by
      have el : lts f (12 - i) (B + (i : Int)) = [] := by
        cases hk : 12 - i with
        | zero => rfl
        | succ k =>
          rcases o with o | o
          · omega
          · rw [lts_u, if_neg (nt o)]
      rw [el] at hP
      exact hE w hB hF (by rw [hp, ← hP]; simp)
    have st : ld1 (f (B + (i : Int))) = true → q_Tx_go_152 x w (fun (w : MW) => q_Tx_go_124 x E Q m w) E Q := fun ld => by
      refine Eq.mpr (q_Tx_go_152.eq_1 _ _ _ _ _) ⟨fun z => out (Or.inl (by omega)), fun z => ?_⟩
      have ldc' := ld1_t.mp ld
      have lt : B + (i : Int) < n := by
        by_cases q : 0 ≤ B + (i : Int) ∧ B + (i : Int) < n
        · exact q.2
        · have := hT.2.2.2 _ q
          omega
      have s := ti_add2 hp i_1 (by omega) (by omega)
      rw [show 12 - i = (12 - (i + 1)) + 1 by omega, lts_u, if_pos ld, List.length_cons] at hP
      have ei : B + ((i + 1 : Nat) : Int) = B + (i : Int) + 1 := by omega
      refine ih (i + 1) _ (wbd_129_2 hB (by omega) (by omega)) (FR.I hF rfl) (by omega) (by rw [sI_same, s, ei]) (by omega) ?_ (by omega)
      rw [ei, ← hP]
      omega
    rw [q_Tx_go_124.eq_2]
    refine ta_x t hp (by omega) (fun y a => ml_x a (fun d => ⟨fun _ => st (ld1_t.mpr (Or.inl (lt1_t.mp d))), fun z => absurd i1n z⟩) (fun d => ⟨fun z => absurd i_0 z, fun _ => ta_x t hp (by omega) (fun y2 a2 => md_x a2 (fun d2 => ⟨fun z => absurd z i1n, fun _ => st (ld1_t.mpr (Or.inr (dg1_t.mp d2)))⟩) (fun d2 => ⟨fun _ => out (Or.inr (ld1_f.mpr ⟨lt1_f.mp d, dg1_f.mp d2⟩)), fun z => absurd i_0 z⟩))⟩))
theorem dg_5 {w0 : MW} {f : Int → Int} {n B T P : Int} {E Q : MW → Prop} (hX : TXm w0 f n) (hb : (w0.1 129 5).toInt = B) (B0 : 0 ≤ B) (hE : ∀ w', BND w' → FR [(129, some 2), (129, some 8)] w0 w' → (w'.2.1 129 8).toInt = T → (w'.1 129 2).toInt = P → 0 ≤ T → T < 1000000000 → P ≤ n → E w') (m : Nat) : ∀ (i : Nat) (w : MW), BND w → FR [(129, some 2), (129, some 8)] w0 w → i ≤ 9 → (w.1 129 2).toInt = B + (i : Int) → B + (i : Int) ≤ n → 0 ≤ (w.2.1 129 8).toInt → (w.2.1 129 8).toInt < 10 ^ i → vlu (w.2.1 129 8).toInt (dgl f (9 - i) (B + (i : Int))) = T → B + (i : Int) + ((dgl f (9 - i) (B + (i : Int))).length : Int) = P → 9 - i < m → q_Tx_digits_5 E Q m w := by
  induction m with
  | zero => intros; omega
  | succ m ih =>
    intro i w hB hF hi hp pn c0 c1 hT hP hm
    have t := txm_fr hX hF rfl
    have n4 := hX.2.1
    have e5 : (w.1 129 5).toInt = B := by rw [(hF 129 5 rfl).1]; exact hb
    have sb := ti_sub2 hp e5 (by omega) (by omega)
    have pw := p10q i (by omega)
    have out : (9 - i = 0 ∨ dg1 (f (B + (i : Int))) = false) → E w := fun o => by
      have el : dgl f (9 - i) (B + (i : Int)) = [] := by
        cases hk : 9 - i with
        | zero => rfl
        | succ k =>
          rcases o with o | o
          · omega
          · rw [dgl_u, if_neg (nt o)]
      rw [el] at hT hP
      have hT' : (w.2.1 129 8).toInt = T := hT
      have hP' : B + (i : Int) = P := by rw [← hP]; simp
      exact hE w hB hF hT' (by rw [hp, hP']) (by omega) (by omega) (by omega)
    rw [q_Tx_digits_5.eq_2]
    refine ta_x t hp (by omega) (fun y a => md_x a (fun d => ⟨fun z => absurd z i1n, fun _ => ⟨fun z => out (Or.inl (by omega)), fun z => ta_x t hp (by omega) (fun y2 a2 => ?_)⟩⟩) (fun d => ⟨fun _ => out (Or.inr d), fun z => absurd i_0 z⟩))
    have dd := dg1_t.mp d
    have a2' : y2.toInt = f (B + (i : Int)) ∨ (y2.toInt = 0 ∧ f (B + (i : Int)) = -1) := a2
    have ey : y2.toInt = f (B + (i : Int)) := by omega
    have lt : B + (i : Int) < n := by
      by_cases q : 0 ≤ B + (i : Int) ∧ B + (i : Int) < n
      · exact q.2
      · have := hX.2.2.2 _ q
        omega
    have s := ti_add2 hp i_1 (by omega) (by omega)
    have pe : (10 : Int) ^ (i + 1) = 10 ^ i * 10 := Int.pow_succ 10 i
    rw [show 9 - i = (9 - (i + 1)) + 1 by omega, dgl_u, if_pos d] at hT hP
    have e10 := li_mul (show (10 : Int64).toInt = 10 by decide) (Eq.refl (w.2.1 129 8).toInt) (by omega) (by omega)
    have e11 := li_add e10 ((nb_i2l y2).trans ey) (by omega) (by omega)
    have eK := li_sub e11 (show (48 : Int64).toInt = 48 by decide) (by omega) (by omega)
    generalize hK : (((10 : Int64) * (w.2.1 129 8)) + (Int32.toInt64 y2)) - (48 : Int64) = K at *
    have a1 : (sI (sJ w 129 8 K) 129 2 ((w.1 129 2) + (1 : Int32))).1 129 2 = (w.1 129 2) + (1 : Int32) := sI_same _ _ _ _
    have a6 : (sI (sJ w 129 8 K) 129 2 ((w.1 129 2) + (1 : Int32))).2.1 129 8 = K := sJ_same _ _ _ _
    have ei : B + ((i + 1 : Nat) : Int) = B + (i : Int) + 1 := by omega
    refine ih (i + 1) _ (wbd_129_2 (show BND (sJ w 129 8 K) from hB) (by omega) (by omega)) (FR.I (FR.J hF rfl) rfl) (by omega) (by rw [a1, s, ei]) (by omega) (by rw [a6, eK]; omega) (by rw [a6, eK, pe]; omega) ?_ ?_ (by omega)
    · rw [a6, eK, ei, show 10 * (w.2.1 129 8).toInt = (w.2.1 129 8).toInt * 10 by omega]
      exact hT
    · rw [ei, ← hP, List.length_cons]
      omega
def fkl (k : Nat) (b : Int64) : Prop := (k = 3 ∧ b = 100) ∨ (k = 2 ∧ b = 10) ∨ (k = 1 ∧ b = 1) ∨ (k = 0 ∧ b = 0)
theorem dg_143 {w0 : MW} {f : Int → Int} {n T P : Int} {E Q : MW → Prop} (hX : TXm w0 f n) (hE : ∀ w', BND w' → FR [(129, some 2), (129, some 8)] w0 w' → (w'.2.1 129 8).toInt = T → (w'.1 129 2).toInt = P → P ≤ n → E w') (m : Nat) : ∀ (k : Nat) (b : Int64) (w : MW), fkl k b → BND w → FR [(129, some 2), (129, some 8)] w0 w → (w.1 129 2).toInt ≤ n → 0 ≤ (w.2.1 129 8).toInt → (w.2.1 129 8).toInt + 1000 * (k : Int) ≤ 2000000000000 → fra b.toInt (w.2.1 129 8).toInt (dgl f k (w.1 129 2).toInt) = T → (w.1 129 2).toInt + ((dgl f k (w.1 129 2).toInt).length : Int) = P → k < m → q_Tx_digits_143 E Q m b w := by
  induction m with
  | zero => intros; omega
  | succ m ih =>
    intro k b w hk hB hF pn c0 c1 hT hP hm
    have t := txm_fr hX hF rfl
    have n4 := hX.2.1
    have b2 := bd_129_2 hB
    have out : (k = 0 ∨ dg1 (f (w.1 129 2).toInt) = false) → E w := fun o => by
      have el : dgl f k (w.1 129 2).toInt = [] := by
        cases k with
        | zero => rfl
        | succ k =>
          rcases o with o | o
          · omega
          · rw [dgl_u, if_neg (nt o)]
      rw [el] at hT hP
      have hP' : (w.1 129 2).toInt = P := by rw [← hP]; simp
      exact hE w hB hF hT hP' (by omega)
    have step : ∀ (k' : Nat) (b' : Int64) (B : Int) (y : Int32), k = k' + 1 → b.toInt = B → b / (10 : Int64) = b' → B / 10 = b'.toInt → fkl k' b' → 0 ≤ B → B ≤ 100 → dg1 (f (w.1 129 2).toInt) = true → ag0 y.toInt (f (w.1 129 2).toInt) → q_Tx_digits_143 E Q m (b / (10 : Int64)) (sI (sJ w 129 8 ((w.2.1 129 8) + (b * (Int32.toInt64 (y - (48 : Int32)))))) 129 2 ((w.1 129 2) + (1 : Int32))) := fun k' b' B y ek eb e1 e2 hk' B0 B1 d a => by
      have dd := dg1_t.mp d
      have a' : y.toInt = f (w.1 129 2).toInt ∨ (y.toInt = 0 ∧ f (w.1 129 2).toInt = -1) := a
      have ey : y.toInt = f (w.1 129 2).toInt := by omega
      have lt : (w.1 129 2).toInt < n := by
        by_cases q : 0 ≤ (w.1 129 2).toInt ∧ (w.1 129 2).toInt < n
        · exact q.2
        · have := hX.2.2.2 _ q
          omega
      have s := ti_add2 (Eq.refl (w.1 129 2).toInt) i_1 (by omega) (by omega)
      rw [ek, dgl_u, if_pos d] at hT hP
      have d0 := ti_sub2 ey (show (48 : Int32).toInt = 48 by decide) (by omega) (by omega)
      have mb : 0 ≤ B * (f (w.1 129 2).toInt - 48) ∧ B * (f (w.1 129 2).toInt - 48) ≤ 100 * 9 := ⟨Int.mul_nonneg B0 (by omega), Int.mul_le_mul B1 (by omega) (by omega) (by omega)⟩
      have dm := li_mul eb ((nb_i2l (y - (48 : Int32))).trans d0) (by omega) (by omega)
      have eK := li_add (Eq.refl (w.2.1 129 8).toInt) dm (by omega) (by omega)
      generalize hK : (w.2.1 129 8) + (b * (Int32.toInt64 (y - (48 : Int32)))) = K at *
      have a1 : (sI (sJ w 129 8 K) 129 2 ((w.1 129 2) + (1 : Int32))).1 129 2 = (w.1 129 2) + (1 : Int32) := sI_same _ _ _ _
      have a6 : (sI (sJ w 129 8 K) 129 2 ((w.1 129 2) + (1 : Int32))).2.1 129 8 = K := sJ_same _ _ _ _
      rw [e1]
      refine ih k' b' _ hk' (wbd_129_2 (show BND (sJ w 129 8 K) from hB) (by omega) (by omega)) (FR.I (FR.J hF rfl) rfl) (by rw [a1, s]; omega) (by rw [a6, eK]; omega) (by rw [a6, eK]; omega) ?_ ?_ (by omega)
      · rw [a6, eK, a1, s, ← e2]
        rw [eb] at hT
        exact hT
      · rw [a1, s, ← hP, List.length_cons]
        omega
    rw [q_Tx_digits_143.eq_2]
    refine ta_x t rfl b2.1 (fun y a => md_x a (fun d => ⟨fun z => absurd z i1n, fun _ => ⟨fun z => out ?_, fun z => ta_x t rfl b2.1 (fun y2 a2 => ?_)⟩⟩) (fun d => ⟨fun _ => out (Or.inr d), fun z => absurd i_0 z⟩))
    · rcases hk with ⟨_, e⟩ | ⟨_, e⟩ | ⟨_, e⟩ | ⟨e, _⟩
      · rw [e] at z
        exact absurd z (by decide)
      · rw [e] at z
        exact absurd z (by decide)
      · rw [e] at z
        exact absurd z (by decide)
      · exact Or.inl e
    · rcases hk with ⟨ek, e⟩ | ⟨ek, e⟩ | ⟨ek, e⟩ | ⟨ek, e⟩
      · exact step 2 10 100 y2 ek (by rw [e]; decide) (by rw [e]; decide) (by decide) (Or.inr (Or.inl ⟨rfl, rfl⟩)) (by decide) (by decide) d a2
      · exact step 1 1 10 y2 ek (by rw [e]; decide) (by rw [e]; decide) (by decide) (Or.inr (Or.inr (Or.inl ⟨rfl, rfl⟩))) (by decide) (by decide) d a2
      · exact step 0 0 1 y2 ek (by rw [e]; decide) (by rw [e]; decide) (by decide) (Or.inr (Or.inr (Or.inr ⟨rfl, rfl⟩))) (by decide) (by decide) d a2
      · rw [e] at z
        exact absurd (show (lg_cmp (0 : Int64) (0 : Int64)).toInt ≤ 0 by decide) z
def ldg : Pl := [(129, some 2), (129, some 8), (129, some 9)]
theorem dg_x {w : MW} {f : Int → Int} {n q : Int} {Q : MW → Prop} (hI : BND w) (hX : TXm w f n) (h2 : (w.1 129 2).toInt = q) (h5 : (w.1 129 5).toInt = q) (qn : q ≤ n) (hQ : ∀ w', BND w' → FR ldg w w' → (w'.2.1 129 8).toInt = dgz f q → (w'.1 129 2).toInt = dgn f q → (w'.1 129 9).toInt = (if dgp f q = true then 1 else 0) → dgn f q ≤ n → Q w') : p_Tx_digits w Q := by
  have b5 := bd_129_5 hI
  have z0 : (0 : Int64).toInt = 0 := by decide
  have B1 : BND (sJ w 129 8 0) := hI
  have F1 : FR ldg w (sJ w 129 8 0) := FR.J (FR.refl _ w) rfl
  have a8 : (sJ w 129 8 0).2.1 129 8 = 0 := sJ_same _ _ _ _
  have a2 : ((sJ w 129 8 0).1 129 2).toInt = q + ((0 : Nat) : Int) := by
    have e : ((sJ w 129 8 0).1 129 2).toInt = q := h2
    omega
  have a5 : ((sJ w 129 8 0).1 129 5).toInt = q := h5
  refine Eq.mpr (p_Tx_digits.eq_1 _ _) ?_
  generalize (sJ w 129 8 0) = w1 at *
  have X1 := txm_fr hX F1 rfl
  refine dg_5 (w0 := w1) X1 a5 (by omega) (fun w6 B6 F6 e8 e2 t0 t1 pn => ?_) FU 0 w1 B1 (FR.refl _ w1) (Nat.zero_le _) a2 (by omega) (by rw [a8, z0]; decide) (by rw [a8, z0]; decide) rfl rfl (fu_lt (by decide))
  rw [a8, z0] at e8 t0 t1
  rw [show q + ((0 : Nat) : Int) = q by omega] at e8 t0 t1 e2 pn
  have hd : (w6.1 129 2).toInt = dge f q := e2
  have e8' : (w6.2.1 129 8).toInt = vlu 0 (dgl f 9 q) := e8
  have t0' : 0 ≤ vlu 0 (dgl f 9 q) := t0
  have t1' : vlu 0 (dgl f 9 q) < 1000000000 := t1
  have pn' : dge f q ≤ n := pn
  have F16 : FR ldg w w6 := F1.tr F6 rfl
  have eM := li_mul (Eq.refl (w6.2.1 129 8).toInt) (show (1000 : Int64).toInt = 1000 by decide) (by omega) (by omega)
  have B7 : BND (sJ w6 129 8 ((w6.2.1 129 8) * (1000 : Int64))) := B6
  have F7 : FR ldg w (sJ w6 129 8 ((w6.2.1 129 8) * (1000 : Int64))) := FR.J F16 rfl
  have c8 : ((sJ w6 129 8 ((w6.2.1 129 8) * (1000 : Int64))).2.1 129 8).toInt = vlu 0 (dgl f 9 q) * 1000 := by rw [sJ_same, eM, e8']
  have c2 : ((sJ w6 129 8 ((w6.2.1 129 8) * (1000 : Int64))).1 129 2).toInt = dge f q := hd
  have de : 0 ≤ dge f q := by
    have := bd_129_2 B6
    omega
  have ew : (sJ w6 129 8 ((w6.2.1 129 8) * (1000 : Int64))).1 129 2 = w6.1 129 2 := rfl
  rw [← ew]
  generalize (sJ w6 129 8 ((w6.2.1 129 8) * (1000 : Int64))) = w7 at *
  have X7 := txm_fr hX F7 rfl
  have n4 := hX.2.1
  have no : dgp f q = false → q_Tx_digits_119 0 w7 Q := fun np => by
    refine Eq.mpr (q_Tx_digits_119.eq_1 _ _ _) ⟨Or.inl i_0, fun _ => hQ _ (wbd_129_9 B7 (by decide) (by decide)) (FR.I F7 rfl) ?_ ?_ ?_ ?_, fun z => absurd i_0 z⟩
    · show (w7.2.1 129 8).toInt = _
      rw [c8]
      unfold dgz dgf
      rw [if_neg (nt np)]
      rfl
    · rw [sI_ne _ _ _ _ _ (by decide), c2]
      unfold dgn
      rw [if_neg (nt np)]
    · rw [sI_same, if_neg (nt np)]
      exact i_0
    · unfold dgn
      rw [if_neg (nt np)]
      exact pn'
  refine ta_x X7 c2 de (fun y a => ⟨fun z => no ?_, fun z => ?_⟩)
  · have a' : y.toInt = f (dge f q) ∨ (y.toInt = 0 ∧ f (dge f q) = -1) := a
    unfold dgp
    exact decide_eq_false (fun u => by have := u.1; omega)
  · have a' : y.toInt = f (dge f q) ∨ (y.toInt = 0 ∧ f (dge f q) = -1) := a
    have z' := Classical.not_not.mp z
    have e46 : f (dge f q) = 46 := by omega
    have lt : dge f q < n := by
      by_cases u : 0 ≤ dge f q ∧ dge f q < n
      · exact u.2
      · have := hX.2.2.2 _ u
        omega
    have s := ti_add2 c2 i_1 (by omega) (by omega)
    refine ta_x X7 s (by omega) (fun y2 a2 => md_x a2 (fun d => ⟨fun u => absurd u i1n, fun _ => ?_⟩) (fun d => ⟨fun _ => no ?_, fun u => absurd i_0 u⟩))
    · have yes : dgp f q = true := decide_eq_true ⟨e46, d⟩
      refine Eq.mpr (q_Tx_digits_119.eq_1 _ _ _) ⟨Or.inr i_1, fun u => absurd u i1n, fun _ => ?_⟩
      have B9 : BND (sI (sI w7 129 9 1) 129 2 ((w7.1 129 2) + (1 : Int32))) := wbd_129_2 (wbd_129_9 B7 (by decide) (by decide)) (by omega) (by omega)
      have F9 : FR ldg w (sI (sI w7 129 9 1) 129 2 ((w7.1 129 2) + (1 : Int32))) := FR.I (FR.I F7 rfl) rfl
      have g2 : ((sI (sI w7 129 9 1) 129 2 ((w7.1 129 2) + (1 : Int32))).1 129 2).toInt = dge f q + 1 := by rw [sI_same]; exact s
      have g8 : ((sI (sI w7 129 9 1) 129 2 ((w7.1 129 2) + (1 : Int32))).2.1 129 8).toInt = vlu 0 (dgl f 9 q) * 1000 := c8
      have g9 : ((sI (sI w7 129 9 1) 129 2 ((w7.1 129 2) + (1 : Int32))).1 129 9).toInt = 1 := by rw [sI_ne _ _ _ _ _ (by decide), sI_same]; exact i_1
      generalize (sI (sI w7 129 9 1) 129 2 ((w7.1 129 2) + (1 : Int32))) = w9 at *
      have X9 := txm_fr hX F9 rfl
      refine dg_143 (w0 := w9) X9 (fun w' B' F' f8 f2 fn => hQ w' B' (F9.tr F' rfl) ?_ ?_ ?_ ?_) FU 3 100 w9 (Or.inl ⟨rfl, rfl⟩) B9 (FR.refl _ w9) (by rw [g2]; omega) (by rw [g8]; omega) (by rw [g8]; omega) rfl rfl (fu_lt (by decide))
      · rw [f8, g8, g2]
        unfold dgz dgf
        rw [if_pos yes]
        rfl
      · rw [f2, g2]
        unfold dgn
        rw [if_pos yes]
      · rw [(F' 129 9 rfl).1, g9, if_pos yes]
      · rw [g2] at fn
        unfold dgn
        rw [if_pos yes]
        exact fn
    · unfold dgp
      exact decide_eq_false (fun u => absurd u.2 (nt d))
/-! the reference's next word of a program: the whole -/
theorem lts_n {f : Int → Int} {n : Int} (hf : ∀ p : Int, ¬ (0 ≤ p ∧ p < n) → f p = -1) : ∀ (k : Nat) (p : Int), 0 ≤ p → p ≤ n → p + ((lts f k p).length : Int) ≤ n := by
  intro k
  induction k with
  | zero => intro p _ h; show p + ((0 : Nat) : Int) ≤ n; omega
  | succ k ih =>
    intro p p0 pn
    rw [lts_u]
    by_cases q : ld1 (f p) = true
    · rw [if_pos q, List.length_cons]
      have t := ld1_t.mp q
      have lt : p < n := by
        by_cases u : 0 ≤ p ∧ p < n
        · exact u.2
        · have := hf p u
          omega
      have := ih (p + 1) (by omega) (by omega)
      omega
    · rw [if_neg q]
      show p + ((0 : Nat) : Int) ≤ n
      omega
theorem lts_g (f : Int → Int) : ∀ (k : Nat) (p : Int) (i : Nat) (c : Int), (lts f k p)[i]? = some c → c = f (p + (i : Int)) := by
  intro k
  induction k with
  | zero => intro p i c h; cases h
  | succ k ih =>
    intro p i c h
    rw [lts_u] at h
    by_cases q : ld1 (f p) = true
    · rw [if_pos q] at h
      cases i with
      | zero =>
        have e : f p = c := Option.some.inj h
        rw [← e, show p + ((0 : Nat) : Int) = p by omega]
      | succ i =>
        have t := ih (p + 1) i c h
        rw [t, show p + 1 + (i : Int) = p + ((i + 1 : Nat) : Int) by omega]
    · rw [if_neg q] at h
      cases h
theorem lts_1 {f : Int → Int} {k : Nat} {p : Int} (h : ld1 (f p) = true) : 1 ≤ (lts f (k + 1) p).length := by
  rw [lts_u, if_pos h, List.length_cons]
  omega
def tkm (k : Int) : Int := if k = 32 then 1 else if k = 31 then 2000 else if k ≤ 30 then 1000 + mng k else k
/-- the word t stands in the reference's text -/
def TkM (w : MW) (t : Tk) : Prop := (w.1 129 4).toInt = tkm t.1 ∧ (w.1 129 5).toInt = t.2.1 ∧ (w.1 129 2).toInt = t.2.2.1 ∧ (w.1 129 6).toInt = t.2.2.1 ∧ (t.1 = 31 → (w.2.1 129 8).toInt = t.2.2.2.2.1 ∧ (w.1 129 9).toInt = (if t.2.2.2.2.2 = true then 1 else 0))
def mtl (r8 : Int32) (w27 : MW) (Q : Int32 → MW → Prop) : Prop := (p_Tx_at (sI w27 129 6 (w27.1 129 2)) (w27.1 129 2) (fun r28 w28 => (p_Tx_isLetter w28 r28 (fun r29 w29 => ((¬ r29.toInt = 0 → (Q 0 (sI w29 129 10 (w29.1 129 2)))) ∧ (¬ (¬ r29.toInt = 0) → (p_Tx_isDigit w29 r28 (fun r31 w31 => ((¬ r31.toInt = 0 → (Q 0 (sI w31 129 10 (w31.1 129 2)))) ∧ (¬ (¬ r31.toInt = 0) → ((¬ r28.toInt = 46 → (p_Tx_isLetter w31 r8 (fun r34 w34 => ((r34.toInt = 0 → (Q 1 (sI w34 129 4 2000))) ∧ (¬ (r34.toInt = 0) → (p_Tx_meaning w34  (fun r36 w36 => (Q 1 (sI w36 129 4 ((1000 : Int32) + r36)))))))))) ∧ (¬ (¬ r28.toInt = 46) → (Q 0 (sI w31 129 10 (w31.1 129 2)))))))))))))))
theorem mt_x {w : MW} {f : Int → Int} {n e : Int} {r8 : Int32} {Q : Int32 → MW → Prop} (X : TXm w f n) (hI : BND w) (he : (w.1 129 2).toInt = e) (h0 : bd1 (f e) = true → ∀ w', BND w' → FR [(129, some 6), (129, some 10)] w w' → (w'.1 129 10).toInt = e → Q 0 w') (h1 : bd1 (f e) = false → ∀ w', BND w' → FR [(129, some 6)] w w' → (w'.1 129 6).toInt = e → p_Tx_isLetter w' r8 (fun r34 w34 => ((r34.toInt = 0 → (Q 1 (sI w34 129 4 2000))) ∧ (¬ (r34.toInt = 0) → (p_Tx_meaning w34  (fun r36 w36 => (Q 1 (sI w36 129 4 ((1000 : Int32) + r36)))))))) ) : mtl r8 w Q := by
  have b2 := bd_129_2 hI
  have B1 : BND (sI w 129 6 (w.1 129 2)) := wbd_129_6 hI b2.1 b2.2
  have F1 : FR [(129, some 6)] w (sI w 129 6 (w.1 129 2)) := FR.I (FR.refl _ w) rfl
  have a6 : ((sI w 129 6 (w.1 129 2)).1 129 6).toInt = e := by rw [sI_same]; exact he
  have a2 : (sI w 129 6 (w.1 129 2)).1 129 2 = w.1 129 2 := sI_ne _ _ _ _ _ (by decide)
  unfold mtl
  generalize (sI w 129 6 (w.1 129 2)) = w1 at *
  have X1 := txm_fr X F1 rfl
  have bad : bd1 (f e) = true → Q 0 (sI w1 129 10 (w1.1 129 2)) := fun b => h0 b _ (wbd_129_10 B1) (FR.I (FR.tr (FR.refl _ w) F1 rfl) rfl) (by rw [sI_same, a2]; exact he)
  refine ta_x X1 he (by omega) (fun y a => ml_x a (fun d => ⟨fun _ => bad (bd1_t.mpr (Or.inl (Or.inl (lt1_t.mp d)))), fun z => absurd i1n z⟩) (fun d => ⟨fun z => absurd i_0 z, fun _ => md_x a (fun d2 => ⟨fun _ => bad (bd1_t.mpr (Or.inl (Or.inr (dg1_t.mp d2)))), fun z => absurd i1n z⟩) (fun d2 => ⟨fun z => absurd i_0 z, fun _ => ⟨fun z => h1 (bd1_f.mpr ⟨⟨lt1_f.mp d, dg1_f.mp d2⟩, ?_⟩) w1 B1 F1 a6, fun z => bad (bd1_t.mpr (Or.inr ?_))⟩⟩)⟩))
  · have a' : y.toInt = f e ∨ (y.toInt = 0 ∧ f e = -1) := a
    omega
  · have a' : y.toInt = f e ∨ (y.toInt = 0 ∧ f e = -1) := a
    omega
def lgt : Pl := [(129, some 2), (129, some 3), (129, some 4), (129, some 5), (129, some 6), (129, some 7), (129, some 8), (129, some 9), (129, some 10)]
theorem mng_b : ∀ k : Int, (1 ≤ k ∧ k ≤ 26) ∨ k = 30 → -1 ≤ mng k ∧ mng k ≤ 46 := by
  intro k h
  have t : ∀ j : Nat, j < 31 → -1 ≤ mng (j : Int) ∧ mng (j : Int) ≤ 46 := by decide +kernel
  have := t k.toNat (by omega)
  rw [show ((k.toNat : Nat) : Int) = k by omega] at this
  exact this
theorem pg_x {w : MW} {f : Int → Int} {n p : Int} {Q : Int32 → MW → Prop} (hI : BND w) (hX : TXm w f n) (hp : (w.1 129 2).toInt = p) (pn : p ≤ n) (h1 : ¬ (wrd f n p).1 = 33 → ∀ w', BND w' → FR lgt w w' → TkM w' (wrd f n p) → w'.1 129 10 = w.1 129 10 → Q 1 w') (h0 : (wrd f n p).1 = 33 → ∀ w', BND w' → FR lgt w w' → (w'.1 129 10).toInt = (wrd f n p).2.1 → Q 0 w') : p_Tx_go w Q := by
  have b2 := bd_129_2 hI
  have n4 := hX.2.1
  refine Eq.mpr (p_Tx_go.eq_1 _ _) (go_0 (w0 := w) hX (fun w7 B7 F7 e7 => ?_) FU w hI (FR.refl _ w) (by omega) rfl (fu_lt (by omega)))
  rw [hp] at e7
  have kb := skp_b f n 4001 p
  have ew : wrd f n p = wrq f n (skp f n 4001 p) := rfl
  rw [ew] at h1 h0
  have q1 := kb.2 pn
  have q0 := kb.1
  generalize skp f n 4001 p = q at *
  have b7 := bd_129_2 B7
  have B8 : BND (sI (sI w7 129 5 (w7.1 129 2)) 129 7 (w7.1 129 3)) := bnd_set (wbd_129_5 B7 b7.1 b7.2) (ti_lo _) (ti_hi _)
  have F8 : FR lgt w (sI (sI w7 129 5 (w7.1 129 2)) 129 7 (w7.1 129 3)) := FR.I (FR.I (FR.tr (FR.refl _ w) F7 rfl) rfl) rfl
  have a2 : ((sI (sI w7 129 5 (w7.1 129 2)) 129 7 (w7.1 129 3)).1 129 2).toInt = q := by rw [sI_ne _ _ _ _ _ (by decide), sI_ne _ _ _ _ _ (by decide)]; exact e7
  have a5 : ((sI (sI w7 129 5 (w7.1 129 2)) 129 7 (w7.1 129 3)).1 129 5).toInt = q := by rw [sI_ne _ _ _ _ _ (by decide), sI_same]; exact e7
  have a10 : (sI (sI w7 129 5 (w7.1 129 2)) 129 7 (w7.1 129 3)).1 129 10 = w.1 129 10 := by rw [sI_ne _ _ _ _ _ (by decide), sI_ne _ _ _ _ _ (by decide)]; exact (F7 129 10 rfl).1
  generalize (sI (sI w7 129 5 (w7.1 129 2)) 129 7 (w7.1 129 3)) = w8 at *
  have X8 := txm_fr hX F8 rfl
  refine ta_x X8 e7 (by omega) (fun y a => ⟨fun c => ?_, fun c => ?_⟩)
  · have a' : y.toInt = f q ∨ (y.toInt = 0 ∧ f q = -1) := a
    rw [a2, X8.1] at c
    have nq : ¬ n ≤ q := by omega
    refine ml_x a (fun d => ⟨fun z => absurd z i1n, fun _ => ?_⟩) (fun d => ⟨fun _ => md_x a (fun d2 => ⟨fun z => absurd z i1n, fun _ => ?_⟩) (fun d2 => ⟨fun _ => ?_, fun z => absurd i_0 z⟩), fun z => absurd i_0 z⟩)
    · have ew : wrq f n q = wrL f q := by
        unfold wrq
        rw [if_neg nq, if_pos d]
      rw [ew] at h1 h0
      have ln := lts_n hX.2.2.2 12 q (by omega) (by omega)
      have ll := (lts_m f 12 q).1
      refine go_124 (w0 := w8) X8 a5 (by omega) (fun w9 B9 F9 e9 => ?_) FU 0 w8 B8 (FR.refl _ w8) (Nat.zero_le _) (by rw [a2]; omega) (by omega) rfl (fu_lt (by decide))
      rw [show q + ((0 : Nat) : Int) = q by omega] at e9
      have F19 : FR lgt w w9 := F8.tr F9 rfl
      have X9 := txm_fr hX F19 rfl
      have g5 : (w9.1 129 5).toInt = q := by rw [(F9 129 5 rfl).1]; exact a5
      have g10 : w9.1 129 10 = w.1 129 10 := ((F9 129 10 rfl).1).trans a10
      refine (mt_x (e := q + ((lts f 12 q).length : Int)) X9 B9 e9 (fun b w' B' F' e' => ?_) (fun b w' B' F' e' => ?_) : mtl y w9 Q)
      · have e : wrL f q = (33, q + ((lts f 12 q).length : Int), q + ((lts f 12 q).length : Int), lts f 12 q, 0, false) := by
          unfold wrL
          rw [if_pos b]
        rw [e] at h0
        exact h0 rfl w' B' (F19.tr F' rfl) e'
      · have e : wrL f q = (kwd (lts f 12 q), q, q + ((lts f 12 q).length : Int), lts f 12 q, 0, false) := by
          unfold wrL
          rw [if_neg (nt b)]
        rw [e] at h1
        have kb := kwd_b (lts f 12 q)
        have X' := txm_fr X9 F' rfl
        have h5 : (w'.1 129 5).toInt = q := by rw [(F' 129 5 rfl).1]; exact g5
        have sg : SgM w' q.toNat (lts f 12 q) := ⟨by rw [h5]; omega, by rw [e']; omega, by omega, fun i c hi => by
          have il : i < (lts f 12 q).length := (List.getElem?_eq_some_iff.mp hi).1
          rw [X'.2.2.1 (q.toNat + i) (by omega), lts_g f 12 q i c hi]
          congr 1
          omega⟩
        refine ml_x a (fun _ => ⟨fun z => absurd z i1n, fun _ => me_x sg (fun r er => ?_)⟩) (fun d3 => absurd d (nt d3))
        have mb := mng_b (kwd (lts f 12 q)) (by omega)
        have et := ti_add2 (show (1000 : Int32).toInt = 1000 by decide) er (by omega) (by omega)
        refine h1 (fun z => by have z' : kwd (lts f 12 q) = 33 := z; omega) _ (wbd_129_4 B' (by omega) (by omega)) (FR.I (F19.tr F' rfl) rfl) ⟨?_, ?_, ?_, ?_, fun z => ?_⟩ ?_
        · rw [sI_same, et]
          show _ = tkm (kwd (lts f 12 q))
          unfold tkm
          rw [if_neg (by omega), if_neg (by omega), if_pos (by omega)]
        · rw [sI_ne _ _ _ _ _ (by decide)]
          exact h5
        · rw [sI_ne _ _ _ _ _ (by decide), (F' 129 2 rfl).1]
          exact e9
        · rw [sI_ne _ _ _ _ _ (by decide)]
          exact e'
        · have z' : kwd (lts f 12 q) = 31 := z
          omega
        · rw [sI_ne _ _ _ _ _ (by decide), (F' 129 10 rfl).1]
          exact g10
    · have ew : wrq f n q = wrN f q := by
        unfold wrq
        rw [if_neg nq, if_neg (nt d), if_pos d2]
      rw [ew] at h1 h0
      refine dg_x B8 X8 a2 a5 (by omega) (fun w9 B9 F9 e8 e2 e9 en => ?_)
      have F19 : FR lgt w w9 := F8.tr F9 rfl
      have X9 := txm_fr hX F19 rfl
      have g5 : (w9.1 129 5).toInt = q := by rw [(F9 129 5 rfl).1]; exact a5
      have g10 : w9.1 129 10 = w.1 129 10 := ((F9 129 10 rfl).1).trans a10
      refine (mt_x (e := dgn f q) X9 B9 e2 (fun b w' B' F' e' => ?_) (fun b w' B' F' e' => ?_) : mtl y w9 Q)
      · have e : wrN f q = (33, dgn f q, dgn f q, [], dgz f q, dgp f q) := by
          unfold wrN
          rw [if_pos b]
        rw [e] at h0
        exact h0 rfl w' B' (F19.tr F' rfl) e'
      · have e : wrN f q = (31, q, dgn f q, [], dgz f q, dgp f q) := by
          unfold wrN
          rw [if_neg (nt b)]
        rw [e] at h1
        refine ml_x a (fun d3 => absurd d3 (nt d)) (fun _ => ⟨fun _ => ?_, fun z => absurd i_0 z⟩)
        refine h1 (by show ¬ (31 : Int) = 33; decide) _ (wbd_129_4 B' (by decide) (by decide)) (FR.I (F19.tr F' rfl) rfl) ⟨?_, ?_, ?_, ?_, fun _ => ⟨?_, ?_⟩⟩ ?_
        · rw [sI_same]
          show (2000 : Int32).toInt = tkm 31
          decide
        · rw [sI_ne _ _ _ _ _ (by decide), (F' 129 5 rfl).1]
          exact g5
        · rw [sI_ne _ _ _ _ _ (by decide), (F' 129 2 rfl).1]
          exact e2
        · rw [sI_ne _ _ _ _ _ (by decide)]
          exact e'
        · show (w'.2.1 129 8).toInt = _
          rw [(F' 129 8 rfl).2.1]
          exact e8
        · rw [sI_ne _ _ _ _ _ (by decide), (F' 129 9 rfl).1]
          exact e9
        · rw [sI_ne _ _ _ _ _ (by decide), (F' 129 10 rfl).1]
          exact g10
    · have s := ti_add2 a2 i_1 (by omega) (by omega)
      have bY := ti_lo y
      have cc := lt1_f.mp d
      have cd := dg1_f.mp d2
      have fin : ∀ v : Int32, (v = w8.1 129 10 ∨ v = w8.1 129 2) → BND (sI (sI (sI (sI w8 129 10 v) 129 2 ((w8.1 129 2) + (1 : Int32))) 129 6 ((w8.1 129 2) + (1 : Int32))) 129 4 y) := fun v hv => by
        have bn := hX.2.2.1 q.toNat (by omega)
        rw [show ((q.toNat : Nat) : Int) = q by omega] at bn
        have b130 := bd_130 hI q.toNat
        exact wbd_129_4 (wbd_129_6 (wbd_129_2 (wbd_129_10 B8) (by omega) (by omega)) (by omega) (by omega)) (by omega) (by omega)
      have good : (f q = 123 ∨ f q = 125 ∨ f q = 40 ∨ f q = 41 ∨ f q = 59 ∨ f q = 43 ∨ f q = 45 ∨ f q = 42 ∨ f q = 47 ∨ f q = 60 ∨ f q = 61 ∨ f q = 62) → q_Tx_go_287 y 1 (w8.1 129 10) w8 Q := fun g => by
        have ew : wrq f n q = (f q, q, q + 1, [], 0, false) := by
          unfold wrq
          rw [if_neg nq, if_neg (nt d), if_neg (nt d2), if_pos (mk1_t.mpr g)]
        rw [ew] at h1
        refine Eq.mpr (q_Tx_go_287.eq_1 _ _ _ _ _) ⟨Or.inr i_1, h1 (fun z => by have z' : f q = 33 := z; omega) _ (fin _ (Or.inl rfl)) (FR.I (FR.I (FR.I (FR.I F8 rfl) rfl) rfl) rfl) ⟨?_, ?_, ?_, ?_, fun z => ?_⟩ ?_⟩
        · rw [sI_same]
          show _ = tkm (f q)
          unfold tkm
          rw [if_neg (by omega), if_neg (by omega), if_neg (by omega)]
          omega
        · rw [sI_ne _ _ _ _ _ (by decide), sI_ne _ _ _ _ _ (by decide), sI_ne _ _ _ _ _ (by decide), sI_ne _ _ _ _ _ (by decide)]
          exact a5
        · rw [sI_ne _ _ _ _ _ (by decide), sI_ne _ _ _ _ _ (by decide), sI_same]
          exact s
        · rw [sI_ne _ _ _ _ _ (by decide), sI_same]
          exact s
        · have z' : f q = 31 := z
          omega
        · rw [sI_ne _ _ _ _ _ (by decide), sI_ne _ _ _ _ _ (by decide), sI_ne _ _ _ _ _ (by decide), sI_same]
          exact a10
      have bad : ¬ (f q = 123 ∨ f q = 125 ∨ f q = 40 ∨ f q = 41 ∨ f q = 59 ∨ f q = 43 ∨ f q = 45 ∨ f q = 42 ∨ f q = 47 ∨ f q = 60 ∨ f q = 61 ∨ f q = 62) → q_Tx_go_287 y 0 (w8.1 129 2) w8 Q := fun g => by
        have ew : wrq f n q = (33, q, q + 1, [], 0, false) := by
          unfold wrq
          rw [if_neg nq, if_neg (nt d), if_neg (nt d2), if_neg (nt (mk1_f.mpr g))]
        rw [ew] at h0
        refine Eq.mpr (q_Tx_go_287.eq_1 _ _ _ _ _) ⟨Or.inl i_0, h0 rfl _ (fin _ (Or.inr rfl)) (FR.I (FR.I (FR.I (FR.I F8 rfl) rfl) rfl) rfl) ?_⟩
        rw [sI_ne _ _ _ _ _ (by decide), sI_ne _ _ _ _ _ (by decide), sI_ne _ _ _ _ _ (by decide), sI_same]
        exact a2
      exact ⟨fun d => good (by omega), fun d0 => ⟨fun d => good (by omega), fun d1 => ⟨fun d => good (by omega), fun d2 => ⟨fun d => good (by omega), fun d3 => ⟨fun d => good (by omega), fun d4 => ⟨fun d => good (by omega), fun d5 => ⟨fun d => good (by omega), fun d6 => ⟨fun d => good (by omega), fun d7 => ⟨fun d => good (by omega), fun d8 => ⟨fun d => good (by omega), fun d9 => ⟨fun d => good (by omega), fun d10 => ⟨fun d => bad (by omega), fun d => good (by omega)⟩⟩⟩⟩⟩⟩⟩⟩⟩⟩⟩⟩
  · rw [a2, X8.1] at c
    have cq := Classical.not_not.mp c
    have ew : wrq f n q = (32, q, q, [], 0, false) := by
      unfold wrq
      rw [if_pos (by omega)]
    rw [ew] at h1
    refine h1 (by show ¬ (32 : Int) = 33; decide) _ (wbd_129_4 (wbd_129_6 B8 (by omega) (by omega)) (by decide) (by decide)) (FR.I (FR.I F8 rfl) rfl) ⟨?_, ?_, ?_, ?_, fun z => absurd z (by show ¬ (32 : Int) = 31; decide)⟩ ?_
    · rw [sI_same]
      show (1 : Int32).toInt = tkm 32
      decide
    · rw [sI_ne _ _ _ _ _ (by decide), sI_ne _ _ _ _ _ (by decide)]
      exact a5
    · rw [sI_ne _ _ _ _ _ (by decide), sI_ne _ _ _ _ _ (by decide)]
      exact a2
    · rw [sI_ne _ _ _ _ _ (by decide), sI_same]
      exact a2
    · rw [sI_ne _ _ _ _ _ (by decide), sI_ne _ _ _ _ _ (by decide)]
      exact a10
