/-! the words of a program's text -/
def lt1 (c : Int) : Bool := decide (97 ≤ c ∧ c ≤ 122)
def dg1 (c : Int) : Bool := decide (48 ≤ c ∧ c ≤ 57)
def ld1 (c : Int) : Bool := lt1 c || dg1 c
def bd1 (c : Int) : Bool := ld1 c || decide (c = 46)
def mk1 (c : Int) : Bool := decide (c = 123 ∨ c = 125 ∨ c = 40 ∨ c = 41 ∨ c = 59 ∨ c = 43 ∨ c = 45 ∨ c = 42 ∨ c = 47 ∨ c = 60 ∨ c = 61 ∨ c = 62)
theorem lt1_t {c : Int} : lt1 c = true ↔ 97 ≤ c ∧ c ≤ 122 := decide_eq_true_iff
theorem lt1_f {c : Int} : lt1 c = false ↔ ¬ (97 ≤ c ∧ c ≤ 122) := decide_eq_false_iff_not
theorem dg1_t {c : Int} : dg1 c = true ↔ 48 ≤ c ∧ c ≤ 57 := decide_eq_true_iff
theorem dg1_f {c : Int} : dg1 c = false ↔ ¬ (48 ≤ c ∧ c ≤ 57) := decide_eq_false_iff_not
theorem mk1_t {c : Int} : mk1 c = true ↔ (c = 123 ∨ c = 125 ∨ c = 40 ∨ c = 41 ∨ c = 59 ∨ c = 43 ∨ c = 45 ∨ c = 42 ∨ c = 47 ∨ c = 60 ∨ c = 61 ∨ c = 62) := decide_eq_true_iff
theorem mk1_f {c : Int} : mk1 c = false ↔ ¬ (c = 123 ∨ c = 125 ∨ c = 40 ∨ c = 41 ∨ c = 59 ∨ c = 43 ∨ c = 45 ∨ c = 42 ∨ c = 47 ∨ c = 60 ∨ c = 61 ∨ c = 62) := decide_eq_false_iff_not
theorem ld1_t {c : Int} : ld1 c = true ↔ (97 ≤ c ∧ c ≤ 122) ∨ (48 ≤ c ∧ c ≤ 57) := by
  unfold ld1
  rw [Bool.or_eq_true, lt1_t, dg1_t]
theorem ld1_f {c : Int} : ld1 c = false ↔ ¬ (97 ≤ c ∧ c ≤ 122) ∧ ¬ (48 ≤ c ∧ c ≤ 57) := by
  unfold ld1
  rw [Bool.or_eq_false_iff, lt1_f, dg1_f]
theorem bd1_t {c : Int} : bd1 c = true ↔ ((97 ≤ c ∧ c ≤ 122) ∨ (48 ≤ c ∧ c ≤ 57)) ∨ c = 46 := by
  unfold bd1
  rw [Bool.or_eq_true, ld1_t, decide_eq_true_iff]
theorem bd1_f {c : Int} : bd1 c = false ↔ (¬ (97 ≤ c ∧ c ≤ 122) ∧ ¬ (48 ≤ c ∧ c ≤ 57)) ∧ ¬ c = 46 := by
  unfold bd1
  rw [Bool.or_eq_false_iff, ld1_f, decide_eq_false_iff_not]
/-- up to k letters and digits from p -/
def lts (f : Int → Int) : Nat → Int → List Int
  | 0, _ => []
  | k + 1, p => if ld1 (f p) = true then f p :: lts f k (p + 1) else []
/-- up to k digits from p -/
def dgl (f : Int → Int) : Nat → Int → List Int
  | 0, _ => []
  | k + 1, p => if dg1 (f p) = true then f p :: dgl f k (p + 1) else []
def cdg (c : Int) : Int := if c < 97 then c - 48 + 27 else c - 97 + 1
/-- letters as a number of base 37 -/
def cod (a : Int) : List Int → Int
  | [] => a
  | c :: l => cod (a * 37 + cdg c) l
def vlu (a : Int) : List Int → Int
  | [] => a
  | c :: l => vlu (a * 10 + c - 48) l
def fra (b a : Int) : List Int → Int
  | [] => a
  | c :: l => fra (b / 10) (a + b * (c - 48)) l
def kwl : List (List Int) := [[108], [99], [115], [98, 97, 114], [112, 97, 114, 116], [109, 105, 110], [104], [115, 105, 103, 110, 97, 108], [111, 117, 116, 112, 117, 116], [115, 116, 101, 112], [115, 101, 116], [119, 97, 105, 116], [117, 110, 116, 105, 108], [114, 97, 109, 112], [105, 110], [112, 97, 114], [105, 102], [101, 108, 115, 101], [114, 101, 112, 101, 97, 116], [108, 105, 109, 105, 116], [116, 104, 101, 110], [97, 115, 107], [100, 111], [115, 116, 111, 112], [104, 111, 108, 100], [97, 99, 116]]
def kix (l : List Int) : List (List Int) → Int → Int
  | [], _ => 30
  | k :: ks, i => if k = l then i else kix l ks (i + 1)
/-- a word's number: 1 to 26, or 30 of a name -/
def kwd (l : List Int) : Int := kix l kwl 1
/-- a word: its kind, where it begins (or is wrong), what is behind it, its letters, its value, whether it has a point -/
abbrev Tk : Type := Int × Int × Int × List Int × Int × Bool
def wrL (f : Int → Int) (q : Int) : Tk := if bd1 (f (q + ((lts f 12 q).length : Int))) = true then (33, q + ((lts f 12 q).length : Int), q + ((lts f 12 q).length : Int), lts f 12 q, 0, false) else (kwd (lts f 12 q), q, q + ((lts f 12 q).length : Int), lts f 12 q, 0, false)
/-- where the first digits end -/
def dge (f : Int → Int) (q : Int) : Int := q + ((dgl f 9 q).length : Int)
def dgp (f : Int → Int) (q : Int) : Bool := decide (f (dge f q) = 46 ∧ dg1 (f (dge f q + 1)) = true)
def dgf (f : Int → Int) (q : Int) : List Int := if dgp f q = true then dgl f 3 (dge f q + 1) else []
def dgn (f : Int → Int) (q : Int) : Int := if dgp f q = true then dge f q + 1 + ((dgl f 3 (dge f q + 1)).length : Int) else dge f q
def dgz (f : Int → Int) (q : Int) : Int := fra 100 (vlu 0 (dgl f 9 q) * 1000) (dgf f q)
def wrN (f : Int → Int) (q : Int) : Tk := if bd1 (f (dgn f q)) = true then (33, dgn f q, dgn f q, [], dgz f q, dgp f q) else (31, q, dgn f q, [], dgz f q, dgp f q)
def wrq (f : Int → Int) (n q : Int) : Tk := if n ≤ q then (32, q, q, [], 0, false) else if lt1 (f q) = true then wrL f q else if dg1 (f q) = true then wrN f q else if mk1 (f q) = true then (f q, q, q + 1, [], 0, false) else (33, q, q + 1, [], 0, false)
/-- the word that is read from p on -/
def wrd (f : Int → Int) (n p : Int) : Tk := wrq f n (skp f n 4001 p)
theorem lts_u (f : Int → Int) (k : Nat) (p : Int) : lts f (k + 1) p = if ld1 (f p) = true then f p :: lts f k (p + 1) else [] := rfl
theorem dgl_u (f : Int → Int) (k : Nat) (p : Int) : dgl f (k + 1) p = if dg1 (f p) = true then f p :: dgl f k (p + 1) else [] := rfl
theorem lts_m (f : Int → Int) : ∀ (k : Nat) (p : Int), (lts f k p).length ≤ k ∧ ∀ c ∈ lts f k p, (97 ≤ c ∧ c ≤ 122) ∨ (48 ≤ c ∧ c ≤ 57) := by
  intro k
  induction k with
  | zero => exact fun p => ⟨Nat.le_refl _, fun c h => (by cases h)⟩
  | succ k ih =>
    intro p
    rw [lts_u]
    by_cases q : ld1 (f p) = true
    · rw [if_pos q]
      refine ⟨Nat.succ_le_succ (ih (p + 1)).1, fun c h => ?_⟩
      rcases List.mem_cons.mp h with e | e
      · rw [e]
        exact ld1_t.mp q
      · exact (ih (p + 1)).2 c e
    · rw [if_neg q]
      exact ⟨Nat.zero_le _, fun c h => (by cases h)⟩
theorem dgl_m (f : Int → Int) : ∀ (k : Nat) (p : Int), (dgl f k p).length ≤ k ∧ ∀ c ∈ dgl f k p, 48 ≤ c ∧ c ≤ 57 := by
  intro k
  induction k with
  | zero => exact fun p => ⟨Nat.le_refl _, fun c h => (by cases h)⟩
  | succ k ih =>
    intro p
    rw [dgl_u]
    by_cases q : dg1 (f p) = true
    · rw [if_pos q]
      refine ⟨Nat.succ_le_succ (ih (p + 1)).1, fun c h => ?_⟩
      rcases List.mem_cons.mp h with e | e
      · rw [e]
        exact dg1_t.mp q
      · exact (ih (p + 1)).2 c e
    · rw [if_neg q]
      exact ⟨Nat.zero_le _, fun c h => (by cases h)⟩
def ldc (c : Int) : Prop := (97 ≤ c ∧ c ≤ 122) ∨ (48 ≤ c ∧ c ≤ 57)
theorem cdg_b {c : Int} (h : ldc c) : 1 ≤ cdg c ∧ cdg c ≤ 36 := by
  unfold cdg
  rcases h with h | h
  · rw [if_neg (by omega)]
    omega
  · rw [if_pos (by omega)]
    omega
theorem cdg_i {c d : Int} (h : ldc c) (h' : ldc d) (e : cdg c = cdg d) : c = d := by
  unfold cdg at e
  rcases h with h | h
  · rw [if_neg (by omega)] at e
    rcases h' with h' | h'
    · rw [if_neg (by omega)] at e
      omega
    · rw [if_pos (by omega)] at e
      omega
  · rw [if_pos (by omega)] at e
    rcases h' with h' | h'
    · rw [if_neg (by omega)] at e
      omega
    · rw [if_pos (by omega)] at e
      omega
theorem cod_a : ∀ (l m : List Int) (a : Int), cod a (l ++ m) = cod (cod a l) m := by
  intro l
  induction l with
  | nil => exact fun _ _ => rfl
  | cons c l ih => exact fun m a => ih m (a * 37 + cdg c)
theorem cod_s (l : List Int) (c a : Int) : cod a (l ++ [c]) = cod a l * 37 + cdg c := by
  rw [cod_a]
  rfl
theorem cod_0 : ∀ (l : List Int) (a : Int), 0 ≤ a → (∀ c ∈ l, ldc c) → 0 ≤ cod a l ∧ (l ≠ [] ∨ 0 < a → 0 < cod a l) := by
  intro l
  induction l with
  | nil => exact fun a a0 _ => ⟨a0, fun h => h.resolve_left (fun z => z rfl)⟩
  | cons c l ih =>
    intro a a0 h
    have b := cdg_b (h c List.mem_cons_self)
    have t := ih (a * 37 + cdg c) (by omega) (fun d hd => h d (List.mem_cons_of_mem _ hd))
    exact ⟨t.1, fun _ => t.2 (Or.inr (by omega))⟩
/-- words are equal when their codes are -/
theorem cod_i : ∀ (n : Nat) (l m : List Int), l.length ≤ n → (∀ c ∈ l, ldc c) → (∀ c ∈ m, ldc c) → cod 0 l = cod 0 m → l = m := by
  intro n
  induction n with
  | zero =>
    intro l m hl h h' e
    have el : l = [] := List.length_eq_zero_iff.mp (Nat.le_zero.mp hl)
    rw [el] at e ⊢
    by_cases q : m = []
    · exact q.symm
    · have t := (cod_0 m 0 (Int.le_refl _) h').2 (Or.inl q)
      rw [← e] at t
      exact absurd t (by decide)
  | succ n ih =>
    intro l m hl h h' e
    rcases List.eq_nil_or_concat l with el | ⟨l', c, el⟩
    · rw [el] at e ⊢
      by_cases q : m = []
      · exact q.symm
      · have t := (cod_0 m 0 (Int.le_refl _) h').2 (Or.inl q)
        rw [← e] at t
        exact absurd t (by decide)
    · rcases List.eq_nil_or_concat m with em | ⟨m', d, em⟩
      · rw [em] at e
        have t := (cod_0 l 0 (Int.le_refl _) h).2 (Or.inl (by rw [el]; exact fun z => by simp at z))
        rw [e] at t
        exact absurd t (by decide)
      · rw [List.concat_eq_append] at el em
        rw [el] at hl h e ⊢
        rw [em] at h' e ⊢
        rw [cod_s, cod_s] at e
        have hc : ldc c := h c (List.mem_append_right _ List.mem_cons_self)
        have hd : ldc d := h' d (List.mem_append_right _ List.mem_cons_self)
        have b1 := cdg_b hc
        have b2 := cdg_b hd
        have e1 : cdg c = cdg d := by omega
        have e2 : cod 0 l' = cod 0 m' := by omega
        rw [List.length_append, List.length_singleton] at hl
        rw [cdg_i hc hd e1, ih l' m' (by omega) (fun x hx => h x (List.mem_append_left _ hx)) (fun x hx => h' x (List.mem_append_left _ hx)) e2]
theorem kwl_m : ∀ k ∈ kwl, k.length ≤ 6 ∧ ∀ c ∈ k, 97 ≤ c ∧ c ≤ 122 := by decide
theorem kix_u (l k : List Int) (ks : List (List Int)) (i : Int) : kix l (k :: ks) i = if k = l then i else kix l ks (i + 1) := rfl
theorem kix_b (l : List Int) : ∀ (ks : List (List Int)) (i : Int), kix l ks i = 30 ∨ (i ≤ kix l ks i ∧ kix l ks i < i + (ks.length : Int)) := by
  intro ks
  induction ks with
  | nil => exact fun i => Or.inl rfl
  | cons k ks ih =>
    intro i
    rw [kix_u]
    by_cases q : k = l
    · rw [if_pos q, List.length_cons]
      right
      omega
    · rw [if_neg q, List.length_cons]
      rcases ih (i + 1) with h | h
      · exact Or.inl h
      · right
        omega
theorem kwd_b (l : List Int) : kwd l = 30 ∨ (1 ≤ kwd l ∧ kwd l ≤ 26) := by
  rcases kix_b l kwl 1 with h | h
  · exact Or.inl h
  · right
    have e : (kwl.length : Int) = 26 := by decide
    unfold kwd
    omega
