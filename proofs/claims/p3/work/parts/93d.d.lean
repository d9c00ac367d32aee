/-! statements and blocks of a program -/
/-- while a statement is read: where the next word is, the nodes, how many statements are read, the kids, the argument, its unit and block -/
abbrev ZS : Type := Int × List Nod × Int × List Nat × Int × Int × Int
abbrev ZR : Type := Bool × Int × ZS
def zer (e : Int) : ZR := (false, e, 0, [], 0, [], 0, 0, 0)
def zok (s : ZS) : ZR := (true, 0, s)
abbrev ZQ : Type := Nat → List (Int × Int) → ZS → ZR → Prop
/-- behind the word that is next -/
def zgo (f : Int → Int) (n : Int) (s : ZS) : ZR := if (wrd f n (wrd f n s.1).2.2.1).1 = 33 then zer (wrd f n (wrd f n s.1).2.2.1).2.1 else zok ((wrd f n s.1).2.2.1, s.2)
/-- this word -/
def ztk (f : Int → Int) (n c : Int) (s : ZS) : ZR := if (wrd f n s.1).1 = c then zgo f n s else zer (wrd f n s.1).2.1
/-- a name of this kind -/
def znm (f : Int → Int) (n : Int) (lk : List Int → Int × Int × Int × Int) (c : Int) (s : ZS) : ZR := if (wrd f n s.1).1 = 30 ∧ 0 ≤ (lk (wrd f n s.1).2.2.2.1).1 ∧ (lk (wrd f n s.1).2.2.2.1).2.1 = c then zgo f n (s.1, s.2.1, s.2.2.1, s.2.2.2.1, (lk (wrd f n s.1).2.2.2.1).1, (lk (wrd f n s.1).2.2.2.1).2.2.1, (lk (wrd f n s.1).2.2.2.1).2.2.2) else zer (wrd f n s.1).2.1
/-- a sum of the unit c, or of the name's -/
def zsm (f : Int → Int) (n : Int) (lk : List Int → Int × Int × Int × Int) (op : Nat) (c : Int) (s : ZS) (r : ZR) : Prop := ∃ x, (∃ k, XP f n lk k 1 op 0 s.1 s.2.1 x) ∧ (if x.1 = true then (if x.2.2.1 = (if c < 0 then s.2.2.2.2.2.1 else c) then r = zok (x.2.2.2.1, x.2.2.2.2, s.2.2.1, s.2.2.2.1 ++ [x.2.2.2.2.length - 1], s.2.2.2.2) else r = zer (wrd f n x.2.2.2.1).2.1) else r = zer x.2.1)
def zts (f : Int → Int) (n : Int) (lk : List Int → Int × Int × Int × Int) (op : Nat) (s : ZS) (r : ZR) : Prop := ∃ x, (∃ k, XP f n lk k 0 op 0 s.1 s.2.1 x) ∧ (if x.1 = true then r = zok (x.2.2.2.1, x.2.2.2.2, s.2.2.1, s.2.2.2.1 ++ [x.2.2.2.2.length - 1], s.2.2.2.2) else r = zer x.2.1)
/-- the number of an act -/
def zac (f : Int → Int) (n : Int) (s : ZS) : ZR := if (wrd f n s.1).1 = 31 ∧ (wrd f n s.1).2.2.2.2.2 = false ∧ (wrd f n s.1).2.2.2.2.1 < 32000 then zgo f n (s.1, s.2.1, s.2.2.1, s.2.2.2.1, (wrd f n s.1).2.2.2.2.1 / 1000, s.2.2.2.2.2) else zer (wrd f n s.1).2.1
/-- a node that is a kid of what s reads: t is how its own inside ended -/
def znd (f : Int → Int) (n : Int) (s t : ZS) (m : Int) (d : Nod) : ZR := if t.2.1.length = 300 then zer (wrd f n t.1).2.1 else zok (t.1, t.2.1 ++ [d], t.2.2.1 + m, s.2.2.2.1 ++ [t.2.1.length], s.2.2.2.2)
/-- what a statement of this kind is made of -/
def its (k : Int) : List (Int × Int) := if k = 11 then [(1, 9), (2, -1), (0, 59)] else if k = 12 then [(2, 3), (0, 59)] else if k = 13 then [(3, 0), (0, 59)] else if k = 14 then [(1, 9), (2, -1), (0, 15), (2, 3), (0, 59)] else if k = 16 then [(4, 0), (4, 0), (7, 0)] else if k = 17 then [(3, 0), (4, 0), (6, 0)] else if k = 19 then [(2, 0), (4, 0)] else if k = 20 then [(3, 0), (4, 0), (0, 21), (4, 0)] else if k = 22 then [(1, 8), (0, 59)] else if k = 23 then [(1, 10), (0, 59)] else if k = 26 then [(5, 0), (0, 59)] else [(0, 59)]
def isS (k : Int) : Bool := decide ((11 ≤ k ∧ k ≤ 14) ∨ (16 ≤ k ∧ k ≤ 17) ∨ (19 ≤ k ∧ k ≤ 20) ∨ (22 ≤ k ∧ k ≤ 26))
theorem isS_t {k : Int} : isS k = true ↔ ((11 ≤ k ∧ k ≤ 14) ∨ (16 ≤ k ∧ k ≤ 17) ∨ (19 ≤ k ∧ k ≤ 20) ∨ (22 ≤ k ∧ k ≤ 26)) := decide_eq_true_iff
def zin (s : ZS) : ZS := (s.1, s.2.1, s.2.2.1, [], 0, 0, 0)
/-- a block -/
def zbl (f : Int → Int) (n : Int) (X : ZQ) (op : Nat) (s : ZS) (r : ZR) : Prop := if (wrd f n s.1).1 = 123 ∧ op < 20 then ∃ r1, X (op + 1) [(0, 123), (8, 0), (0, 125)] (zin s) r1 ∧ (if r1.1 = true then r = znd f n s r1.2.2 0 (35, 0, 0, r1.2.2.2.2.2.1) else r = r1) else r = zer (wrd f n s.1).2.1
/-- a statement -/
def zst (f : Int → Int) (n : Int) (X : ZQ) (op : Nat) (s : ZS) (r : ZR) : Prop := if isS (wrd f n s.1).1 = true then ∃ r1, X op ((0, (wrd f n s.1).1) :: its (wrd f n s.1).1) (zin s) r1 ∧ (if r1.1 = true then r = znd f n s r1.2.2 1 ((wrd f n s.1).1, r1.2.2.2.2.2.2.1, r1.2.2.2.2.2.2.2.2, r1.2.2.2.2.2.1) else r = r1) else r = zer (wrd f n s.1).2.1
/-- a piece: 0 a word, 1 a name, 2 a sum, 3 a test, 4 a block, 5 an act's number, 6 what else begins, 7 further blocks, 8 statements up to a bracket, 9 a statement, 10 statements up to the end -/
def zit (f : Int → Int) (n : Int) (lk : List Int → Int × Int × Int × Int) (X : ZQ) (op : Nat) (c a : Int) (s : ZS) (r : ZR) : Prop := if c = 0 then r = ztk f n a s else if c = 1 then r = znm f n lk a s else if c = 2 then zsm f n lk op a s r else if c = 3 then zts f n lk op s r else if c = 4 then zbl f n X op s r else if c = 5 then r = zac f n s else if c = 6 then (if (wrd f n s.1).1 = 18 then X op [(0, 18), (4, 0)] s r else r = zok s) else if c = 7 then (if (wrd f n s.1).1 = 123 then X op [(4, 0), (7, 0)] s r else r = zok s) else if c = 8 then (if (wrd f n s.1).1 = 125 then r = zok s else X op [(9, 0), (8, 0)] s r) else if c = 9 then zst f n X op s r else (if (wrd f n s.1).1 = 32 then r = zok s else X op [(9, 0), (10, 0)] s r)
def zseq (f : Int → Int) (n : Int) (lk : List Int → Int × Int × Int × Int) (X : ZQ) (op : Nat) (l : List (Int × Int)) (s : ZS) (r : ZR) : Prop :=
  match l with
  | [] => r = zok s
  | i :: is => ∃ r1, zit f n lk X op i.1 i.2 s r1 ∧ (if r1.1 = true then X op is r1.2.2 r else r = r1)
def ZZ (f : Int → Int) (n : Int) (lk : List Int → Int × Int × Int × Int) : Nat → ZQ
  | 0 => fun _ _ _ _ => False
  | k + 1 => fun op l s r => zseq f n lk (ZZ f n lk k) op l s r
theorem ZZ_u (f : Int → Int) (n : Int) (lk : List Int → Int × Int × Int × Int) (k op : Nat) (l : List (Int × Int)) (s : ZS) (r : ZR) : ZZ f n lk (k + 1) op l s r = zseq f n lk (ZZ f n lk k) op l s r := rfl
theorem ZZ_n (f : Int → Int) (n : Int) (lk : List Int → Int × Int × Int × Int) (k op : Nat) (s : ZS) (r : ZR) : ZZ f n lk (k + 1) op [] s r = (r = zok s) := rfl
theorem ZZ_c (f : Int → Int) (n : Int) (lk : List Int → Int × Int × Int × Int) (k op : Nat) (i : Int × Int) (is : List (Int × Int)) (s : ZS) (r : ZR) : ZZ f n lk (k + 1) op (i :: is) s r = (∃ r1, zit f n lk (ZZ f n lk k) op i.1 i.2 s r1 ∧ (if r1.1 = true then ZZ f n lk k op is r1.2.2 r else r = r1)) := rfl
def ZLe (X Y : ZQ) : Prop := ∀ op l s r, X op l s r → Y op l s r
def ZDt (X Y : ZQ) : Prop := ∀ op l s r r', X op l s r → Y op l s r' → r = r'
theorem ite_m {c : Prop} [Decidable c] {A B A' B' : Prop} (h : if c then A else B) (ha : A → A') (hb : B → B') : if c then A' else B' := by
  by_cases q : c
  · rw [if_pos q] at h ⊢
    exact ha h
  · rw [if_neg q] at h ⊢
    exact hb h
theorem ite_2 {c : Prop} [Decidable c] {A B A' B' C : Prop} (h : if c then A else B) (h' : if c then A' else B') (ha : A → A' → C) (hb : B → B' → C) : C := by
  by_cases q : c
  · rw [if_pos q] at h h'
    exact ha h h'
  · rw [if_neg q] at h h'
    exact hb h h'
theorem zit_m {f : Int → Int} {n : Int} {lk : List Int → Int × Int × Int × Int} {X Y : ZQ} (hX : ZLe X Y) {op : Nat} {c a : Int} {s : ZS} {r : ZR} (h : zit f n lk X op c a s r) : zit f n lk Y op c a s r := by
  unfold zit at h ⊢
  refine ite_m h id (fun h => ite_m h id (fun h => ite_m h id (fun h => ite_m h id (fun h => ite_m h (fun h => ?_) (fun h => ite_m h id (fun h => ite_m h (fun h => ite_m h (hX _ _ _ _) id) (fun h => ite_m h (fun h => ite_m h (hX _ _ _ _) id) (fun h => ite_m h (fun h => ite_m h id (hX _ _ _ _)) (fun h => ite_m h (fun h => ?_) (fun h => ite_m h id (hX _ _ _ _)))))))))))
  · unfold zbl at h ⊢
    refine ite_m h (fun h => ?_) id
    obtain ⟨r1, a, b⟩ := h
    exact ⟨r1, hX _ _ _ _ a, b⟩
  · unfold zst at h ⊢
    refine ite_m h (fun h => ?_) id
    obtain ⟨r1, a, b⟩ := h
    exact ⟨r1, hX _ _ _ _ a, b⟩
theorem ZZ_s (f : Int → Int) (n : Int) (lk : List Int → Int × Int × Int × Int) : ∀ k, ZLe (ZZ f n lk k) (ZZ f n lk (k + 1)) := by
  intro k
  induction k with
  | zero => exact fun _ _ _ _ h => False.elim h
  | succ k ih =>
    intro op l s r h
    cases l with
    | nil => exact h
    | cons i is =>
      rw [ZZ_c] at h ⊢
      obtain ⟨r1, a, b⟩ := h
      exact ⟨r1, zit_m ih a, ite_m b (ih _ _ _ _) id⟩
theorem ZZ_le {f : Int → Int} {n : Int} {lk : List Int → Int × Int × Int × Int} {k k' : Nat} (h : k ≤ k') : ZLe (ZZ f n lk k) (ZZ f n lk k') := by
  induction h with
  | refl => exact fun _ _ _ _ h => h
  | step _ ih => exact fun op l s r h => ZZ_s f n lk _ op l s r (ih op l s r h)
theorem zit_d {f : Int → Int} {n : Int} {lk : List Int → Int × Int × Int × Int} {X Y : ZQ} (hX : ZDt X Y) {op : Nat} {c a : Int} {s : ZS} {r r' : ZR} (h : zit f n lk X op c a s r) (h' : zit f n lk Y op c a s r') : r = r' := by
  have ee : ∀ {z : ZR}, r = z → r' = z → r = r' := fun a b => a.trans b.symm
  unfold zit at h h'
  refine ite_2 h h' ee (fun h h' => ite_2 h h' ee (fun h h' => ite_2 h h' (fun h h' => ?_) (fun h h' => ite_2 h h' (fun h h' => ?_) (fun h h' => ite_2 h h' (fun h h' => ?_) (fun h h' => ite_2 h h' ee (fun h h' => ite_2 h h' (fun h h' => ite_2 h h' (hX _ _ _ _ _) ee) (fun h h' => ite_2 h h' (fun h h' => ite_2 h h' (hX _ _ _ _ _) ee) (fun h h' => ite_2 h h' (fun h h' => ite_2 h h' ee (hX _ _ _ _ _)) (fun h h' => ite_2 h h' (fun h h' => ?_) (fun h h' => ite_2 h h' ee (hX _ _ _ _ _)))))))))))
  · obtain ⟨x, ⟨k, hx⟩, b⟩ := h
    obtain ⟨x', ⟨k', hx'⟩, b'⟩ := h'
    have e := XP_det f n lk k k' _ _ _ _ _ _ _ hx hx'
    rw [← e] at b'
    exact ite_2 b b' (fun b b' => ite_2 b b' ee ee) ee
  · obtain ⟨x, ⟨k, hx⟩, b⟩ := h
    obtain ⟨x', ⟨k', hx'⟩, b'⟩ := h'
    have e := XP_det f n lk k k' _ _ _ _ _ _ _ hx hx'
    rw [← e] at b'
    exact ite_2 b b' ee ee
  · unfold zbl at h h'
    refine ite_2 h h' (fun h h' => ?_) ee
    obtain ⟨r1, a, b⟩ := h
    obtain ⟨r2, a', b'⟩ := h'
    have e := hX _ _ _ _ _ a a'
    rw [← e] at b'
    exact ite_2 b b' ee ee
  · unfold zst at h h'
    refine ite_2 h h' (fun h h' => ?_) ee
    obtain ⟨r1, a, b⟩ := h
    obtain ⟨r2, a', b'⟩ := h'
    have e := hX _ _ _ _ _ a a'
    rw [← e] at b'
    exact ite_2 b b' ee ee
theorem ZZ_det (f : Int → Int) (n : Int) (lk : List Int → Int × Int × Int × Int) : ∀ k k', ZDt (ZZ f n lk k) (ZZ f n lk k') := by
  intro k
  induction k with
  | zero => exact fun k' _ _ _ _ _ h _ => False.elim h
  | succ k ih =>
    intro k'
    cases k' with
    | zero => exact fun _ _ _ _ _ _ h' => False.elim h'
    | succ k' =>
      intro op l s r r' h h'
      cases l with
      | nil =>
        rw [ZZ_n] at h h'
        exact h.trans h'.symm
      | cons i is =>
        rw [ZZ_c] at h h'
        obtain ⟨r1, a, b⟩ := h
        obtain ⟨r2, a', b'⟩ := h'
        have e := zit_d (ih k') a a'
        rw [← e] at b'
        exact ite_2 b b' (ih k' _ _ _ _ _) (fun a b => a.trans b.symm)
/-- some depth -/
def ZE (f : Int → Int) (n : Int) (lk : List Int → Int × Int × Int × Int) (op : Nat) (l : List (Int × Int)) (s : ZS) (r : ZR) : Prop := ∃ k, ZZ f n lk k op l s r
def ZI (f : Int → Int) (n : Int) (lk : List Int → Int × Int × Int × Int) (op : Nat) (c a : Int) (s : ZS) (r : ZR) : Prop := ∃ k, zit f n lk (ZZ f n lk k) op c a s r
theorem ZE_n (f : Int → Int) (n : Int) (lk : List Int → Int × Int × Int × Int) (op : Nat) (s : ZS) : ZE f n lk op [] s (zok s) := ⟨1, by rw [ZZ_n]⟩
/-- a good piece, then the rest -/
theorem ZE_g {f : Int → Int} {n : Int} {lk : List Int → Int × Int × Int × Int} {op : Nat} {c a : Int} {is : List (Int × Int)} {s : ZS} {r1 r : ZR} (h : ZI f n lk op c a s r1) (g : r1.1 = true) (h2 : ZE f n lk op is r1.2.2 r) : ZE f n lk op ((c, a) :: is) s r := by
  obtain ⟨k, h⟩ := h
  obtain ⟨k2, h2⟩ := h2
  refine ⟨k + k2 + 1, ?_⟩
  rw [ZZ_c]
  refine ⟨r1, zit_m (ZZ_le (Nat.le_add_right _ _)) h, ?_⟩
  rw [if_pos g]
  exact ZZ_le (Nat.le_add_left _ _) _ _ _ _ h2
/-- a wrong piece -/
theorem ZE_b {f : Int → Int} {n : Int} {lk : List Int → Int × Int × Int × Int} {op : Nat} {c a : Int} {is : List (Int × Int)} {s : ZS} {r1 : ZR} (h : ZI f n lk op c a s r1) (g : r1.1 = false) : ZE f n lk op ((c, a) :: is) s r1 := by
  obtain ⟨k, h⟩ := h
  refine ⟨k + 1, ?_⟩
  rw [ZZ_c]
  refine ⟨r1, h, ?_⟩
  rw [if_neg (by rw [g]; decide)]
theorem ZE_det {f : Int → Int} {n : Int} {lk : List Int → Int × Int × Int × Int} {op : Nat} {l : List (Int × Int)} {s : ZS} {r r' : ZR} (h : ZE f n lk op l s r) (h' : ZE f n lk op l s r') : r = r' := by
  obtain ⟨k, h⟩ := h
  obtain ⟨k', h'⟩ := h'
  exact ZZ_det f n lk k k' op l s r r' h h'
theorem ZI_0 {f : Int → Int} {n : Int} {lk : List Int → Int × Int × Int × Int} {op : Nat} {a : Int} {s : ZS} {r : ZR} (h : r = ztk f n a s) : ZI f n lk op 0 a s r := ⟨0, h⟩
theorem ZI_1 {f : Int → Int} {n : Int} {lk : List Int → Int × Int × Int × Int} {op : Nat} {a : Int} {s : ZS} {r : ZR} (h : r = znm f n lk a s) : ZI f n lk op 1 a s r := ⟨0, h⟩
theorem ZI_2 {f : Int → Int} {n : Int} {lk : List Int → Int × Int × Int × Int} {op : Nat} {a : Int} {s : ZS} {r : ZR} (h : zsm f n lk op a s r) : ZI f n lk op 2 a s r := ⟨0, h⟩
theorem ZI_3 {f : Int → Int} {n : Int} {lk : List Int → Int × Int × Int × Int} {op : Nat} {a : Int} {s : ZS} {r : ZR} (h : zts f n lk op s r) : ZI f n lk op 3 a s r := ⟨0, h⟩
theorem ZI_5 {f : Int → Int} {n : Int} {lk : List Int → Int × Int × Int × Int} {op : Nat} {a : Int} {s : ZS} {r : ZR} (h : r = zac f n s) : ZI f n lk op 5 a s r := ⟨0, h⟩
theorem ZI_4b {f : Int → Int} {n : Int} {lk : List Int → Int × Int × Int × Int} {op : Nat} {a : Int} {s : ZS} (h : ¬ ((wrd f n s.1).1 = 123 ∧ op < 20)) : ZI f n lk op 4 a s (zer (wrd f n s.1).2.1) := ⟨0, by
  show zbl f n (ZZ f n lk 0) op s _
  unfold zbl
  rw [if_neg h]⟩
theorem ZI_4 {f : Int → Int} {n : Int} {lk : List Int → Int × Int × Int × Int} {op : Nat} {a : Int} {s : ZS} {r1 r : ZR} (h : (wrd f n s.1).1 = 123 ∧ op < 20) (h1 : ZE f n lk (op + 1) [(0, 123), (8, 0), (0, 125)] (zin s) r1) (hr : if r1.1 = true then r = znd f n s r1.2.2 0 (35, 0, 0, r1.2.2.2.2.2.1) else r = r1) : ZI f n lk op 4 a s r := by
  obtain ⟨k, h1⟩ := h1
  refine ⟨k, ?_⟩
  show zbl f n (ZZ f n lk k) op s r
  unfold zbl
  rw [if_pos h]
  exact ⟨r1, h1, hr⟩
theorem ZI_9b {f : Int → Int} {n : Int} {lk : List Int → Int × Int × Int × Int} {op : Nat} {a : Int} {s : ZS} (h : ¬ isS (wrd f n s.1).1 = true) : ZI f n lk op 9 a s (zer (wrd f n s.1).2.1) := ⟨0, by
  show zst f n (ZZ f n lk 0) op s _
  unfold zst
  rw [if_neg h]⟩
theorem ZI_9 {f : Int → Int} {n : Int} {lk : List Int → Int × Int × Int × Int} {op : Nat} {a : Int} {s : ZS} {r1 r : ZR} (h : isS (wrd f n s.1).1 = true) (h1 : ZE f n lk op ((0, (wrd f n s.1).1) :: its (wrd f n s.1).1) (zin s) r1) (hr : if r1.1 = true then r = znd f n s r1.2.2 1 ((wrd f n s.1).1, r1.2.2.2.2.2.2.1, r1.2.2.2.2.2.2.2.2, r1.2.2.2.2.2.1) else r = r1) : ZI f n lk op 9 a s r := by
  obtain ⟨k, h1⟩ := h1
  refine ⟨k, ?_⟩
  show zst f n (ZZ f n lk k) op s r
  unfold zst
  rw [if_pos h]
  exact ⟨r1, h1, hr⟩
theorem ZI_6n {f : Int → Int} {n : Int} {lk : List Int → Int × Int × Int × Int} {op : Nat} {a : Int} {s : ZS} (h : ¬ (wrd f n s.1).1 = 18) : ZI f n lk op 6 a s (zok s) := ⟨0, by
  show (if (wrd f n s.1).1 = 18 then ZZ f n lk 0 op [(0, 18), (4, 0)] s _ else zok s = zok s)
  rw [if_neg h]⟩
theorem ZI_6 {f : Int → Int} {n : Int} {lk : List Int → Int × Int × Int × Int} {op : Nat} {a : Int} {s : ZS} {r : ZR} (h : (wrd f n s.1).1 = 18) (h1 : ZE f n lk op [(0, 18), (4, 0)] s r) : ZI f n lk op 6 a s r := by
  obtain ⟨k, h1⟩ := h1
  refine ⟨k, ?_⟩
  show (if (wrd f n s.1).1 = 18 then ZZ f n lk k op [(0, 18), (4, 0)] s r else r = zok s)
  rw [if_pos h]
  exact h1
theorem ZI_7n {f : Int → Int} {n : Int} {lk : List Int → Int × Int × Int × Int} {op : Nat} {a : Int} {s : ZS} (h : ¬ (wrd f n s.1).1 = 123) : ZI f n lk op 7 a s (zok s) := ⟨0, by
  show (if (wrd f n s.1).1 = 123 then ZZ f n lk 0 op [(4, 0), (7, 0)] s _ else zok s = zok s)
  rw [if_neg h]⟩
theorem ZI_7 {f : Int → Int} {n : Int} {lk : List Int → Int × Int × Int × Int} {op : Nat} {a : Int} {s : ZS} {r : ZR} (h : (wrd f n s.1).1 = 123) (h1 : ZE f n lk op [(4, 0), (7, 0)] s r) : ZI f n lk op 7 a s r := by
  obtain ⟨k, h1⟩ := h1
  refine ⟨k, ?_⟩
  show (if (wrd f n s.1).1 = 123 then ZZ f n lk k op [(4, 0), (7, 0)] s r else r = zok s)
  rw [if_pos h]
  exact h1
theorem ZI_8n {f : Int → Int} {n : Int} {lk : List Int → Int × Int × Int × Int} {op : Nat} {a : Int} {s : ZS} (h : (wrd f n s.1).1 = 125) : ZI f n lk op 8 a s (zok s) := ⟨0, by
  show (if (wrd f n s.1).1 = 125 then zok s = zok s else ZZ f n lk 0 op [(9, 0), (8, 0)] s _)
  rw [if_pos h]⟩
theorem ZI_8 {f : Int → Int} {n : Int} {lk : List Int → Int × Int × Int × Int} {op : Nat} {a : Int} {s : ZS} {r : ZR} (h : ¬ (wrd f n s.1).1 = 125) (h1 : ZE f n lk op [(9, 0), (8, 0)] s r) : ZI f n lk op 8 a s r := by
  obtain ⟨k, h1⟩ := h1
  refine ⟨k, ?_⟩
  show (if (wrd f n s.1).1 = 125 then r = zok s else ZZ f n lk k op [(9, 0), (8, 0)] s r)
  rw [if_neg h]
  exact h1
theorem ZI_10n {f : Int → Int} {n : Int} {lk : List Int → Int × Int × Int × Int} {op : Nat} {a : Int} {s : ZS} (h : (wrd f n s.1).1 = 32) : ZI f n lk op 10 a s (zok s) := ⟨0, by
  show (if (wrd f n s.1).1 = 32 then zok s = zok s else ZZ f n lk 0 op [(9, 0), (10, 0)] s _)
  rw [if_pos h]⟩
theorem ZI_10 {f : Int → Int} {n : Int} {lk : List Int → Int × Int × Int × Int} {op : Nat} {a : Int} {s : ZS} {r : ZR} (h : ¬ (wrd f n s.1).1 = 32) (h1 : ZE f n lk op [(9, 0), (10, 0)] s r) : ZI f n lk op 10 a s r := by
  obtain ⟨k, h1⟩ := h1
  refine ⟨k, ?_⟩
  show (if (wrd f n s.1).1 = 32 then r = zok s else ZZ f n lk k op [(9, 0), (10, 0)] s r)
  rw [if_neg h]
  exact h1
/-! the reference reads statements: the pieces -/
/-- inside of a statement: its kids lie on the pile from lo on -/
def YZ (w : MW) (f : Int → Int) (n : Int) (nm : List Nm) (op : Nat) (e lo : Int) (s : ZS) : Prop := YS w f n nm op e s.1 s.2.1 ∧ PiL w lo s.2.2.2.1 ∧ (w.1 129 38).toInt = s.2.2.1 ∧ 0 ≤ s.2.2.1 ∧ s.2.2.1 ≤ (s.2.1.length : Int)
def KY (lo : Int) (w w' : MW) : Prop := KNm w w' ∧ ∀ k : Int, 0 ≤ k → k < lo → w'.1 144 k.toNat = w.1 144 k.toNat
theorem KY.tr {lo : Int} {w w1 w2 : MW} (h : KY lo w w1) (h2 : KY lo w1 w2) : KY lo w w2 := ⟨h.1.tr h2.1, fun k k0 k1 => (h2.2 k k0 k1).trans (h.2 k k0 k1)⟩
theorem KY.refl (lo : Int) (w : MW) : KY lo w w := ⟨KNm.refl w, fun _ _ _ => rfl⟩
theorem pil_kx {w w' : MW} {lo : Int} {l : List Nat} (h : PiL w lo l) (K : KX w w') : PiL w' lo l := by
  have e := h.1
  have l0 := h.2.1
  refine ⟨by rw [K.2.1]; exact e, l0, fun k c hk => ?_⟩
  have lk := (List.getElem?_eq_some_iff.mp hk).1
  rw [K.2.2.1 (lo + (k : Int)) (by omega) (by omega)]
  exact h.2.2 k c hk
theorem ky_kx {w w' : MW} {lo : Int} {l : List Nat} (h : PiL w lo l) (K : KX w w') : KY lo w w' := by
  have e := h.1
  exact ⟨K.1, fun k k0 k1 => K.2.2.1 k k0 (by omega)⟩
theorem yz_kx {w w' : MW} {f : Int → Int} {n : Int} {nm : List Nm} {op : Nat} {e lo q : Int} {s : ZS} (h : YZ w f n nm op e lo s) (Y' : YS w' f n nm op e q s.2.1) (K : KX w w') (A : Int × Int × Int) : YZ w' f n nm op e lo (q, s.2.1, s.2.2.1, s.2.2.2.1, A) ∧ KY lo w w' :=
  ⟨⟨Y', pil_kx h.2.1 K, by rw [K.2.2.2]; exact h.2.2.1, h.2.2.2.1, h.2.2.2.2⟩, ky_kx h.2.1 K⟩
/-- a word that must stand here -/
theorem yi_tk {w : MW} {f : Int → Int} {n : Int} {nm : List Nm} {op : Nat} {e lo c : Int} {s : ZS} {a : Int32} {Q : Int32 → MW → Prop} (h : YZ w f n nm op e lo s) (hc : ∀ q, ¬ (wrd f n q).1 = 33 → (tkm (wrd f n q).1 = a.toInt ↔ (wrd f n q).1 = c)) (hb : ∀ (w' : MW) (r : ZR), ZI f n (lkn nm) op 0 c s r → r.1 = false → (w'.1 129 10).toInt = r.2.1 → Q 0 w') (hg : ∀ (w' : MW) (s' : ZS), ZI f n (lkn nm) op 0 c s (zok s') → s' = ((wrd f n s.1).2.2.1, s.2) → s.1 ≤ s'.1 → YZ w' f n nm op e lo s' → KY lo w w' → Q 1 w') : p_Tx_over w a Q := by
  refine y_over h.1 (hc s.1 h.1.2.2.1) (fun k ok w' F' Y' K' pn => ?_) (fun k bad w' e' => hb w' (zer (wrd f n (wrd f n s.1).2.2.1).2.1) (ZI_0 (by unfold ztk zgo; rw [if_pos k, if_pos bad])) rfl e') (fun no w' e' => hb w' (zer (wrd f n s.1).2.1) (ZI_0 (by unfold ztk; rw [if_neg no])) rfl e')
  have t := yz_kx h Y' K' s.2.2.2.2
  exact hg w' ((wrd f n s.1).2.2.1, s.2) (ZI_0 (by unfold ztk zgo; rw [if_pos k, if_neg ok])) rfl pn t.1 t.2
/-- the word that stands here -/
theorem yi_go {w : MW} {f : Int → Int} {n : Int} {nm : List Nm} {op : Nat} {e lo c : Int} {s : ZS} {Q : Int32 → MW → Prop} (h : YZ w f n nm op e lo s) (k : (wrd f n s.1).1 = c) (hb : ∀ (w' : MW) (r : ZR), ZI f n (lkn nm) op 0 c s r → r.1 = false → (w'.1 129 10).toInt = r.2.1 → Q 0 w') (hg : ∀ (w' : MW) (s' : ZS), ZI f n (lkn nm) op 0 c s (zok s') → s' = ((wrd f n s.1).2.2.1, s.2) → s.1 ≤ s'.1 → YZ w' f n nm op e lo s' → KX w w' → KY lo w w' → Q 1 w') : p_Tx_go w Q := by
  refine y_go h.1 (fun ok w' F' Y' K' pn => ?_) (fun bad w' e' => hb w' (zer (wrd f n (wrd f n s.1).2.2.1).2.1) (ZI_0 (by unfold ztk zgo; rw [if_pos k, if_pos bad])) rfl e')
  have t := yz_kx h Y' K' s.2.2.2.2
  exact hg w' ((wrd f n s.1).2.2.1, s.2) (ZI_0 (by unfold ztk zgo; rw [if_pos k, if_neg ok])) rfl pn t.1 K' t.2
/-- a name of a kind -/
theorem yi_kn {w : MW} {f : Int → Int} {n : Int} {nm : List Nm} {op : Nat} {e lo c : Int} {s : ZS} {a : Int32} {Q : Int32 → MW → Prop} (h : YZ w f n nm op e lo s) (c8 : c = 8 ∨ c = 9 ∨ c = 10) (ha : a.toInt = mrl c) (hb : ∀ (w' : MW) (r : ZR), ZI f n (lkn nm) op 1 c s r → r.1 = false → (w'.1 129 10).toInt = r.2.1 → Q (-1) w') (hg : ∀ (w' : MW) (s' : ZS) (j : Nat) (x : Nm), nm[j]? = some x → ZI f n (lkn nm) op 1 c s (zok s') → s' = ((wrd f n s.1).2.2.1, s.2.1, s.2.2.1, s.2.2.2.1, (j : Int), x.2.2.1, x.2.2.2) → s.1 ≤ s'.1 → YZ w' f n nm op e lo s' → KY lo w w' → Q (nI j) w') : p_Tx_known w a Q := by
  have hB := h.1.1.1.1
  have bad : ¬ ((wrd f n s.1).1 = 30 ∧ 0 ≤ (lkn nm (wrd f n s.1).2.2.2.1).1 ∧ (lkn nm (wrd f n s.1).2.2.2.1).2.1 = c) → p_Tx_bad w (fun r4 w4 => (Q r4 w4)) := fun no => y_bad h.1 (fun w' e' => hb w' (zer (wrd f n s.1).2.1) (ZI_1 (by unfold znm; rw [if_neg no])) rfl e')
  have neg : ¬ ((wrd f n s.1).1 = 30 ∧ 0 ≤ (lkn nm (wrd f n s.1).2.2.2.1).1 ∧ (lkn nm (wrd f n s.1).2.2.2.1).2.1 = c) → q_Tx_known_16 a (-1) w Q := fun no => Eq.mpr (q_Tx_known_16.eq_1 _ _ _ _) ⟨fun _ => bad no, fun z => absurd (show (-1 : Int32).toInt < 0 by decide) z⟩
  refine Eq.mpr (p_Tx_known.eq_1 _ _ _) (y_isn h.1 (fun k30 => ⟨fun z => absurd z i1n, fun _ => mn_x hB h.1.1.2.2.1 (y_sg h.1 (Or.inl k30)) (fun no => neg ?_) (fun j x hx ex el => ?_)⟩) (fun n30 => ⟨fun _ => neg (fun z => n30 z.1), fun z => absurd i_0 z⟩))
  · intro z
    have t := z.2.1
    unfold lkn at t
    rw [no] at t
    have t' : (0 : Int) ≤ (if ((0 : Int) = 10 ∧ (0 : Int) < 0) then ((-1, 0, 0, 0) : Int × Int × Int × Int) else (-1, 0, 0, 0)).1 := t
    rw [if_neg (by decide)] at t'
    exact absurd t' (by decide)
  · have n4 := h.1.1.2.2.1.2.1
    have jl := (List.getElem?_eq_some_iff.mp hx).1
    have tj : (nI j).toInt = (j : Int) := nI_toInt (by omega)
    have bh := bhf_b hB
    have ei := cc_ix (n := nI j) hB (by omega) (by omega)
    have g := h.1.1.2.2.1.2.2 j x hx
    have eN : (((40 : Int32) * ((1 : Int32) - (w.1 129 12))) + (nI j)).toInt.toNat = (40 * bhf w + (j : Int)).toNat := by omega
    refine Eq.mpr (q_Tx_known_16.eq_1 _ _ _ _) ⟨fun z => absurd z (by omega), fun _ => ⟨⟨by omega, by omega⟩, ?_⟩⟩
    rw [eN, g.2.2.2.1, g.2.2.2.2.2.1, ha]
    have rl : mrl x.2.1 = mrl c ↔ x.2.1 = c := by
      unfold mrl
      rcases g.2.2.2.2.2.2 with q | q | q <;> rcases c8 with p | p | p <;> rw [q, p] <;> decide
    have r10 : mrl c = 24 ↔ c = 10 := by
      unfold mrl
      rcases c8 with p | p | p <;> rw [p] <;> decide
    have ek : ¬ (x.2.1 = 10 ∧ x.2.2.2 < 0) → lkn nm (wrd f n s.1).2.2.2.1 = ((j : Int), x.2.1, x.2.2.1, x.2.2.2) := fun z => by
      unfold lkn
      rw [el]
      exact if_neg z
    have ok : x.2.1 = c → ¬ (x.2.1 = 10 ∧ x.2.2.2 < 0) → p_Tx_go w (fun r9 w9 => ((r9.toInt = 0 → (Q (-1) w9)) ∧ (¬ (r9.toInt = 0) → (Q (nI j) w9)))) := fun ec z => by
      have k := ek z
      have yes : (wrd f n s.1).1 = 30 ∧ 0 ≤ (lkn nm (wrd f n s.1).2.2.2.1).1 ∧ (lkn nm (wrd f n s.1).2.2.2.1).2.1 = c := ⟨k30, by rw [k]; show (0 : Int) ≤ (j : Int); omega, by rw [k]; exact ec⟩
      refine y_go h.1 (fun ok w' F' Y' K' pn => ⟨fun z => absurd z i1n, fun _ => ?_⟩) (fun bd w' e' => ⟨fun _ => hb w' (zer (wrd f n (wrd f n s.1).2.2.1).2.1) (ZI_1 (by unfold znm zgo; rw [if_pos yes, if_pos bd])) rfl e', fun z => absurd i_0 z⟩)
      have t := yz_kx h Y' K' ((j : Int), x.2.2.1, x.2.2.2)
      exact hg w' ((wrd f n s.1).2.2.1, s.2.1, s.2.2.1, s.2.2.2.1, (j : Int), x.2.2.1, x.2.2.2) j x hx (ZI_1 (by unfold znm zgo; rw [if_pos yes, if_neg ok, k])) rfl pn t.1 t.2
    refine ⟨fun ne => bad (fun z => ne (rl.mpr ?_)), fun eq => ?_⟩
    · by_cases q : x.2.1 = 10 ∧ x.2.2.2 < 0
      · have z2 := z.2.1
        unfold lkn at z2
        rw [el] at z2
        have z3 : 0 ≤ (if x.2.1 = 10 ∧ x.2.2.2 < 0 then ((-1, 0, 0, 0) : Int × Int × Int × Int) else ((j : Int), x.2.1, x.2.2.1, x.2.2.2)).1 := z2
        rw [if_pos q] at z3
        exact absurd z3 (by decide)
      · have z2 := z.2.2
        rw [ek q] at z2
        exact z2
    · have ec := rl.mp (Classical.not_not.mp eq)
      refine ⟨fun n24 => ok ec (fun z => n24 (r10.mpr (by rw [← ec]; exact z.1))), fun y24 => ⟨⟨by omega, by omega⟩, fun st => ok ec (fun z => ?_), fun st => bad (fun z => ?_)⟩⟩
      · rw [if_pos z.2] at st
        exact absurd st (by decide)
      · have c10 := r10.mp (Classical.not_not.mp y24)
        have q : x.2.1 = 10 ∧ x.2.2.2 < 0 := ⟨ec.trans c10, by
          by_cases k : x.2.2.2 < 0
          · exact k
          · rw [if_neg k] at st
            omega⟩
        have z2 := z.2.1
        unfold lkn at z2
        rw [el] at z2
        have z3 : 0 ≤ (if x.2.1 = 10 ∧ x.2.2.2 < 0 then ((-1, 0, 0, 0) : Int × Int × Int × Int) else ((j : Int), x.2.1, x.2.2.1, x.2.2.2)).1 := z2
        rw [if_pos q] at z3
        exact absurd z3 (by decide)
/-- a node that was just read, on the pile -/
theorem yp_x {w w1 : MW} {f : Int → Int} {n : Int} {nm : List Nm} {op : Nat} {e lo q M : Int} {s : ZS} {ns1 : List Nod} {y : Int32} {Q : MW → Prop} (h : YZ w f n nm op e lo s) (Y1 : YS w1 f n nm op (e + 1) q ns1) (hy : y.toInt + 1 = (ns1.length : Int)) (n1 : 0 < ns1.length) (KN : KNm w w1) (e35 : w1.1 129 35 = w.1 129 35) (kp : ∀ k : Int, 0 ≤ k → k < (w.1 129 35).toInt → w1.1 144 k.toNat = w.1 144 k.toNat) (m1 : (w1.1 129 38).toInt = M) (M0 : 0 ≤ M) (M1 : M ≤ (ns1.length : Int)) (hQ : ∀ w', YZ w' f n nm op e lo (q, ns1, M, s.2.2.2.1 ++ [ns1.length - 1], s.2.2.2.2) → KY lo w w' → Q w') : p_Tx_push w1 y Q := by
  have e1 := h.2.1.1
  have l0 := h.2.1.2.1
  refine y_push Y1 h.1.1.1.2.1 (by omega) (by omega) (fun w' F' Y' K' e' k' v' => hQ w' ⟨Y', ⟨?_, l0, fun k c hk => ?_⟩, by rw [(F' 129 38 rfl).1]; exact m1, M0, M1⟩ ⟨KN.tr K', fun k k0 k1 => ?_⟩)
  · show (w'.1 129 35).toInt = lo + ((s.2.2.2.1 ++ [ns1.length - 1]).length : Int)
    rw [List.length_append, List.length_singleton, e', e35]
    omega
  · rcases app_get hk with t | ⟨t, t2⟩
    · have lk := (List.getElem?_eq_some_iff.mp t).1
      rw [k' (lo + (k : Int)) (by omega) (by rw [e35]; omega), kp (lo + (k : Int)) (by omega) (by omega)]
      exact h.2.1.2.2 k c t
    · rw [t, t2, show lo + (s.2.2.2.1.length : Int) = (w1.1 129 35).toInt by rw [e35]; omega, v']
      omega
  · rw [k' k k0 (by rw [e35]; omega), kp k k0 (by omega)]
/-- a sum -/
theorem yi_sum {w : MW} {f : Int → Int} {n : Int} {nm : List Nm} {op : Nat} {e lo c : Int} {s : ZS} {a : Int32} {Q : Int32 → MW → Prop} (h : YZ w f n nm op e lo s) (ha : a.toInt = (if c < 0 then s.2.2.2.2.2.1 else c)) (hb : ∀ (w' : MW) (r : ZR), ZI f n (lkn nm) op 2 c s r → r.1 = false → (w'.1 129 10).toInt = r.2.1 → Q 0 w') (hg : ∀ (w' : MW) (s' : ZS), ZI f n (lkn nm) op 2 c s (zok s') → s'.2.2.2.2 = s.2.2.2.2 → s.1 ≤ s'.1 → s.2.1.length < s'.2.1.length → YZ w' f n nm op e lo s' → KY lo w w' → Q 1 w') : p_Tx_sumOf w a Q := by
  refine Eq.mpr (p_Tx_sumOf.eq_1 _ _ _) (y_sum h.1 (fun y w1 x hx o => ?_))
  rcases o with ⟨g, Y1, y1, u1, u0, K1, p1, n1⟩ | ⟨g, y1, e1⟩
  · have l3 := ys_len Y1
    refine ⟨fun _ => y_unit Y1.1.1.1 (by omega) (by omega) ⟨fun eq => ?_, fun ne => ?_⟩, fun z => absurd (show 0 ≤ y.toInt by omega) z⟩
    · have eu : x.2.2.1 = (if c < 0 then s.2.2.2.2.2.1 else c) := by rw [← u1, eq, ha]
      refine yp_x h Y1 y1 (by omega) K1.1 K1.2.1 K1.2.2.1 (by rw [K1.2.2.2]; exact h.2.2.1) h.2.2.2.1 (by have := h.2.2.2.2; omega) (fun w' Z' K' => hg w' (x.2.2.2.1, x.2.2.2.2, s.2.2.1, s.2.2.2.1 ++ [x.2.2.2.2.length - 1], s.2.2.2.2) (ZI_2 ⟨x, hx, ?_⟩) rfl p1 n1 Z' K')
      rw [if_pos g, if_pos eu]
    · have nu : ¬ x.2.2.1 = (if c < 0 then s.2.2.2.2.2.1 else c) := fun q => ne (by rw [u1, q, ha])
      refine hb _ (zer (wrd f n x.2.2.2.1).2.1) (ZI_2 ⟨x, hx, ?_⟩) rfl (y_bg Y1 rfl w1)
      rw [if_pos g, if_neg nu]
  · refine ⟨fun z => absurd z (by omega), fun _ => hb w1 (zer x.2.1) (ZI_2 ⟨x, hx, ?_⟩) rfl e1⟩
    rw [if_neg (by rw [g]; decide)]
/-- a test -/
theorem yi_tst {w : MW} {f : Int → Int} {n : Int} {nm : List Nm} {op : Nat} {e lo : Int} {s : ZS} {Q : Int32 → MW → Prop} (h : YZ w f n nm op e lo s) (hb : ∀ (w' : MW) (r : ZR), ZI f n (lkn nm) op 3 0 s r → r.1 = false → (w'.1 129 10).toInt = r.2.1 → Q 0 w') (hg : ∀ (w' : MW) (s' : ZS), ZI f n (lkn nm) op 3 0 s (zok s') → s'.2.2.2.2 = s.2.2.2.2 → s.1 ≤ s'.1 → s.2.1.length < s'.2.1.length → YZ w' f n nm op e lo s' → KY lo w w' → Q 1 w') : p_Tx_test w (fun r25 w25 => (p_Tx_pushed w25 r25 (fun r26 w26 => Q r26 w26))) := by
  refine y_test h.1 (fun y w1 x hx o => Eq.mpr (p_Tx_pushed.eq_1 _ _ _) ?_)
  rcases o with ⟨g, Y1, y1, K1, p1, n1⟩ | ⟨g, y1, e1⟩
  · have l3 := ys_len Y1
    refine ⟨fun _ => yp_x h Y1 y1 (by omega) K1.1 K1.2.1 K1.2.2.1 (by rw [K1.2.2.2]; exact h.2.2.1) h.2.2.2.1 (by have := h.2.2.2.2; omega) (fun w' Z' K' => hg w' (x.2.2.2.1, x.2.2.2.2, s.2.2.1, s.2.2.2.1 ++ [x.2.2.2.2.length - 1], s.2.2.2.2) (ZI_3 ⟨x, hx, ?_⟩) rfl p1 n1 Z' K'), fun z => absurd (show 0 ≤ y.toInt by omega) z⟩
    rw [if_pos g]
  · refine ⟨fun z => absurd z (by omega), fun _ => hb w1 (zer x.2.1) (ZI_3 ⟨x, hx, ?_⟩) rfl e1⟩
    rw [if_neg (by rw [g]; decide)]
/-- what a block or a statement leaves: r is what the piece says -/
def YR (w w' : MW) (f : Int → Int) (n : Int) (nm : List Nm) (op : Nat) (e : Int) (s : ZS) (r : ZR) (y : Int32) : Prop := (∃ s' : ZS, r = zok s' ∧ YS w' f n nm op (e + 1) s'.1 s'.2.1 ∧ y.toInt + 1 = (s'.2.1.length : Int) ∧ KNm w w' ∧ w'.1 129 35 = w.1 129 35 ∧ (∀ k : Int, 0 ≤ k → k < (w.1 129 35).toInt → w'.1 144 k.toNat = w.1 144 k.toNat) ∧ (w'.1 129 38).toInt = s'.2.2.1 ∧ 0 ≤ s'.2.2.1 ∧ s'.2.2.1 ≤ (s'.2.1.length : Int) ∧ s.1 ≤ s'.1 ∧ s.2.1.length < s'.2.1.length ∧ s'.2.2.2 = (s.2.2.2.1 ++ [s'.2.1.length - 1], s.2.2.2.2) ∧ (w'.1 131 (nb w' y.toInt)).toInt ≤ 23) ∨ (r.1 = false ∧ y.toInt < 0 ∧ (w'.1 129 10).toInt = r.2.1)
/-- F reads the piece c (4 a block, 9 a statement) -/
def HZm (F : MW → (Int32 → MW → Prop) → Prop) (c : Int) (op : Nat) (f : Int → Int) (n : Int) (nm : List Nm) : Prop := ∀ (e : Int) (s : ZS) (w : MW) (Q : Int32 → MW → Prop), YS w f n nm op e s.1 s.2.1 → (w.1 129 38).toInt = s.2.2.1 → 0 ≤ s.2.2.1 → s.2.2.1 ≤ (s.2.1.length : Int) → (∀ (y : Int32) (w' : MW) (r : ZR), ZI f n (lkn nm) op c 0 s r → YR w w' f n nm op e s r y → Q y w') → F w Q
theorem yi_blk {F : MW → (Int32 → MW → Prop) → Prop} {c : Int} {w : MW} {f : Int → Int} {n : Int} {nm : List Nm} {op : Nat} {e lo : Int} {s : ZS} {Q : Int32 → MW → Prop} (hF : HZm F c op f n nm) (h : YZ w f n nm op e lo s) (hb : ∀ (w' : MW) (r : ZR), ZI f n (lkn nm) op c 0 s r → r.1 = false → (w'.1 129 10).toInt = r.2.1 → Q 0 w') (hg : ∀ (w' : MW) (s' : ZS), ZI f n (lkn nm) op c 0 s (zok s') → s'.2.2.2.2 = s.2.2.2.2 → s.1 ≤ s'.1 → s.2.1.length < s'.2.1.length → YZ w' f n nm op e lo s' → KY lo w w' → Q 1 w') : F w (fun r25 w25 => (p_Tx_pushed w25 r25 (fun r26 w26 => Q r26 w26))) := by
  refine hF e s w _ h.1 h.2.2.1 h.2.2.2.1 h.2.2.2.2 (fun y w1 r hr o => Eq.mpr (p_Tx_pushed.eq_1 _ _ _) ?_)
  rcases o with ⟨s', er, Y1, y1, KN, e35, kp, m1, M0, M1, p1, n1, et, k23⟩ | ⟨g, y1, e1⟩
  · refine ⟨fun _ => yp_x h Y1 y1 (by omega) KN e35 kp m1 M0 M1 (fun w' Z' K' => ?_), fun z => absurd (show 0 ≤ y.toInt by omega) z⟩
    rw [er] at hr
    have es : s' = (s'.1, s'.2.1, s'.2.2.1, s.2.2.2.1 ++ [s'.2.1.length - 1], s.2.2.2.2) := by
      show (s'.1, s'.2.1, s'.2.2.1, s'.2.2.2) = _
      rw [et]
    rw [← es] at Z'
    exact hg w' s' hr (by rw [et]) p1 n1 Z' K'
  · exact ⟨fun z => absurd z (by omega), fun _ => hb w1 r hr g e1⟩
/-! the reference reads statements: each kind -/
theorem mng_st (k : Int) (h : k = 30 ∨ (1 ≤ k ∧ k ≤ 26)) : isS k = true ↔ 10 ≤ mng k ∧ mng k ≤ 22 := by
  have t : ∀ j : Nat, j < 31 → ((j : Int) = 30 ∨ (1 ≤ (j : Int) ∧ (j : Int) ≤ 26)) → (isS (j : Int) = true ↔ 10 ≤ mng (j : Int) ∧ mng (j : Int) ≤ 22) := by decide +kernel
  have := t k.toNat (by omega)
  rw [show ((k.toNat : Nat) : Int) = k by omega] at this
  exact this h
theorem tk_st {f : Int → Int} {n p : Int} (h : ¬ (wrd f n p).1 = 33) : (isS (wrd f n p).1 = true ↔ 1010 ≤ tkm (wrd f n p).1 ∧ tkm (wrd f n p).1 ≤ 1022) := by
  have b := tk_unit h
  unfold tkm
  rcases wrd_k f n p with k | k | k | k | k
  · exact absurd k h
  · rw [if_pos k, isS_t]
    omega
  · rw [if_neg (by omega), if_pos k, isS_t]
    omega
  · rw [if_neg (by omega), if_neg (by omega), if_neg (by omega), isS_t]
    omega
  · have b := mng_st _ k.1
    have k1 := k.1
    rw [if_neg (by omega), if_neg (by omega), if_pos (by omega), b]
    omega
theorem wht_st (k : Int) (h : isS k = true) : wht k = mng k ∧ 10 ≤ mng k ∧ mng k ≤ 22 ∧ ¬ k = 31 ∧ ¬ k = 10 := by
  have q := isS_t.mp h
  have m := (mng_st k (by omega)).mp h
  refine ⟨?_, m.1, m.2, by omega, by omega⟩
  unfold wht
  rw [if_neg (by omega), if_neg (by omega), if_neg (by omega), if_neg (by omega), if_neg (by omega), if_neg (by omega), if_neg (by omega), if_neg (by omega), if_neg (by omega), if_neg (by omega), if_neg (by omega)]
theorem s59 {f : Int → Int} {n : Int} : ∀ q, ¬ (wrd f n q).1 = 33 → (tkm (wrd f n q).1 = (59 : Int32).toInt ↔ (wrd f n q).1 = 59) := fun q hq => by
  rw [show (59 : Int32).toInt = 59 by decide]
  exact tk_sign hq (by decide) (by decide)
theorem s15 {f : Int → Int} {n : Int} : ∀ q, ¬ (wrd f n q).1 = 33 → (tkm (wrd f n q).1 = (1032 : Int32).toInt ↔ (wrd f n q).1 = 15) := fun q hq => by
  rw [show (1032 : Int32).toInt = 1000 + mng 15 by decide]
  exact tk_word hq (by decide)
theorem s21 {f : Int → Int} {n : Int} : ∀ q, ¬ (wrd f n q).1 = 33 → (tkm (wrd f n q).1 = (1034 : Int32).toInt ↔ (wrd f n q).1 = 21) := fun q hq => by
  rw [show (1034 : Int32).toInt = 1000 + mng 21 by decide]
  exact tk_word hq (by decide)
/-- what must hold where the pieces L of a statement end: wrong, or good -/
def YBd (f : Int → Int) (n : Int) (nm : List Nm) (op : Nat) (L : List (Int × Int)) (s1 : ZS) (Q : Int32 → MW → Prop) : Prop := ∀ (w' : MW) (r : ZR), ZE f n (lkn nm) op L s1 r → r.1 = false → (w'.1 129 10).toInt = r.2.1 → Q (-1) w'
def YGd (f : Int → Int) (n : Int) (nm : List Nm) (op : Nat) (e lo : Int) (L : List (Int × Int)) (s1 : ZS) (v : MW) (wh ln : Int32) (Q : Int32 → MW → Prop) : Prop := ∀ (w9 : MW) (s9 : ZS) (nn : Int32), ZE f n (lkn nm) op L s1 (zok s9) → YZ w9 f n nm op e lo s9 → KY lo v w9 → nn.toInt = s9.2.2.2.2.1 → s1.1 ≤ s9.1 → p_Tx_node0 (sI w9 129 38 ((w9.1 129 38) + (1 : Int32))) wh (Int32.toInt64 nn) ln (-1) (v.1 129 35) (fun r10 w10 => (Q r10 w10))
/-- set -/
theorem yk_set {B S : MW → (Int32 → MW → Prop) → Prop} {f : Int → Int} {n : Int} {nm : List Nm} {op : Nat} {e lo : Int} {s1 : ZS} {v : MW} {wh ln : Int32} {Q : Int32 → MW → Prop} (hZ : YZ v f n nm op e lo s1) (bad : YBd f n nm op [(1, 9), (2, -1), (0, 59)] s1 Q) (good : YGd f n nm op e lo [(1, 9), (2, -1), (0, 59)] s1 v wh ln Q) : (p_Tx_known v 31 (fun r7 w7 => ((r7.toInt < 0 → (q_Tx_statement_195 B S wh ln (v.1 129 35) r7 0 w7 Q)) ∧ (¬ (r7.toInt < 0) → ((0 ≤ (((40 : Int32) * ((1 : Int32) - (w7.1 129 12))) + r7).toInt ∧ (((40 : Int32) * ((1 : Int32) - (w7.1 129 12))) + r7).toInt < 80) ∧ (p_Tx_sumOf w7 (w7.1 142 ((((40 : Int32) * ((1 : Int32) - (w7.1 129 12))) + r7).toInt.toNat)) (fun r12 w12 => ((r12.toInt = 0 → (q_Tx_statement_195 B S wh ln (v.1 129 35) r7 0 w12 Q)) ∧ (¬ (r12.toInt = 0) → (p_Tx_over w12 59 (fun r15 w15 => ((r15.toInt = 0 → (q_Tx_statement_195 B S wh ln (v.1 129 35) r7 0 w15 Q)) ∧ (¬ (r15.toInt = 0) → (q_Tx_statement_195 B S wh ln (v.1 129 35) r7 1 w15 Q)))))))))))))) := by
  have B0 : ∀ (w' : MW) (r : ZR) (x : Int32), ZE f n (lkn nm) op [(1, 9), (2, -1), (0, 59)] s1 r → r.1 = false → (w'.1 129 10).toInt = r.2.1 → q_Tx_statement_195 B S wh ln (v.1 129 35) x 0 w' Q := fun w' r x a b c => Eq.mpr (q_Tx_statement_195.eq_1 _ _ _ _ _ _ _ _ _) ⟨fun z => absurd i_0 z, fun _ => bad w' r a b c⟩
  refine yi_kn (c := 9) hZ (by decide) (by decide) (fun w' r hz hf ew => ⟨fun _ => B0 w' r _ (ZE_b hz hf) hf ew, fun z => absurd (show (-1 : Int32).toInt < 0 by decide) z⟩) (fun w7 s7 j x hx hz es p7 Z7 K7 => ?_)
  have n4 := Z7.1.1.2.2.1.2.1
  have jl := (List.getElem?_eq_some_iff.mp hx).1
  have tj : (nI j).toInt = (j : Int) := nI_toInt (by omega)
  have bh := bhf_b Z7.1.1.1.1
  have ei := cc_ix (n := nI j) Z7.1.1.1.1 (by omega) (by omega)
  have g := Z7.1.1.2.2.1.2.2 j x hx
  have eN : (((40 : Int32) * ((1 : Int32) - (w7.1 129 12))) + (nI j)).toInt.toNat = (40 * bhf w7 + (j : Int)).toNat := by omega
  refine ⟨fun z => absurd z (by omega), fun _ => ⟨⟨by omega, by omega⟩, yi_sum (c := -1) Z7 (by rw [eN, if_pos (by decide), es]; exact g.2.2.2.2.1) (fun w' r hz2 hf ew => ⟨fun _ => B0 w' r _ (ZE_g hz rfl (ZE_b hz2 hf)) hf ew, fun z => absurd i_0 z⟩) (fun w12 s12 hz2 ea p12 n12 Z12 K12 => ⟨fun z => absurd z i1n, fun _ => yi_tk (c := 59) Z12 s59 (fun w' r hz3 hf ew => ⟨fun _ => B0 w' r _ (ZE_g hz rfl (ZE_g hz2 rfl (ZE_b hz3 hf))) hf ew, fun z => absurd i_0 z⟩) (fun w15 s15 hz3 es3 p15 Z15 K15 => ⟨fun z => absurd z i1n, fun _ => Eq.mpr (q_Tx_statement_195.eq_1 _ _ _ _ _ _ _ _ _) ⟨fun _ => good w15 s15 (nI j) (ZE_g hz rfl (ZE_g hz2 rfl (ZE_g hz3 rfl (ZE_n _ _ _ _ _)))) Z15 ((K7.tr K12).tr K15) ?_ (by omega), fun z => absurd i1n z⟩⟩)⟩)⟩⟩
  rw [es3]
  show _ = s12.2.2.2.2.1
  rw [ea, es]
  exact tj
/-- ramp -/
theorem yk_ramp {B S : MW → (Int32 → MW → Prop) → Prop} {f : Int → Int} {n : Int} {nm : List Nm} {op : Nat} {e lo : Int} {s1 : ZS} {v : MW} {wh ln : Int32} {Q : Int32 → MW → Prop} (hZ : YZ v f n nm op e lo s1) (bad : YBd f n nm op [(1, 9), (2, -1), (0, 15), (2, 3), (0, 59)] s1 Q) (good : YGd f n nm op e lo [(1, 9), (2, -1), (0, 15), (2, 3), (0, 59)] s1 v wh ln Q) : (p_Tx_known v 31 (fun r33 w33 => ((r33.toInt < 0 → (q_Tx_statement_195 B S wh ln (v.1 129 35) r33 0 w33 Q)) ∧ (¬ (r33.toInt < 0) → ((0 ≤ (((40 : Int32) * ((1 : Int32) - (w33.1 129 12))) + r33).toInt ∧ (((40 : Int32) * ((1 : Int32) - (w33.1 129 12))) + r33).toInt < 80) ∧ (p_Tx_sumOf w33 (w33.1 142 ((((40 : Int32) * ((1 : Int32) - (w33.1 129 12))) + r33).toInt.toNat)) (fun r36 w36 => ((r36.toInt = 0 → (q_Tx_statement_195 B S wh ln (v.1 129 35) r33 0 w36 Q)) ∧ (¬ (r36.toInt = 0) → (p_Tx_over w36 1032 (fun r39 w39 => ((r39.toInt = 0 → (q_Tx_statement_195 B S wh ln (v.1 129 35) r33 0 w39 Q)) ∧ (¬ (r39.toInt = 0) → (p_Tx_sumOf w39 3 (fun r41 w41 => ((r41.toInt = 0 → (q_Tx_statement_195 B S wh ln (v.1 129 35) r33 0 w41 Q)) ∧ (¬ (r41.toInt = 0) → (p_Tx_over w41 59 (fun r43 w43 => ((r43.toInt = 0 → (q_Tx_statement_195 B S wh ln (v.1 129 35) r33 0 w43 Q)) ∧ (¬ (r43.toInt = 0) → (q_Tx_statement_195 B S wh ln (v.1 129 35) r33 1 w43 Q)))))))))))))))))))))) := by
  have B0 : ∀ (w' : MW) (r : ZR) (x : Int32), ZE f n (lkn nm) op [(1, 9), (2, -1), (0, 15), (2, 3), (0, 59)] s1 r → r.1 = false → (w'.1 129 10).toInt = r.2.1 → q_Tx_statement_195 B S wh ln (v.1 129 35) x 0 w' Q := fun w' r x a b c => Eq.mpr (q_Tx_statement_195.eq_1 _ _ _ _ _ _ _ _ _) ⟨fun z => absurd i_0 z, fun _ => bad w' r a b c⟩
  refine yi_kn (c := 9) hZ (by decide) (by decide) (fun w' r hz hf ew => ⟨fun _ => B0 w' r _ (ZE_b hz hf) hf ew, fun z => absurd (show (-1 : Int32).toInt < 0 by decide) z⟩) (fun w7 s7 j x hx hz es p7 Z7 K7 => ?_)
  have n4 := Z7.1.1.2.2.1.2.1
  have jl := (List.getElem?_eq_some_iff.mp hx).1
  have tj : (nI j).toInt = (j : Int) := nI_toInt (by omega)
  have bh := bhf_b Z7.1.1.1.1
  have ei := cc_ix (n := nI j) Z7.1.1.1.1 (by omega) (by omega)
  have g := Z7.1.1.2.2.1.2.2 j x hx
  have eN : (((40 : Int32) * ((1 : Int32) - (w7.1 129 12))) + (nI j)).toInt.toNat = (40 * bhf w7 + (j : Int)).toNat := by omega
  refine ⟨fun z => absurd z (by omega), fun _ => ⟨⟨by omega, by omega⟩, yi_sum (c := -1) Z7 (by rw [eN, if_pos (by decide), es]; exact g.2.2.2.2.1) (fun w' r hz2 hf ew => ⟨fun _ => B0 w' r _ (ZE_g hz rfl (ZE_b hz2 hf)) hf ew, fun z => absurd i_0 z⟩) (fun w12 s12 hz2 ea p12 n12 Z12 K12 => ⟨fun z => absurd z i1n, fun _ => yi_tk (c := 15) Z12 s15 (fun w' r hz3 hf ew => ⟨fun _ => B0 w' r _ (ZE_g hz rfl (ZE_g hz2 rfl (ZE_b hz3 hf))) hf ew, fun z => absurd i_0 z⟩) (fun w15 s15 hz3 es3 p15 Z15 K15 => ⟨fun z => absurd z i1n, fun _ => yi_sum (c := 3) Z15 (by rw [if_neg (by decide)]; decide) (fun w' r hz4 hf ew => ⟨fun _ => B0 w' r _ (ZE_g hz rfl (ZE_g hz2 rfl (ZE_g hz3 rfl (ZE_b hz4 hf)))) hf ew, fun z => absurd i_0 z⟩) (fun w16 s16 hz4 ea4 p16 n16 Z16 K16 => ⟨fun z => absurd z i1n, fun _ => yi_tk (c := 59) Z16 s59 (fun w' r hz5 hf ew => ⟨fun _ => B0 w' r _ (ZE_g hz rfl (ZE_g hz2 rfl (ZE_g hz3 rfl (ZE_g hz4 rfl (ZE_b hz5 hf))))) hf ew, fun z => absurd i_0 z⟩) (fun w17 s17 hz5 es5 p17 Z17 K17 => ⟨fun z => absurd z i1n, fun _ => Eq.mpr (q_Tx_statement_195.eq_1 _ _ _ _ _ _ _ _ _) ⟨fun _ => good w17 s17 (nI j) (ZE_g hz rfl (ZE_g hz2 rfl (ZE_g hz3 rfl (ZE_g hz4 rfl (ZE_g hz5 rfl (ZE_n _ _ _ _ _)))))) Z17 ((((K7.tr K12).tr K15).tr K16).tr K17) ?_ (by omega), fun z => absurd i1n z⟩⟩)⟩)⟩)⟩)⟩⟩
  rw [es5]
  show _ = s16.2.2.2.2.1
  rw [ea4, es3]
  show _ = s12.2.2.2.2.1
  rw [ea, es]
  exact tj
/-- wait -/
theorem yk_wait {B S : MW → (Int32 → MW → Prop) → Prop} {f : Int → Int} {n : Int} {nm : List Nm} {op : Nat} {e lo : Int} {s1 : ZS} {v : MW} {wh ln : Int32} {Q : Int32 → MW → Prop} (hZ : YZ v f n nm op e lo s1) (hA : s1.2.2.2.2 = (0, 0, 0)) (bad : YBd f n nm op [(2, 3), (0, 59)] s1 Q) (good : YGd f n nm op e lo [(2, 3), (0, 59)] s1 v wh ln Q) : (p_Tx_sumOf v 3 (fun r18 w18 => ((r18.toInt = 0 → (q_Tx_statement_222 B S wh ln (v.1 129 35) 0 0 w18 Q)) ∧ (¬ (r18.toInt = 0) → (p_Tx_over w18 59 (fun r22 w22 => ((r22.toInt = 0 → (q_Tx_statement_222 B S wh ln (v.1 129 35) 0 0 w22 Q)) ∧ (¬ (r22.toInt = 0) → (q_Tx_statement_222 B S wh ln (v.1 129 35) 0 1 w22 Q))))))))) := by
  have B0 : ∀ (w' : MW) (r : ZR), ZE f n (lkn nm) op [(2, 3), (0, 59)] s1 r → r.1 = false → (w'.1 129 10).toInt = r.2.1 → q_Tx_statement_222 B S wh ln (v.1 129 35) 0 0 w' Q := fun w' r a b c => Eq.mpr (q_Tx_statement_222.eq_1 _ _ _ _ _ _ _ _ _) ⟨fun z => absurd i_0 z, fun _ => bad w' r a b c⟩
  refine yi_sum (c := 3) hZ (by rw [if_neg (by decide)]; decide) (fun w' r hz hf ew => ⟨fun _ => B0 w' r (ZE_b hz hf) hf ew, fun z => absurd i_0 z⟩) (fun w1 s2 hz ea p1 n1 Z1 K1 => ⟨fun z => absurd z i1n, fun _ => yi_tk (c := 59) Z1 s59 (fun w' r hz2 hf ew => ⟨fun _ => B0 w' r (ZE_g hz rfl (ZE_b hz2 hf)) hf ew, fun z => absurd i_0 z⟩) (fun w2 s3 hz2 es2 p2 Z2 K2 => ⟨fun z => absurd z i1n, fun _ => Eq.mpr (q_Tx_statement_222.eq_1 _ _ _ _ _ _ _ _ _) ⟨fun _ => good w2 s3 0 (ZE_g hz rfl (ZE_g hz2 rfl (ZE_n _ _ _ _ _))) Z2 (K1.tr K2) ?_ (by omega), fun z => absurd i1n z⟩⟩)⟩)
  rw [es2]
  show _ = s2.2.2.2.2.1
  rw [ea, hA]
  decide
/-- until -/
theorem yk_until {B S : MW → (Int32 → MW → Prop) → Prop} {f : Int → Int} {n : Int} {nm : List Nm} {op : Nat} {e lo : Int} {s1 : ZS} {v : MW} {wh ln : Int32} {Q : Int32 → MW → Prop} (hZ : YZ v f n nm op e lo s1) (hA : s1.2.2.2.2 = (0, 0, 0)) (bad : YBd f n nm op [(3, 0), (0, 59)] s1 Q) (good : YGd f n nm op e lo [(3, 0), (0, 59)] s1 v wh ln Q) : (p_Tx_test v  (fun r25 w25 => (p_Tx_pushed w25 r25 (fun r26 w26 => ((r26.toInt = 0 → (q_Tx_statement_252 B S wh ln (v.1 129 35) 0 0 w26 Q)) ∧ (¬ (r26.toInt = 0) → (p_Tx_over w26 59 (fun r30 w30 => ((r30.toInt = 0 → (q_Tx_statement_252 B S wh ln (v.1 129 35) 0 0 w30 Q)) ∧ (¬ (r30.toInt = 0) → (q_Tx_statement_252 B S wh ln (v.1 129 35) 0 1 w30 Q))))))))))) := by
  have B0 : ∀ (w' : MW) (r : ZR), ZE f n (lkn nm) op [(3, 0), (0, 59)] s1 r → r.1 = false → (w'.1 129 10).toInt = r.2.1 → q_Tx_statement_252 B S wh ln (v.1 129 35) 0 0 w' Q := fun w' r a b c => Eq.mpr (q_Tx_statement_252.eq_1 _ _ _ _ _ _ _ _ _) ⟨fun z => absurd i_0 z, fun _ => bad w' r a b c⟩
  refine yi_tst hZ (fun w' r hz hf ew => ⟨fun _ => B0 w' r (ZE_b hz hf) hf ew, fun z => absurd i_0 z⟩) (fun w1 s2 hz ea p1 n1 Z1 K1 => ⟨fun z => absurd z i1n, fun _ => yi_tk (c := 59) Z1 s59 (fun w' r hz2 hf ew => ⟨fun _ => B0 w' r (ZE_g hz rfl (ZE_b hz2 hf)) hf ew, fun z => absurd i_0 z⟩) (fun w2 s3 hz2 es2 p2 Z2 K2 => ⟨fun z => absurd z i1n, fun _ => Eq.mpr (q_Tx_statement_252.eq_1 _ _ _ _ _ _ _ _ _) ⟨fun _ => good w2 s3 0 (ZE_g hz rfl (ZE_g hz2 rfl (ZE_n _ _ _ _ _))) Z2 (K1.tr K2) ?_ (by omega), fun z => absurd i1n z⟩⟩)⟩)
  rw [es2]
  show _ = s2.2.2.2.2.1
  rw [ea, hA]
  decide
/-- ask, do -/
theorem yk_480 {B S : MW → (Int32 → MW → Prop) → Prop} {f : Int → Int} {n : Int} {nm : List Nm} {op : Nat} {e lo c : Int} {s1 : ZS} {v : MW} {wh ln a : Int32} {Q : Int32 → MW → Prop} (hZ : YZ v f n nm op e lo s1) (c8 : c = 8 ∨ c = 9 ∨ c = 10) (ha : a.toInt = mrl c) (bad : YBd f n nm op [(1, c), (0, 59)] s1 Q) (good : YGd f n nm op e lo [(1, c), (0, 59)] s1 v wh ln Q) : q_Tx_statement_480 B S wh ln (v.1 129 35) a v Q := by
  have B0 : ∀ (w' : MW) (r : ZR) (x : Int32), ZE f n (lkn nm) op [(1, c), (0, 59)] s1 r → r.1 = false → (w'.1 129 10).toInt = r.2.1 → q_Tx_statement_504 B S wh ln (v.1 129 35) x 0 w' Q := fun w' r x a b c => Eq.mpr (q_Tx_statement_504.eq_1 _ _ _ _ _ _ _ _ _) ⟨fun z => absurd i_0 z, fun _ => bad w' r a b c⟩
  refine Eq.mpr (q_Tx_statement_480.eq_1 _ _ _ _ _ _ _ _) (yi_kn (c := c) hZ c8 ha (fun w' r hz hf ew => ⟨fun _ => B0 w' r _ (ZE_b hz hf) hf ew, fun z => absurd (show (-1 : Int32).toInt < 0 by decide) z⟩) (fun w7 s7 j x hx hz es p7 Z7 K7 => ?_))
  have n4 := Z7.1.1.2.2.1.2.1
  have jl := (List.getElem?_eq_some_iff.mp hx).1
  have tj : (nI j).toInt = (j : Int) := nI_toInt (by omega)
  refine ⟨fun z => absurd z (by omega), fun _ => yi_tk (c := 59) Z7 s59 (fun w' r hz2 hf ew => ⟨fun _ => B0 w' r _ (ZE_g hz rfl (ZE_b hz2 hf)) hf ew, fun z => absurd i_0 z⟩) (fun w2 s3 hz2 es2 p2 Z2 K2 => ⟨fun z => absurd z i1n, fun _ => Eq.mpr (q_Tx_statement_504.eq_1 _ _ _ _ _ _ _ _ _) ⟨fun _ => good w2 s3 (nI j) (ZE_g hz rfl (ZE_g hz2 rfl (ZE_n _ _ _ _ _))) Z2 (K7.tr K2) ?_ (by omega), fun z => absurd i1n z⟩⟩)⟩
  rw [es2]
  show _ = s7.2.2.2.2.1
  rw [es]
  exact tj
/-- stop, hold -/
theorem yk_stop {f : Int → Int} {n : Int} {nm : List Nm} {op : Nat} {e lo : Int} {s1 : ZS} {v : MW} {wh ln : Int32} {Q : Int32 → MW → Prop} (hZ : YZ v f n nm op e lo s1) (hA : s1.2.2.2.2 = (0, 0, 0)) (bad : YBd f n nm op [(0, 59)] s1 Q) (good : YGd f n nm op e lo [(0, 59)] s1 v wh ln Q) : (p_Tx_over v 59 (fun r113 w113 => ((¬ r113.toInt = 0 → (p_Tx_node0 (sI w113 129 38 ((w113.1 129 38) + (1 : Int32))) wh (Int32.toInt64 (0 : Int32)) ln (-1) (v.1 129 35) (fun r115 w115 => (Q r115 w115)))) ∧ (¬ (¬ r113.toInt = 0) → (Q (-1) w113))))) := by
  refine yi_tk (c := 59) hZ s59 (fun w' r hz2 hf ew => ⟨fun z => absurd i_0 z, fun _ => bad w' r (ZE_b hz2 hf) hf ew⟩) (fun w2 s3 hz2 es2 p2 Z2 K2 => ⟨fun _ => good w2 s3 0 (ZE_g hz2 rfl (ZE_n _ _ _ _ _)) Z2 K2 ?_ p2, fun z => absurd i1n z⟩)
  rw [es2]
  show _ = s1.2.2.2.2.1
  rw [hA]
  decide
/-- act -/
theorem yk_act {B S : MW → (Int32 → MW → Prop) → Prop} {f : Int → Int} {n : Int} {nm : List Nm} {op : Nat} {e lo : Int} {s1 : ZS} {v : MW} {wh ln : Int32} {Q : Int32 → MW → Prop} (hZ : YZ v f n nm op e lo s1) (bad : YBd f n nm op [(5, 0), (0, 59)] s1 Q) (good : YGd f n nm op e lo [(5, 0), (0, 59)] s1 v wh ln Q) : ((¬ (v.1 129 4).toInt = 2000 → (p_Tx_bad v  (fun r122 w122 => (Q r122 w122)))) ∧ (¬ (¬ (v.1 129 4).toInt = 2000) → ((¬ (v.1 129 9).toInt = 0 → (p_Tx_bad v  (fun r124 w124 => (Q r124 w124)))) ∧ (¬ (¬ (v.1 129 9).toInt = 0) → (((lg_cmp (v.2.1 129 8) (32000 : Int64)).toInt < 0 → (p_Tx_go v  (fun r126 w126 => ((r126.toInt = 0 → (q_Tx_statement_574 B S wh ln (v.1 129 35) (Int64.toInt32 ((v.2.1 129 8) / (1000 : Int64))) 0 w126 Q)) ∧ (¬ (r126.toInt = 0) → (p_Tx_over w126 59 (fun r130 w130 => ((r130.toInt = 0 → (q_Tx_statement_574 B S wh ln (v.1 129 35) (Int64.toInt32 ((v.2.1 129 8) / (1000 : Int64))) 0 w130 Q)) ∧ (¬ (r130.toInt = 0) → (q_Tx_statement_574 B S wh ln (v.1 129 35) (Int64.toInt32 ((v.2.1 129 8) / (1000 : Int64))) 1 w130 Q)))))))))) ∧ (¬ ((lg_cmp (v.2.1 129 8) (32000 : Int64)).toInt < 0) → (p_Tx_bad v  (fun r132 w132 => (Q r132 w132))))))))) := by
  have B0 : ∀ (w' : MW) (r : ZR) (x : Int32), ZE f n (lkn nm) op [(5, 0), (0, 59)] s1 r → r.1 = false → (w'.1 129 10).toInt = r.2.1 → q_Tx_statement_574 B S wh ln (v.1 129 35) x 0 w' Q := fun w' r x a b c => Eq.mpr (q_Tx_statement_574.eq_1 _ _ _ _ _ _ _ _ _) ⟨fun z => absurd i_0 z, fun _ => bad w' r a b c⟩
  have no : ¬ ((wrd f n s1.1).1 = 31 ∧ (wrd f n s1.1).2.2.2.2.2 = false ∧ (wrd f n s1.1).2.2.2.2.1 < 32000) → p_Tx_bad v (fun r122 w122 => (Q r122 w122)) := fun q => y_bad hZ.1 (fun w' e' => bad w' (zer (wrd f n s1.1).2.1) (ZE_b (ZI_5 (by unfold zac; rw [if_neg q])) rfl) rfl e')
  have t31 := tk_num (f := f) (n := n) (p := s1.1) hZ.1.2.2.1
  have tk := y_tk hZ.1
  rw [tk]
  refine ⟨fun z => no (fun q => z (t31.mpr q.1)), fun z => ?_⟩
  have k31 := t31.mp (Classical.not_not.mp z)
  have T := hZ.1.2.1.2.2.2.2 k31
  have vb := wrd_v (f := f) (n := n) (p := s1.1)
  rw [T.2]
  refine ⟨fun z2 => no (fun q => z2 (by rw [if_neg (by rw [q.2.1]; decide)])), fun z2 => ?_⟩
  have np : (wrd f n s1.1).2.2.2.2.2 = false := by
    have z3 := Classical.not_not.mp z2
    by_cases q : (wrd f n s1.1).2.2.2.2.2 = true
    · rw [if_pos q] at z3
      exact absurd z3 (by decide)
    · exact Bool.not_eq_true _ ▸ q
  have cm := nb_cmp (v.2.1 129 8) (32000 : Int64)
  rw [(by decide : ((32000 : Int64)).toInt = 32000), T.1] at cm
  refine ⟨fun c => ?_, fun c => no (fun q => by have := q.2.2; omega)⟩
  have yes : (wrd f n s1.1).1 = 31 ∧ (wrd f n s1.1).2.2.2.2.2 = false ∧ (wrd f n s1.1).2.2.2.2.1 < 32000 := ⟨k31, np, by omega⟩
  have ed := nb_ldiv (show 0 ≤ (v.2.1 129 8).toInt by rw [T.1]; exact vb.1) (by decide : ((1000 : Int64)).toInt = 1000) (by omega)
  have en := nb_l2i (x := (v.2.1 129 8) / (1000 : Int64)) (by rw [ed, T.1]; omega) (by rw [ed, T.1]; omega)
  refine y_go hZ.1 (fun ok w7 F7 Y7 K7 p7 => ⟨fun z => absurd z i1n, fun _ => ?_⟩) (fun bd w7 e7 => ⟨fun _ => B0 w7 (zer (wrd f n (wrd f n s1.1).2.2.1).2.1) _ (ZE_b (ZI_5 (by unfold zac zgo; rw [if_pos yes, if_pos bd])) rfl) rfl e7, fun z => absurd i_0 z⟩)
  have t := yz_kx hZ Y7 K7 ((wrd f n s1.1).2.2.2.2.1 / 1000, s1.2.2.2.2.2)
  have hz : ZI f n (lkn nm) op 5 0 s1 (zok ((wrd f n s1.1).2.2.1, s1.2.1, s1.2.2.1, s1.2.2.2.1, (wrd f n s1.1).2.2.2.2.1 / 1000, s1.2.2.2.2.2)) := ZI_5 (by unfold zac zgo; rw [if_pos yes, if_neg ok])
  refine yi_tk (c := 59) t.1 s59 (fun w' r hz2 hf ew => ⟨fun _ => B0 w' r _ (ZE_g hz rfl (ZE_b hz2 hf)) hf ew, fun z => absurd i_0 z⟩) (fun w2 s3 hz2 es2 p2 Z2 K2 => ⟨fun z => absurd z i1n, fun _ => Eq.mpr (q_Tx_statement_574.eq_1 _ _ _ _ _ _ _ _ _) ⟨fun _ => good w2 s3 _ (ZE_g hz rfl (ZE_g hz2 rfl (ZE_n _ _ _ _ _))) Z2 (t.2.tr K2) ?_ (Int.le_trans p7 p2), fun z => absurd i1n z⟩⟩)
  rw [es2]
  show _ = (wrd f n s1.1).2.2.2.2.1 / 1000
  rw [en, ed, T.1]
/-- par: further blocks -/
theorem yk_286 {B S : MW → (Int32 → MW → Prop) → Prop} {f : Int → Int} {n : Int} {nm : List Nm} {op : Nat} {e lo : Int} {L : List (Int × Int)} {s1 : ZS} {v : MW} {wh ln : Int32} {Q : Int32 → MW → Prop} (hB : HZm B 4 op f n nm) (bad : YBd f n nm op L s1 Q) (good : YGd f n nm op e lo L s1 v wh ln Q) (m : Nat) : ∀ (w1 : MW) (s : ZS), YZ w1 f n nm op e lo s → KY lo v w1 → s1.1 ≤ s.1 → s.2.2.2.2 = (0, 0, 0) → (∀ r, ZI f n (lkn nm) op 7 0 s r → r.1 = false → ZE f n (lkn nm) op L s1 r) → (∀ s9, ZI f n (lkn nm) op 7 0 s (zok s9) → ZE f n (lkn nm) op L s1 (zok s9)) → 301 - s.2.1.length < m → q_Tx_statement_286 B S wh ln (v.1 129 35) 0 (fun (e286_5_53 : Int32) (w53 : MW) => ((¬ e286_5_53.toInt = 0 → (p_Tx_node0 (sI w53 129 38 ((w53.1 129 38) + (1 : Int32))) wh (Int32.toInt64 0) ln (-1) (v.1 129 35) (fun r55 w55 => (Q r55 w55)))) ∧ (¬ (¬ e286_5_53.toInt = 0) → (Q (-1) w53)))) Q m 1 w1 := by
  induction m with
  | zero => intros; omega
  | succ m ih =>
    intro w1 s hZ K p1 hA Hb Hg hm
    have l3 := ys_len hZ.1
    have tk := y_tk hZ.1
    have t123 := tk_sign (f := f) (n := n) (p := s.1) (c := 123) hZ.1.2.2.1 (by decide) (by decide)
    rw [q_Tx_statement_286.eq_2, tk]
    refine ⟨fun z => absurd z i1n, fun _ => ⟨fun z => ⟨fun _ => good w1 s 0 (Hg s (ZI_7n (fun q => z (t123.mpr q)))) hZ K ?_ p1, fun z => absurd i1n z⟩, fun z => ?_⟩⟩
    · rw [hA]
      decide
    · have k := t123.mp (Classical.not_not.mp z)
      refine yi_blk hB hZ (fun w' r hz hf ew => ?_) (fun w2 s2 hz ea p2 n2 Z2 K2 => ?_)
      · cases m with
        | zero => omega
        | succ m =>
          rw [q_Tx_statement_286.eq_2]
          exact ⟨fun _ => ⟨fun z => absurd i_0 z, fun _ => bad w' r (Hb r (ZI_7 k (ZE_b hz hf)) hf) hf ew⟩, fun z => absurd i_0 z⟩
      · have l2 := ys_len Z2.1
        exact ih w2 s2 Z2 (K.tr K2) (by omega) (ea.trans hA) (fun r h7 hf => Hb r (ZI_7 k (ZE_g hz rfl (ZE_b h7 hf))) hf) (fun s9 h7 => Hg s9 (ZI_7 k (ZE_g hz rfl (ZE_g h7 rfl (ZE_n _ _ _ _ _))))) (by omega)
theorem n_286 {B S : MW → (Int32 → MW → Prop) → Prop} {a b c d : Int32} {E : Int32 → MW → Prop} {Q : Int32 → MW → Prop} {w : MW} (h : E 0 w) (m : Nat) (hm : 0 < m) : q_Tx_statement_286 B S a b c d E Q m 0 w := by
  cases m with
  | zero => omega
  | succ m =>
    rw [q_Tx_statement_286.eq_2]
    exact ⟨fun _ => h, fun z => absurd i_0 z⟩
theorem yk_par {B S : MW → (Int32 → MW → Prop) → Prop} {f : Int → Int} {n : Int} {nm : List Nm} {op : Nat} {e lo : Int} {s1 : ZS} {v : MW} {wh ln : Int32} {Q : Int32 → MW → Prop} (hB : HZm B 4 op f n nm) (hZ : YZ v f n nm op e lo s1) (hA : s1.2.2.2.2 = (0, 0, 0)) (bad : YBd f n nm op [(4, 0), (4, 0), (7, 0)] s1 Q) (good : YGd f n nm op e lo [(4, 0), (4, 0), (7, 0)] s1 v wh ln Q) : (B v  (fun r46 w46 => (p_Tx_pushed w46 r46 (fun r47 w47 => ((r47.toInt = 0 → (q_Tx_statement_284 B S wh ln (v.1 129 35) 0 0 w47 Q)) ∧ (¬ (r47.toInt = 0) → (B w47  (fun r56 w56 => (p_Tx_pushed w56 r56 (fun r57 w57 => ((r57.toInt = 0 → (q_Tx_statement_284 B S wh ln (v.1 129 35) 0 0 w57 Q)) ∧ (¬ (r57.toInt = 0) → (q_Tx_statement_284 B S wh ln (v.1 129 35) 0 1 w57 Q))))))))))))) := by
  have fu : (1000 : Nat) < FU := fu_lt (by decide)
  have B0 : ∀ (w' : MW) (r : ZR), ZE f n (lkn nm) op [(4, 0), (4, 0), (7, 0)] s1 r → r.1 = false → (w'.1 129 10).toInt = r.2.1 → q_Tx_statement_284 B S wh ln (v.1 129 35) 0 0 w' Q := fun w' r a b c => Eq.mpr (q_Tx_statement_284.eq_1 _ _ _ _ _ _ _ _ _) (n_286 ⟨fun z => absurd i_0 z, fun _ => bad w' r a b c⟩ FU (by omega))
  refine yi_blk hB hZ (fun w' r hz hf ew => ⟨fun _ => B0 w' r (ZE_b hz hf) hf ew, fun z => absurd i_0 z⟩) (fun w1 s2 hz ea p1 n1 Z1 K1 => ⟨fun z => absurd z i1n, fun _ => yi_blk hB Z1 (fun w' r hz2 hf ew => ⟨fun _ => B0 w' r (ZE_g hz rfl (ZE_b hz2 hf)) hf ew, fun z => absurd i_0 z⟩) (fun w2 s3 hz2 ea2 p2 n2 Z2 K2 => ⟨fun z => absurd z i1n, fun _ => Eq.mpr (q_Tx_statement_284.eq_1 _ _ _ _ _ _ _ _ _) (yk_286 hB bad good FU w2 s3 Z2 (K1.tr K2) (by omega) ((ea2.trans ea).trans hA) (fun r h7 hf => ZE_g hz rfl (ZE_g hz2 rfl (ZE_b h7 hf))) (fun s9 h7 => ZE_g hz rfl (ZE_g hz2 rfl (ZE_g h7 rfl (ZE_n _ _ _ _ _)))) (by omega))⟩)⟩)
/-- if -/
theorem yk_if {B S : MW → (Int32 → MW → Prop) → Prop} {f : Int → Int} {n : Int} {nm : List Nm} {op : Nat} {e lo : Int} {s1 : ZS} {v : MW} {wh ln : Int32} {Q : Int32 → MW → Prop} (hB : HZm B 4 op f n nm) (hZ : YZ v f n nm op e lo s1) (hA : s1.2.2.2.2 = (0, 0, 0)) (bad : YBd f n nm op [(3, 0), (4, 0), (6, 0)] s1 Q) (good : YGd f n nm op e lo [(3, 0), (4, 0), (6, 0)] s1 v wh ln Q) : (p_Tx_test v  (fun r60 w60 => (p_Tx_pushed w60 r60 (fun r61 w61 => ((r61.toInt = 0 → (q_Tx_statement_340 B S wh ln (v.1 129 35) 0 0 w61 Q)) ∧ (¬ (r61.toInt = 0) → (B w61  (fun r77 w77 => (p_Tx_pushed w77 r77 (fun r78 w78 => ((r78.toInt = 0 → (q_Tx_statement_340 B S wh ln (v.1 129 35) 0 0 w78 Q)) ∧ (¬ (r78.toInt = 0) → (q_Tx_statement_340 B S wh ln (v.1 129 35) 0 1 w78 Q))))))))))))) := by
  have B0 : ∀ (w' : MW) (r : ZR), ZE f n (lkn nm) op [(3, 0), (4, 0), (6, 0)] s1 r → r.1 = false → (w'.1 129 10).toInt = r.2.1 → q_Tx_statement_340 B S wh ln (v.1 129 35) 0 0 w' Q := fun w' r a b c => Eq.mpr (q_Tx_statement_340.eq_1 _ _ _ _ _ _ _ _ _) ⟨fun _ => ⟨fun z => absurd i_0 z, fun _ => bad w' r a b c⟩, fun z => absurd i_0 z⟩
  have M0 : ∀ (w' : MW) (r : ZR), ZE f n (lkn nm) op [(3, 0), (4, 0), (6, 0)] s1 r → r.1 = false → (w'.1 129 10).toInt = r.2.1 → q_Tx_statement_379 B S wh ln (v.1 129 35) 0 0 w' Q := fun w' r a b c => Eq.mpr (q_Tx_statement_379.eq_1 _ _ _ _ _ _ _ _ _) ⟨fun z => absurd i_0 z, fun _ => bad w' r a b c⟩
  refine yi_tst hZ (fun w' r hz hf ew => ⟨fun _ => B0 w' r (ZE_b hz hf) hf ew, fun z => absurd i_0 z⟩) (fun w1 s2 hz ea p1 n1 Z1 K1 => ⟨fun z => absurd z i1n, fun _ => yi_blk hB Z1 (fun w' r hz2 hf ew => ⟨fun _ => B0 w' r (ZE_g hz rfl (ZE_b hz2 hf)) hf ew, fun z => absurd i_0 z⟩) (fun w2 s3 hz2 ea2 p2 n2 Z2 K2 => ⟨fun z => absurd z i1n, fun _ => ?_⟩)⟩)
  have a3 : s3.2.2.2.2 = (0, 0, 0) := (ea2.trans ea).trans hA
  refine Eq.mpr (q_Tx_statement_340.eq_1 _ _ _ _ _ _ _ _ _) ⟨fun z => absurd z i1n, fun _ => y_isw (c := 18) Z2.1 (by decide) (by decide) (fun k18 => ⟨fun z => absurd z i1n, fun _ => ?_⟩) (fun n18 => ⟨fun _ => ⟨fun _ => good w2 s3 0 (ZE_g hz rfl (ZE_g hz2 rfl (ZE_g (ZI_6n n18) rfl (ZE_n _ _ _ _ _)))) Z2 (K1.tr K2) ?_ (by omega), fun z => absurd i1n z⟩, fun z => absurd i_0 z⟩)⟩
  · refine yi_go Z2 k18 (fun w' r hz3 hf ew => ⟨fun _ => M0 w' r (ZE_g hz rfl (ZE_g hz2 rfl (ZE_b (ZI_6 k18 (ZE_b hz3 hf)) hf))) hf ew, fun z => absurd i_0 z⟩) (fun w4 s4 hz3 es3 p4 Z4 _ K4 => ⟨fun z => absurd z i1n, fun _ => yi_blk hB Z4 (fun w' r hz4 hf ew => ⟨fun _ => M0 w' r (ZE_g hz rfl (ZE_g hz2 rfl (ZE_b (ZI_6 k18 (ZE_g hz3 rfl (ZE_b hz4 hf))) hf))) hf ew, fun z => absurd i_0 z⟩) (fun w5 s5 hz4 ea4 p5 n5 Z5 K5 => ⟨fun z => absurd z i1n, fun _ => Eq.mpr (q_Tx_statement_379.eq_1 _ _ _ _ _ _ _ _ _) ⟨fun _ => good w5 s5 0 (ZE_g hz rfl (ZE_g hz2 rfl (ZE_g (ZI_6 k18 (ZE_g hz3 rfl (ZE_g hz4 rfl (ZE_n _ _ _ _ _)))) rfl (ZE_n _ _ _ _ _)))) Z5 (((K1.tr K2).tr K4).tr K5) ?_ (by omega), fun z => absurd i1n z⟩⟩)⟩)
    rw [ea4, es3]
    show _ = s3.2.2.2.2.1
    rw [a3]
    decide
  · rw [a3]
    decide
/-- repeat -/
theorem yk_rep {B S : MW → (Int32 → MW → Prop) → Prop} {f : Int → Int} {n : Int} {nm : List Nm} {op : Nat} {e lo : Int} {s1 : ZS} {v : MW} {wh ln : Int32} {Q : Int32 → MW → Prop} (hB : HZm B 4 op f n nm) (hZ : YZ v f n nm op e lo s1) (hA : s1.2.2.2.2 = (0, 0, 0)) (bad : YBd f n nm op [(2, 0), (4, 0)] s1 Q) (good : YGd f n nm op e lo [(2, 0), (4, 0)] s1 v wh ln Q) : (p_Tx_sumOf v 0 (fun r81 w81 => ((r81.toInt = 0 → (q_Tx_statement_408 B S wh ln (v.1 129 35) 0 0 w81 Q)) ∧ (¬ (r81.toInt = 0) → (B w81  (fun r85 w85 => (p_Tx_pushed w85 r85 (fun r86 w86 => ((r86.toInt = 0 → (q_Tx_statement_408 B S wh ln (v.1 129 35) 0 0 w86 Q)) ∧ (¬ (r86.toInt = 0) → (q_Tx_statement_408 B S wh ln (v.1 129 35) 0 1 w86 Q))))))))))) := by
  have B0 : ∀ (w' : MW) (r : ZR), ZE f n (lkn nm) op [(2, 0), (4, 0)] s1 r → r.1 = false → (w'.1 129 10).toInt = r.2.1 → q_Tx_statement_408 B S wh ln (v.1 129 35) 0 0 w' Q := fun w' r a b c => Eq.mpr (q_Tx_statement_408.eq_1 _ _ _ _ _ _ _ _ _) ⟨fun z => absurd i_0 z, fun _ => bad w' r a b c⟩
  refine yi_sum (c := 0) hZ (by rw [if_neg (by decide)]; decide) (fun w' r hz hf ew => ⟨fun _ => B0 w' r (ZE_b hz hf) hf ew, fun z => absurd i_0 z⟩) (fun w1 s2 hz ea p1 n1 Z1 K1 => ⟨fun z => absurd z i1n, fun _ => yi_blk hB Z1 (fun w' r hz2 hf ew => ⟨fun _ => B0 w' r (ZE_g hz rfl (ZE_b hz2 hf)) hf ew, fun z => absurd i_0 z⟩) (fun w2 s3 hz2 ea2 p2 n2 Z2 K2 => ⟨fun z => absurd z i1n, fun _ => Eq.mpr (q_Tx_statement_408.eq_1 _ _ _ _ _ _ _ _ _) ⟨fun _ => good w2 s3 0 (ZE_g hz rfl (ZE_g hz2 rfl (ZE_n _ _ _ _ _))) Z2 (K1.tr K2) ?_ (by omega), fun z => absurd i1n z⟩⟩)⟩)
  rw [ea2, ea, hA]
  decide
/-- limit -/
theorem yk_limit {B S : MW → (Int32 → MW → Prop) → Prop} {f : Int → Int} {n : Int} {nm : List Nm} {op : Nat} {e lo : Int} {s1 : ZS} {v : MW} {wh ln : Int32} {Q : Int32 → MW → Prop} (hB : HZm B 4 op f n nm) (hZ : YZ v f n nm op e lo s1) (hA : s1.2.2.2.2 = (0, 0, 0)) (bad : YBd f n nm op [(3, 0), (4, 0), (0, 21), (4, 0)] s1 Q) (good : YGd f n nm op e lo [(3, 0), (4, 0), (0, 21), (4, 0)] s1 v wh ln Q) : (p_Tx_test v  (fun r89 w89 => (p_Tx_pushed w89 r89 (fun r90 w90 => ((r90.toInt = 0 → (q_Tx_statement_461 B S wh ln (v.1 129 35) 0 0 w90 Q)) ∧ (¬ (r90.toInt = 0) → (B w90  (fun r94 w94 => (p_Tx_pushed w94 r94 (fun r95 w95 => ((r95.toInt = 0 → (q_Tx_statement_461 B S wh ln (v.1 129 35) 0 0 w95 Q)) ∧ (¬ (r95.toInt = 0) → (p_Tx_over w95 1034 (fun r97 w97 => ((r97.toInt = 0 → (q_Tx_statement_461 B S wh ln (v.1 129 35) 0 0 w97 Q)) ∧ (¬ (r97.toInt = 0) → (B w97  (fun r99 w99 => (p_Tx_pushed w99 r99 (fun r100 w100 => ((r100.toInt = 0 → (q_Tx_statement_461 B S wh ln (v.1 129 35) 0 0 w100 Q)) ∧ (¬ (r100.toInt = 0) → (q_Tx_statement_461 B S wh ln (v.1 129 35) 0 1 w100 Q))))))))))))))))))))))) := by
  have B0 : ∀ (w' : MW) (r : ZR), ZE f n (lkn nm) op [(3, 0), (4, 0), (0, 21), (4, 0)] s1 r → r.1 = false → (w'.1 129 10).toInt = r.2.1 → q_Tx_statement_461 B S wh ln (v.1 129 35) 0 0 w' Q := fun w' r a b c => Eq.mpr (q_Tx_statement_461.eq_1 _ _ _ _ _ _ _ _ _) ⟨fun z => absurd i_0 z, fun _ => bad w' r a b c⟩
  refine yi_tst hZ (fun w' r hz hf ew => ⟨fun _ => B0 w' r (ZE_b hz hf) hf ew, fun z => absurd i_0 z⟩) (fun w1 s2 hz ea p1 n1 Z1 K1 => ⟨fun z => absurd z i1n, fun _ => yi_blk hB Z1 (fun w' r hz2 hf ew => ⟨fun _ => B0 w' r (ZE_g hz rfl (ZE_b hz2 hf)) hf ew, fun z => absurd i_0 z⟩) (fun w2 s3 hz2 ea2 p2 n2 Z2 K2 => ⟨fun z => absurd z i1n, fun _ => yi_tk (c := 21) Z2 s21 (fun w' r hz3 hf ew => ⟨fun _ => B0 w' r (ZE_g hz rfl (ZE_g hz2 rfl (ZE_b hz3 hf))) hf ew, fun z => absurd i_0 z⟩) (fun w4 s4 hz3 es3 p4 Z4 K4 => ⟨fun z => absurd z i1n, fun _ => yi_blk hB Z4 (fun w' r hz4 hf ew => ⟨fun _ => B0 w' r (ZE_g hz rfl (ZE_g hz2 rfl (ZE_g hz3 rfl (ZE_b hz4 hf)))) hf ew, fun z => absurd i_0 z⟩) (fun w5 s5 hz4 ea4 p5 n5 Z5 K5 => ⟨fun z => absurd z i1n, fun _ => Eq.mpr (q_Tx_statement_461.eq_1 _ _ _ _ _ _ _ _ _) ⟨fun _ => good w5 s5 0 (ZE_g hz rfl (ZE_g hz2 rfl (ZE_g hz3 rfl (ZE_g hz4 rfl (ZE_n _ _ _ _ _))))) Z5 (((K1.tr K2).tr K4).tr K5) ?_ (by omega), fun z => absurd i1n z⟩⟩)⟩)⟩)⟩)
  rw [ea4, es3]
  show _ = s3.2.2.2.2.1
  rw [ea2, ea, hA]
  decide
/-! the reference reads statements and blocks -/
/-- a statement's node -/
theorem y_fin {w v : MW} {f : Int → Int} {n : Int} {nm : List Nm} {op : Nat} {e k : Int} {s s1 : ZS} {wh ln : Int32} {L : List (Int × Int)} {Q : Int32 → MW → Prop} (hk : isS k = true) (ek : (wrd f n s.1).1 = k) (hw : wh.toInt = mng k) (hs : YS w f n nm op e s.1 s.2.1) (KX1 : KX w v) (p1 : s.1 ≤ s1.1) (h1 : ∀ r1, ZE f n (lkn nm) op L s1 r1 → ZE f n (lkn nm) op ((0, k) :: its k) (zin s) r1) (hQ : ∀ (y : Int32) (w' : MW) (r : ZR), ZI f n (lkn nm) op 9 0 s r → YR w w' f n nm op e s r y → Q y w') : YGd f n nm op e (w.1 129 35).toInt L s1 v wh ln Q := by
  intro w9 s9 nn hE Z9 K9 en p9
  have ws := wht_st k hk
  have F : FR [(129, some 38)] w9 (sI w9 129 38 ((w9.1 129 38) + (1 : Int32))) := FR.I (FR.refl _ w9) rfl
  have hB : BND (sI w9 129 38 ((w9.1 129 38) + (1 : Int32))) := wbd_129_38 Z9.1.1.1.1
  have l9 := ys_len Z9.1
  have m9 := Z9.2.2.1
  have m0 := Z9.2.2.2.1
  have m1 := Z9.2.2.2.2
  have sm := ti_add2 m9 i_1 (by omega) (by omega)
  have e38 : (sI w9 129 38 ((w9.1 129 38) + (1 : Int32))).1 129 38 = (w9.1 129 38) + (1 : Int32) := sI_same _ _ _ _
  have Y9 : YS (sI w9 129 38 ((w9.1 129 38) + (1 : Int32))) f n nm op e s9.1 s9.2.1 := by
    refine ⟨yb_fr Z9.1.1 F (yj_fr Z9.1.1.1 F hB rfl) rfl, ?_, Z9.1.2.2.1, pnm_k Z9.1.2.2.2.1 (KNm.fr F rfl) Z9.1.1.1.1 (F 129 13 rfl).1, Z9.1.2.2.2.2⟩
    have t := Z9.1.2.1
    unfold TkM at t ⊢
    rw [(F 129 4 rfl).1, (F 129 5 rfl).1, (F 129 2 rfl).1, (F 129 6 rfl).1, (F 129 8 rfl).2.1, (F 129 9 rfl).1]
    exact t
  have P9 : PiL (sI w9 129 38 ((w9.1 129 38) + (1 : Int32))) (w.1 129 35).toInt s9.2.2.2.1 := ⟨by rw [(F 129 35 rfl).1]; exact Z9.2.1.1, Z9.2.1.2.1, fun i c hi => by rw [(F 144 _ rfl).1]; exact Z9.2.1.2.2 i c hi⟩
  have KF : KNm w9 (sI w9 129 38 ((w9.1 129 38) + (1 : Int32))) := KNm.fr F rfl
  have q144 : ∀ j, (sI w9 129 38 ((w9.1 129 38) + (1 : Int32))).1 144 j = w9.1 144 j := fun j => (F 144 j rfl).1
  generalize (sI w9 129 38 ((w9.1 129 38) + (1 : Int32))) = w10 at *
  have all : ∀ r, (if (zok s9).1 = true then r = znd f n s (zok s9).2.2 1 ((wrd f n s.1).1, (zok s9).2.2.2.2.2.2.1, (zok s9).2.2.2.2.2.2.2.2, (zok s9).2.2.2.2.2.1) else r = zok s9) → ZI f n (lkn nm) op 9 0 s r := fun r hr => ZI_9 (by rw [ek]; exact hk) (by rw [ek]; exact h1 _ hE) hr
  have e13 := hs.2.2.2.1.1
  have e913 := Z9.1.2.2.2.1.1
  have g13 := K9.1.2.1
  have g13' := KX1.1.2.1
  refine y_node (d := (k, s9.2.2.2.2.1, s9.2.2.2.2.2.2, s9.2.2.2.1)) (lo := (w.1 129 35).toInt) Y9 (by rw [hw]; exact ws.1.symm) (show 0 ≤ wht k by rw [ws.1]; omega) (show wht k ≤ 24 by rw [ws.1]; omega) (by decide) (by decide) (by rw [KX1.2.1]) P9 (fun z => absurd z ws.2.2.2.1) (fun _ _ => by rw [nb_i2l]; exact en) (fun n3 w' e' => hQ (-1) w' (zer (wrd f n s9.1).2.1) (all _ ?_) (Or.inr ⟨rfl, by decide, e'⟩)) (fun n3 r w' er Y' KN e35 kp _ f38 _ => hQ r w' (zok (s9.1, s9.2.1 ++ [(k, s9.2.2.2.2.1, s9.2.2.2.2.2.2, s9.2.2.2.1)], s9.2.2.1 + 1, s.2.2.2.1 ++ [s9.2.1.length], s.2.2.2.2)) (all _ ?_) (Or.inl ⟨_, rfl, Y', ?_, ((KX1.1.tr K9.1).tr KF).tr KN, e35.trans KX1.2.1, fun j j0 j1 => ?_, ?_, ?_, ?_, ?_, ?_, ?_, ?_⟩))
  · show (if true = true then _ else _)
    rw [if_pos rfl]
    show zer (wrd f n s9.1).2.1 = znd f n s s9 1 _
    unfold znd
    rw [if_pos n3]
  · show (if true = true then _ else _)
    rw [if_pos rfl]
    show _ = znd f n s s9 1 ((wrd f n s.1).1, s9.2.2.2.2.1, s9.2.2.2.2.2.2, s9.2.2.2.1)
    unfold znd
    rw [if_neg n3, ek]
  · show r.toInt + 1 = ((s9.2.1 ++ [(k, s9.2.2.2.2.1, s9.2.2.2.2.2.2, s9.2.2.2.1)]).length : Int)
    rw [List.length_append, List.length_singleton]
    omega
  · rw [kp, q144, K9.2 j j0 j1, KX1.2.2.1 j j0 j1]
  · show (w'.1 129 38).toInt = s9.2.2.1 + 1
    rw [f38, e38, sm]
  · show 0 ≤ s9.2.2.1 + 1
    omega
  · show s9.2.2.1 + 1 ≤ ((s9.2.1 ++ [(k, s9.2.2.2.2.1, s9.2.2.2.2.2.2, s9.2.2.2.1)]).length : Int)
    rw [List.length_append, List.length_singleton]
    omega
  · show s.1 ≤ s9.1
    omega
  · show s.2.1.length < (s9.2.1 ++ [(k, s9.2.2.2.2.1, s9.2.2.2.2.2.2, s9.2.2.2.1)]).length
    rw [List.length_append, List.length_singleton]
    omega
  · show (s.2.2.2.1 ++ [s9.2.1.length], s.2.2.2.2) = (s.2.2.2.1 ++ [(s9.2.1 ++ [(k, s9.2.2.2.2.1, s9.2.2.2.2.2.2, s9.2.2.2.1)]).length - 1], s.2.2.2.2)
    rw [List.length_append, List.length_singleton, Nat.add_sub_cancel]
  · have t := (Y'.2.2.2.1.2 s9.2.1.length (k, s9.2.2.2.2.1, s9.2.2.2.2.2.2, s9.2.2.2.1) (by rw [List.getElem?_append_right (Nat.le_refl _), Nat.sub_self]; rfl)).1
    rw [er, t]
    show wht k ≤ 23
    rw [ws.1]
    omega
theorem y_fbad {f : Int → Int} {n : Int} {nm : List Nm} {op : Nat} {e k : Int} {s s1 : ZS} {w : MW} {L : List (Int × Int)} {Q : Int32 → MW → Prop} (hk : isS k = true) (ek : (wrd f n s.1).1 = k) (h1 : ∀ r1, ZE f n (lkn nm) op L s1 r1 → ZE f n (lkn nm) op ((0, k) :: its k) (zin s) r1) (hQ : ∀ (y : Int32) (w' : MW) (r : ZR), ZI f n (lkn nm) op 9 0 s r → YR w w' f n nm op e s r y → Q y w') : YBd f n nm op L s1 Q := by
  intro w' r hE hf ew
  refine hQ (-1) w' r (ZI_9 (by rw [ek]; exact hk) (by rw [ek]; exact h1 _ hE) ?_) (Or.inr ⟨hf, by decide, ew⟩)
  rw [if_neg (by rw [hf]; decide)]
/-- a statement -/
theorem y_stm {B S : MW → (Int32 → MW → Prop) → Prop} {f : Int → Int} {n : Int} {nm : List Nm} {op : Nat} (hB : HZm B 4 op f n nm) : HZm (pb_Tx_statement B S) 9 op f n nm := by
  intro e s w Q h hm m0 m1 hQ
  have tk := y_tk h
  have ts := tk_st (f := f) (n := n) (p := s.1) h.2.2.1
  have tb := tk_unit (f := f) (n := n) (p := s.1) h.2.2.1
  have nob : ¬ isS (wrd f n s.1).1 = true → p_Tx_bad w (fun r2 w2 => (Q r2 w2)) := fun no => y_bad h (fun w' e' => hQ (-1) w' (zer (wrd f n s.1).2.1) (ZI_9b no) (Or.inr ⟨rfl, by decide, e'⟩))
  have ewh := ti_sub2 tk (show (1000 : Int32).toInt = 1000 by decide) (by omega) (by omega)
  rw [pb_Tx_statement.eq_1]
  generalize ((w.1 129 4) - (1000 : Int32)) = wh at *
  refine ⟨fun z => nob (fun q => by have := ts.mp q; omega), fun z => ⟨fun z2 => ?_, fun z2 => nob (fun q => by have := ts.mp q; omega)⟩⟩
  have yes : isS (wrd f n s.1).1 = true := ts.mpr (by omega)
  have Z0 : YZ w f n nm op e (w.1 129 35).toInt (zin s) := ⟨h, pil_nil h.1.1.1, hm, m0, m1⟩
  refine yi_go Z0 rfl (fun w' r hz hf ew => ⟨fun z => absurd i_0 z, fun _ => ?_⟩) (fun v s1 hz es p1 Z1 KX1 K1 => ⟨fun _ => ?_, fun z => absurd i1n z⟩)
  · refine hQ (-1) w' r (ZI_9 yes (ZE_b hz hf) ?_) (Or.inr ⟨hf, by decide, ew⟩)
    rw [if_neg (by rw [hf]; decide)]
  · have hA : s1.2.2.2.2 = (0, 0, 0) := by rw [es]; rfl
    have wd : ∀ c : Int, 1 ≤ c ∧ c ≤ 26 → wh.toInt = mng c → (wrd f n s.1).1 = c := fun c c1 ec => (tk_word h.2.2.1 c1).mp (by omega)
    have H : ∀ (c : Int) (L : List (Int × Int)), (wrd f n s.1).1 = c → its c = L → ∀ r1, ZE f n (lkn nm) op L s1 r1 → ZE f n (lkn nm) op ((0, c) :: its c) (zin s) r1 := fun c L ec el r1 hE => by
      rw [el, ← ec]
      exact ZE_g hz rfl hE
    have bd : ∀ (c : Int) (L : List (Int × Int)), (wrd f n s.1).1 = c → its c = L → YBd f n nm op L s1 Q := fun c L ec el => y_fbad (by rw [← ec]; exact yes) ec (H c L ec el) hQ
    have gd : ∀ (c : Int) (L : List (Int × Int)) (ln : Int32), wh.toInt = mng c → (wrd f n s.1).1 = c → its c = L → YGd f n nm op e (w.1 129 35).toInt L s1 v wh ln Q := fun c L ln ew ec el => y_fin (by rw [← ec]; exact yes) ec ew h KX1 p1 (H c L ec el) hQ
    refine ⟨fun k => ?_, fun _ => ⟨fun k => ?_, fun _ => ⟨fun k => ?_, fun _ => ⟨fun k => ?_, fun _ => ⟨fun k => ?_, fun _ => ⟨fun k => ?_, fun _ => ⟨fun k => ?_, fun _ => ⟨fun k => ?_, fun _ => ⟨fun k => ⟨fun d => absurd k d, fun _ => ?_⟩, fun _ => ⟨fun k => ⟨fun _ => ?_, fun d => absurd (by omega) d⟩, fun _ => ⟨fun k => ?_, fun _ => ⟨fun k => ?_, fun _ => ⟨fun k => ?_, fun k => absurd (by omega) k⟩⟩⟩⟩⟩⟩⟩⟩⟩⟩⟩⟩⟩
    · have ec := wd 11 (by decide) (k.trans (by decide))
      exact yk_set Z1 (bd 11 _ ec rfl) (gd 11 _ _ (k.trans (by decide)) ec rfl)
    · have ec := wd 12 (by decide) (k.trans (by decide))
      exact yk_wait Z1 hA (bd 12 _ ec rfl) (gd 12 _ _ (k.trans (by decide)) ec rfl)
    · have ec := wd 13 (by decide) (k.trans (by decide))
      exact yk_until Z1 hA (bd 13 _ ec rfl) (gd 13 _ _ (k.trans (by decide)) ec rfl)
    · have ec := wd 14 (by decide) (k.trans (by decide))
      exact yk_ramp Z1 (bd 14 _ ec rfl) (gd 14 _ _ (k.trans (by decide)) ec rfl)
    · have ec := wd 16 (by decide) (k.trans (by decide))
      exact yk_par hB Z1 hA (bd 16 _ ec rfl) (gd 16 _ _ (k.trans (by decide)) ec rfl)
    · have ec := wd 17 (by decide) (k.trans (by decide))
      exact yk_if hB Z1 hA (bd 17 _ ec rfl) (gd 17 _ _ (k.trans (by decide)) ec rfl)
    · have ec := wd 19 (by decide) (k.trans (by decide))
      exact yk_rep hB Z1 hA (bd 19 _ ec rfl) (gd 19 _ _ (k.trans (by decide)) ec rfl)
    · have ec := wd 20 (by decide) (k.trans (by decide))
      exact yk_limit hB Z1 hA (bd 20 _ ec rfl) (gd 20 _ _ (k.trans (by decide)) ec rfl)
    · have ec := wd 22 (by decide) (k.trans (by decide))
      exact yk_480 (c := 8) Z1 (by decide) (by decide) (bd 22 _ ec rfl) (gd 22 _ _ (k.trans (by decide)) ec rfl)
    · have ec := wd 23 (by decide) (k.trans (by decide))
      exact yk_480 (c := 10) Z1 (by decide) (by decide) (bd 23 _ ec rfl) (gd 23 _ _ (k.trans (by decide)) ec rfl)
    · have ec := wd 24 (by decide) (k.trans (by decide))
      exact yk_stop Z1 hA (bd 24 _ ec rfl) (gd 24 _ _ (k.trans (by decide)) ec rfl)
    · have ec := wd 25 (by decide) (k.trans (by decide))
      exact yk_stop Z1 hA (bd 25 _ ec rfl) (gd 25 _ _ (k.trans (by decide)) ec rfl)
    · have ec := wd 26 (by decide) (k.trans (by decide))
      exact yk_act Z1 (bd 26 _ ec rfl) (gd 26 _ _ (k.trans (by decide)) ec rfl)
/-- the statements of a block -/
theorem y_52 {B S : MW → (Int32 → MW → Prop) → Prop} {f : Int → Int} {n : Int} {nm : List Nm} {op : Nat} {e lo p0 : Int} {w0 : MW} {ln mk : Int32} {E : MW → Prop} {Q : Int32 → MW → Prop} {R : ZR → Prop} (hS : HZm S 9 op f n nm) (hb : ∀ (w' : MW) (r : ZR), R r → r.1 = false → (w'.1 129 10).toInt = r.2.1 → Q (-1) w') (hE : ∀ (w' : MW) (s' : ZS), R (zok s') → (wrd f n s'.1).1 = 125 → YZ w' f n nm op e lo s' → KY lo w0 w' → p0 ≤ s'.1 → E w') (m : Nat) : ∀ (w : MW) (s : ZS), YZ w f n nm op e lo s → KY lo w0 w → p0 ≤ s.1 → (∀ r, ZI f n (lkn nm) op 8 0 s r → (r.1 = false ∨ ∃ s', r = zok s') → R r) → 301 - s.2.1.length < m → q_Tx_block_52 B S ln mk E Q m w := by
  induction m with
  | zero => intros; omega
  | succ m ih =>
    intro w s hZ K hp hR hm
    have l3 := ys_len hZ.1
    have tk := y_tk hZ.1
    have t125 := tk_sign (f := f) (n := n) (p := s.1) (c := 125) hZ.1.2.2.1 (by decide) (by decide)
    rw [q_Tx_block_52.eq_2, tk]
    refine ⟨fun z => hE w s (hR _ (ZI_8n (t125.mp z)) (Or.inr ⟨s, rfl⟩)) (t125.mp z) hZ K hp, fun z => ?_⟩
    have n125 : ¬ (wrd f n s.1).1 = 125 := fun q => z (t125.mpr q)
    refine hS e s w _ hZ.1 hZ.2.2.1 hZ.2.2.2.1 hZ.2.2.2.2 (fun y w1 r hr o => ?_)
    rcases o with ⟨s', er, Y1, y1, KN, e35, kp, m1, M0, M1, p1, n1, et, k23⟩ | ⟨g, y1, e1⟩
    · refine ⟨fun _ => yp_x hZ Y1 y1 (by omega) KN e35 kp m1 M0 M1 (fun w' Z' K' => ?_), fun z => absurd (show 0 ≤ y.toInt by omega) z⟩
      rw [er] at hr
      have es : s' = (s'.1, s'.2.1, s'.2.2.1, s.2.2.2.1 ++ [s'.2.1.length - 1], s.2.2.2.2) := by
        show (s'.1, s'.2.1, s'.2.2.1, s'.2.2.2) = _
        rw [et]
      rw [← es] at Z'
      have l1 := ys_len Z'.1
      refine ih w' s' Z' (K.tr K') (by omega) (fun r h8 ho => hR r (ZI_8 n125 ?_) ho) (by omega)
      rcases ho with hf | ⟨s2, e2⟩
      · exact ZE_g hr rfl (ZE_b h8 hf)
      · rw [e2] at h8 ⊢
        exact ZE_g hr rfl (ZE_g h8 rfl (ZE_n _ _ _ _ _))
    · exact ⟨fun z => absurd z (by omega), fun _ => hb w1 r (hR r (ZI_8 n125 (ZE_b hr g)) (Or.inl g)) g e1⟩
/-- a block -/
theorem y_blk {B S : MW → (Int32 → MW → Prop) → Prop} {f : Int → Int} {n : Int} {nm : List Nm} {op : Nat} (hS : op < 20 → HZm S 9 (op + 1) f n nm) : HZm (pb_Tx_block B S) 4 op f n nm := by
  intro e s w Q h hm m0 m1 hQ
  have tk := y_tk h
  have t123 := tk_sign (f := f) (n := n) (p := s.1) (c := 123) h.2.2.1 (by decide) (by decide)
  have o8 := h.1.2.2.2
  have b35 := bd_129_35 h.1.1.1
  have b11 := bd_129_11 h.1.1.1
  have nob : ¬ ((wrd f n s.1).1 = 123 ∧ op < 20) → p_Tx_bad w (fun r2 w2 => (Q r2 w2)) := fun no => y_bad h (fun w' e' => hQ (-1) w' (zer (wrd f n s.1).2.1) (ZI_4b no) (Or.inr ⟨rfl, by decide, e'⟩))
  refine Eq.mpr (pb_Tx_block.eq_1 _ _ _ _) ?_
  rw [tk]
  refine ⟨fun z => nob (fun q => z (t123.mpr q.1)), fun z => ⟨fun c => ?_, fun c => nob (fun q => by have := Classical.not_not.mp c; omega)⟩⟩
  have k := t123.mp (Classical.not_not.mp z)
  have lo20 : op < 20 := by omega
  have s11 := ti_add2 o8 i_1 (by omega) (by omega)
  have Y1 := ys_op (op' := op + 1) (v := (w.1 129 11) + (1 : Int32)) h (by omega) (by omega)
  have fu : (1000 : Nat) < FU := fu_lt (by decide)
  have Z1 : YZ (sI w 129 11 ((w.1 129 11) + (1 : Int32))) f n nm (op + 1) e (w.1 129 35).toInt (zin s) := ⟨Y1.1, by
    have t := pil_nil Y1.1.1.1.1
    rw [Y1.2.2.1] at t
    exact t, by rw [Y1.2.2.2.2]; exact hm, m0, m1⟩
  have wrong : ∀ (w' : MW) (r1 : ZR), ZE f n (lkn nm) (op + 1) [(0, 123), (8, 0), (0, 125)] (zin s) r1 → r1.1 = false → (w'.1 129 10).toInt = r1.2.1 → Q (-1) w' := fun w' r1 hE hf ew => hQ (-1) w' r1 (ZI_4 ⟨k, lo20⟩ hE (by rw [if_neg (by rw [hf]; decide)])) (Or.inr ⟨hf, by decide, ew⟩)
  refine yi_go Z1 k (fun w' r hz hf ew => ⟨fun z => absurd i_0 z, fun _ => wrong w' r (ZE_b hz hf) hf ew⟩) (fun w4 s4 hz es p4 Z4 KX4 K4 => ⟨fun _ => ?_, fun z => absurd i1n z⟩)
  have l4 := ys_len Z4.1
  refine y_52 (R := fun r => ZI f n (lkn nm) (op + 1) 8 0 s4 r) (w0 := w4) (p0 := s4.1) (lo := (w.1 129 35).toInt) (hS lo20) (fun w' r h8 hf ew => wrong w' r (ZE_g hz rfl (ZE_b h8 hf)) hf ew) (fun w10 s10 h8 k125 Z10 K10 p10 => ?_) FU w4 s4 Z4 (KY.refl _ _) (Int.le_refl _) (fun r h8 _ => h8) (by omega)
  have o10 := Z10.1.1.2.2.2
  have s12 := ti_sub2 o10 i_1 (by omega) (by omega)
  have Y11 := ys_op (op' := op) (v := (w10.1 129 11) - (1 : Int32)) Z10.1 (by omega) (by omega)
  have Z11 := yz_kx (s := s10) (op := op) (e := e) (lo := (w.1 129 35).toInt) (w := sI w10 129 11 ((w10.1 129 11) - (1 : Int32))) (w' := sI w10 129 11 ((w10.1 129 11) - (1 : Int32))) ⟨Y11.1, pil_kx Z10.2.1 Y11.2, by rw [Y11.2.2.2.2]; exact Z10.2.2.1, Z10.2.2.2.1, Z10.2.2.2.2⟩ Y11.1 (KX.refl _) s10.2.2.2.2
  have K11 : KY (w.1 129 35).toInt w10 (sI w10 129 11 ((w10.1 129 11) - (1 : Int32))) := ky_kx Z10.2.1 Y11.2
  refine yi_go (s := s10) Z11.1 k125 (fun w' r hz2 hf ew => ⟨fun _ => wrong w' r (ZE_g hz rfl (ZE_g h8 rfl (ZE_b hz2 hf))) hf ew, fun z => absurd i_0 z⟩) (fun w13 s13 hz2 es2 p13 Z13 KX13 K13 => ⟨fun z => absurd z i1n, fun _ => ?_⟩)
  have inside : ZE f n (lkn nm) (op + 1) [(0, 123), (8, 0), (0, 125)] (zin s) (zok s13) := ZE_g hz rfl (ZE_g h8 rfl (ZE_g hz2 rfl (ZE_n _ _ _ _ _)))
  have all : ∀ r, r = znd f n s s13 0 (35, 0, 0, s13.2.2.2.1) → ZI f n (lkn nm) op 4 0 s r := fun r hr => ZI_4 ⟨k, lo20⟩ inside (by
    show (if true = true then _ else _)
    rw [if_pos rfl]
    exact hr)
  have KK : KNm w w13 := ((((Y1.2.1.tr KX4.1).tr K10.1).tr K11.1)).tr K13.1
  have e13 := h.2.2.2.1.1
  have e913 := Z13.1.2.2.2.1.1
  have g13 := KK.2.1
  have pp : s.1 ≤ s13.1 := by
    have a : s.1 ≤ s4.1 := p4
    have c : s10.1 ≤ s13.1 := p13
    omega
  refine y_node (d := (35, 0, 0, s13.2.2.2.1)) (lo := (w.1 129 35).toInt) Z13.1 (show (23 : Int32).toInt = wht 35 by decide) (show 0 ≤ wht 35 by decide) (show wht 35 ≤ 24 by decide) (by decide) (by decide) rfl Z13.2.1 (fun z => absurd z (show ¬ (35 : Int) = 31 by decide)) (fun _ _ => (show (0 : Int64).toInt = 0 by decide)) (fun n3 w' e' => hQ (-1) w' (zer (wrd f n s13.1).2.1) (all _ (by unfold znd; rw [if_pos n3])) (Or.inr ⟨rfl, by decide, e'⟩)) (fun n3 r w' er Y' KN e35 kp _ f38 _ => hQ r w' (zok (s13.1, s13.2.1 ++ [(35, 0, 0, s13.2.2.2.1)], s13.2.2.1 + 0, s.2.2.2.1 ++ [s13.2.1.length], s.2.2.2.2)) (all _ (by unfold znd; rw [if_neg n3])) (Or.inl ⟨_, rfl, Y', ?_, KK.tr KN, e35, fun j j0 j1 => ?_, ?_, ?_, ?_, pp, ?_, ?_, ?_⟩))
  · show r.toInt + 1 = ((s13.2.1 ++ [(35, 0, 0, s13.2.2.2.1)]).length : Int)
    rw [List.length_append, List.length_singleton]
    omega
  · rw [kp, K13.2 j j0 j1, K11.2 j j0 j1, K10.2 j j0 j1, KX4.2.2.1 j j0 (by rw [Y1.2.2.1]; exact j1), Y1.2.2.2.1 j j0 j1]
  · show (w'.1 129 38).toInt = s13.2.2.1 + 0
    rw [f38, Z13.2.2.1]
    omega
  · show 0 ≤ s13.2.2.1 + 0
    have := Z13.2.2.2.1
    omega
  · show s13.2.2.1 + 0 ≤ ((s13.2.1 ++ [(35, 0, 0, s13.2.2.2.1)]).length : Int)
    rw [List.length_append, List.length_singleton]
    have := Z13.2.2.2.2
    omega
  · show s.2.1.length < (s13.2.1 ++ [(35, 0, 0, s13.2.2.2.1)]).length
    rw [List.length_append, List.length_singleton]
    omega
  · show (s.2.2.2.1 ++ [s13.2.1.length], s.2.2.2.2) = (s.2.2.2.1 ++ [(s13.2.1 ++ [(35, 0, 0, s13.2.2.2.1)]).length - 1], s.2.2.2.2)
    rw [List.length_append, List.length_singleton, Nat.add_sub_cancel]
  · have t := (Y'.2.2.2.1.2 s13.2.1.length (35, 0, 0, s13.2.2.2.1) (by rw [List.getElem?_append_right (Nat.le_refl _), Nat.sub_self]; rfl)).1
    rw [er, t]
    show wht 35 ≤ 23
    decide
theorem y_bs (f : Int → Int) (n : Int) (nm : List Nm) (d : Nat) : (∀ op : Nat, op ≤ 20 → 2 * (20 - op) < d → HZm (pn_Tx_block d) 4 op f n nm) ∧ (∀ op : Nat, op ≤ 20 → 2 * (20 - op) + 1 < d → HZm (pn_Tx_statement d) 9 op f n nm) := by
  induction d with
  | zero => exact ⟨fun _ _ h => by omega, fun _ _ h => by omega⟩
  | succ d ih =>
    refine ⟨fun op ho hm e s w Q h hm2 m0 m1 hQ => ?_, fun op ho hm e s w Q h hm2 m0 m1 hQ => ?_⟩
    · rw [pe_Tx_block]
      exact y_blk (fun c => ih.2 (op + 1) (by omega) (by omega)) e s w Q h hm2 m0 m1 hQ
    · rw [pe_Tx_statement]
      exact y_stm (ih.1 op ho (by omega)) e s w Q h hm2 m0 m1 hQ
/-- THE REFERENCE READS A BLOCK exactly -/
theorem y_block {f : Int → Int} {n : Int} {nm : List Nm} {op : Nat} (ho : op ≤ 20) : HZm p_Tx_block 4 op f n nm := (y_bs f n nm 400).1 op ho (by omega)
/-- THE REFERENCE READS A STATEMENT exactly -/
theorem y_statement {f : Int → Int} {n : Int} {nm : List Nm} {op : Nat} (ho : op ≤ 20) : HZm p_Tx_statement 9 op f n nm := (y_bs f n nm 400).2 op ho (by omega)
