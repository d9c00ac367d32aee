/-! statements and blocks of a program -/
/-- while a statement is read: where the next word is, the nodes, how many statements are read, the kids, the argument, its unit and block -/
abbrev ZS : Type := Int × List Nod × Int × List Nat × Int × Int × Int
abbrev ZR : Type := Bool × Int × ZS
def zer (e : Int) : ZR := (false, e, 0, [], 0, [], 0, 0, 0)
def zok (s : ZS) : ZR := (true, 0, s)
abbrev ZQ : Type := Nat → List (Int × Int) → ZS → ZR → Prop
/-- behind the word that is next -/
def zgo (f : Int → Int) (n : Int) (s : ZS) : ZR := if (wrd f n (wrd f n s.1).2.2.1).1 = 33 then zer (wrd f n (wrd f n s.1).2.2.1).2.1 else zok ((wrd f n s.1).2.2.1, s.2)
/-- this word -/
def ztk (f : Int → Int) (n c : Int) (s : ZS) : ZR := if (wrd f n s.1).1 = c then zgo f n s else zer (wrd f n s.1).2.1
/-- a name of this kind -/
def znm (f : Int → Int) (n : Int) (lk : List Int → Int × Int × Int × Int) (c : Int) (s : ZS) : ZR := if (wrd f n s.1).1 = 30 ∧ 0 ≤ (lk (wrd f n s.1).2.2.2.1).1 ∧ (lk (wrd f n s.1).2.2.2.1).2.1 = c then zgo f n (s.1, s.2.1, s.2.2.1, s.2.2.2.1, (lk (wrd f n s.1).2.2.2.1).1, (lk (wrd f n s.1).2.2.2.1).2.2.1, (lk (wrd f n s.1).2.2.2.1).2.2.2) else zer (wrd f n s.1).2.1
/-- a sum of the unit c, or of the name's -/
def zsm (f : Int → Int) (n : Int) (lk : List Int → Int × Int × Int × Int) (op : Nat) (c : Int) (s : ZS) (r : ZR) : Prop := ∃ x, (∃ k, XP f n lk k 1 op 0 s.1 s.2.1 x) ∧ (if x.1 = true then (if x.2.2.1 = (if c < 0 then s.2.2.2.2.2.1 else c) then r = zok (x.2.2.2.1, x.2.2.2.2, s.2.2.1, s.2.2.2.1 ++ [x.2.2.2.2.length - 1], s.2.2.2.2) else r = zer (wrd f n x.2.2.2.1).2.1) else r = zer x.2.1)
def zts (f : Int → Int) (n : Int) (lk : List Int → Int × Int × Int × Int) (op : Nat) (s : ZS) (r : ZR) : Prop := ∃ x, (∃ k, XP f n lk k 0 op 0 s.1 s.2.1 x) ∧ (if x.1 = true then r = zok (x.2.2.2.1, x.2.2.2.2, s.2.2.1, s.2.2.2.1 ++ [x.2.2.2.2.length - 1], s.2.2.2.2) else r = zer x.2.1)
/-- the number of an act -/
def zac (f : Int → Int) (n : Int) (s : ZS) : ZR := if (wrd f n s.1).1 = 31 ∧ (wrd f n s.1).2.2.2.2.2 = false ∧ (wrd f n s.1).2.2.2.2.1 < 32000 then zgo f n (s.1, s.2.1, s.2.2.1, s.2.2.2.1, (wrd f n s.1).2.2.2.2.1 / 1000, s.2.2.2.2.2) else zer (wrd f n s.1).2.1
/-- a node that is a kid of what s reads: t is how its own inside ended -/
def znd (f : Int → Int) (n : Int) (s t : ZS) (m : Int) (d : Nod) : ZR := if t.2.1.length = 300 then zer (wrd f n t.1).2.1 else zok (t.1, t.2.1 ++ [d], t.2.2.1 + m, s.2.2.2.1 ++ [t.2.1.length], s.2.2.2.2)
/-- what a statement of this kind is made of -/
def its (k : Int) : List (Int × Int) := if k = 11 then [(1, 9), (2, -1), (0, 59)] else if k = 12 then [(2, 3), (0, 59)] else if k = 13 then [(3, 0), (0, 59)] else if k = 14 then [(1, 9), (2, -1), (0, 15), (2, 3), (0, 59)] else if k = 16 then [(4, 0), (4, 0), (7, 0)] else if k = 17 then [(3, 0), (4, 0), (6, 0)] else if k = 19 then [(2, 0), (4, 0)] else if k = 20 then [(3, 0), (4, 0), (0, 21), (4, 0)] else if k = 22 then [(1, 8), (0, 59)] else if k = 23 then [(1, 10), (0, 59)] else if k = 26 then [(5, 0), (0, 59)] else [(0, 59)]
def isS (k : Int) : Bool := decide ((11 ≤ k ∧ k ≤ 14) ∨ (16 ≤ k ∧ k ≤ 17) ∨ (19 ≤ k ∧ k ≤ 20) ∨ (22 ≤ k ∧ k ≤ 26))
theorem isS_t {k : Int} : isS k = true ↔ ((11 ≤ k ∧ k ≤ 14) ∨ (16 ≤ k ∧ k ≤ 17) ∨ (19 ≤ k ∧ k ≤ 20) ∨ (22 ≤ k ∧ k ≤ 26)) := decide_eq_true_iff
def zin (s : ZS) : ZS := (s.1, s.2.1, s.2.2.1, [], 0, 0, 0)
/-- a block -/
def zbl (f : Int → Int) (n : Int) (X : ZQ) (op : Nat) (s : ZS) (r : ZR) : Prop := if (wrd f n s.1).1 = 123 ∧ op < 20 then ∃ r1, X (op + 1) [(0, 123), (8, 0), (0, 125)] (zin s) r1 ∧ (if r1.1 = true then r = znd f n s r1.2.2 0 (35, 0, 0, r1.2.2.2.2.2.1) else r = r1) else r = zer (wrd f n s.1).2.1
/-- a statement -/
def zst (f : Int → Int) (n : Int) (X : ZQ) (op : Nat) (s : ZS) (r : ZR) : Prop := if isS (wrd f n s.1).1 = true then ∃ r1, X op ((0, (wrd f n s.1).1) :: its (wrd f n s.1).1) (zin s) r1 ∧ (if r1.1 = true then r = znd f n s r1.2.2 1 ((wrd f n s.1).1, r1.2.2.2.2.2.2.1, r1.2.2.2.2.2.2.2.2, r1.2.2.2.2.2.1) else r = r1) else r = zer (wrd f n s.1).2.1
/-- a piece: 0 a word, 1 a name, 2 a sum, 3 a test, 4 a block, 5 an act's number, 6 what else begins, 7 further blocks, 8 statements up to a bracket, 9 a statement, 10 statements up to the end -/
def zit (f : Int → Int) (n : Int) (lk : List Int → Int × Int × Int × Int) (X : ZQ) (op : Nat) (c a : Int) (s : ZS) (r : ZR) : Prop := if c = 0 then r = ztk f n a s else if c = 1 then r = znm f n lk a s else if c = 2 then zsm f n lk op a s r else if c = 3 then zts f n lk op s r else if c = 4 then zbl f n X op s r else if c = 5 then r = zac f n s else if c = 6 then (if (wrd f n s.1).1 = 18 then X op [(0, 18), (4, 0)] s r else r = zok s) else if c = 7 then (if (wrd f n s.1).1 = 123 then X op [(4, 0), (7, 0)] s r else r = zok s) else if c = 8 then (if (wrd f n s.1).1 = 125 then r = zok s else X op [(9, 0), (8, 0)] s r) else if c = 9 then zst f n X op s r else (if (wrd f n s.1).1 = 32 then r = zok s else X op [(9, 0), (10, 0)] s r)
def zseq (f : Int → Int) (n : Int) (lk : List Int → Int × Int × Int × Int) (X : ZQ) (op : Nat) (l : List (Int × Int)) (s : ZS) (r : ZR) : Prop :=
  match l with
  | [] => r = zok s
  | i :: is => ∃ r1, zit f n lk X op i.1 i.2 s r1 ∧ (if r1.1 = true then X op is r1.2.2 r else r = r1)
def ZZ (f : Int → Int) (n : Int) (lk : List Int → Int × Int × Int × Int) : Nat → ZQ
  | 0 => fun _ _ _ _ => False
  | k + 1 => fun op l s r => zseq f n lk (ZZ f n lk k) op l s r
theorem ZZ_u (f : Int → Int) (n : Int) (lk : List Int → Int × Int × Int × Int) (k op : Nat) (l : List (Int × Int)) (s : ZS) (r : ZR) : ZZ f n lk (k + 1) op l s r = zseq f n lk (ZZ f n lk k) op l s r := rfl
theorem ZZ_n (f : Int → Int) (n : Int) (lk : List Int → Int × Int × Int × Int) (k op : Nat) (s : ZS) (r : ZR) : ZZ f n lk (k + 1) op [] s r = (r = zok s) := rfl
theorem ZZ_c (f : Int → Int) (n : Int) (lk : List Int → Int × Int × Int × Int) (k op : Nat) (i : Int × Int) (is : List (Int × Int)) (s : ZS) (r : ZR) : ZZ f n lk (k + 1) op (i :: is) s r = (∃ r1, zit f n lk (ZZ f n lk k) op i.1 i.2 s r1 ∧ (if r1.1 = true then ZZ f n lk k op is r1.2.2 r else r = r1)) := rfl
def ZLe (X Y : ZQ) : Prop := ∀ op l s r, X op l s r → Y op l s r
def ZDt (X Y : ZQ) : Prop := ∀ op l s r r', X op l s r → Y op l s r' → r = r'
theorem ite_m {c : Prop} [Decidable c] {A B A' B' : Prop} (h : if c then A else B) (ha : A → A') (hb : B → B') : if c then A' else B' := by
  by_cases q : c
  · rw [if_pos q] at h ⊢
    exact ha h
  · rw [if_neg q] at h ⊢
    exact hb h
theorem ite_2 {c : Prop} [Decidable c] {A B A' B' C : Prop} (h : if c then A else B) (h' : if c then A' else B') (ha : A → A' → C) (hb : B → B' → C) : C := by
  by_cases q : c
  · rw [if_pos q] at h h'
    exact ha h h'
  · rw [if_neg q] at h h'
    exact hb h h'
theorem zit_m {f : Int → Int} {n : Int} {lk : List Int → Int × Int × Int × Int} {X Y : ZQ} (hX : ZLe X Y) {op : Nat} {c a : Int} {s : ZS} {r : ZR} (h : zit f n lk X op c a s r) : zit f n lk Y op c a s r := by
  unfold zit at h ⊢
  refine ite_m h id (fun h => ite_m h id (fun h => ite_m h id (fun h => ite_m h id (fun h => ite_m h (fun h => ?_) (fun h => ite_m h id (fun h => ite_m h (fun h => ite_m h (hX _ _ _ _) id) (fun h => ite_m h (fun h => ite_m h (hX _ _ _ _) id) (fun h => ite_m h (fun h => ite_m h id (hX _ _ _ _)) (fun h => ite_m h (fun h => ?_) (fun h => ite_m h id (hX _ _ _ _)))))))))))
  · unfold zbl at h ⊢
    refine ite_m h (fun h => ?_) id
    obtain ⟨r1, a, b⟩ := h
    exact ⟨r1, hX _ _ _ _ a, b⟩
  · unfold zst at h ⊢
    refine ite_m h (fun h => ?_) id
    obtain ⟨r1, a, b⟩ := h
    exact ⟨r1, hX _ _ _ _ a, b⟩
theorem ZZ_s (f : Int → Int) (n : Int) (lk : List Int → Int × Int × Int × Int) : ∀ k, ZLe (ZZ f n lk k) (ZZ f n lk (k + 1)) := by
  intro k
  induction k with
  | zero => exact fun _ _ _ _ h => False.elim h
  | succ k ih =>
    intro op l s r h
    cases l with
    | nil => exact h
    | cons i is =>
      rw [ZZ_c] at h ⊢
      obtain ⟨r1, a, b⟩ := h
      exact ⟨r1, zit_m ih a, ite_m b (ih _ _ _ _) id⟩
theorem ZZ_le {f : Int → Int} {n : Int} {lk : List Int → Int × Int × Int × Int} {k k' : Nat} (h : k ≤ k') : ZLe (ZZ f n lk k) (ZZ f n lk k') := by
  induction h with
  | refl => exact fun _ _ _ _ h => h
  | step _ ih => exact fun op l s r h => ZZ_s f n lk _ op l s r (ih op l s r h)
theorem zit_d {f : Int → Int} {n : Int} {lk : List Int → Int × Int × Int × Int} {X Y : ZQ} (hX : ZDt X Y) {op : Nat} {c a : Int} {s : ZS} {r r' : ZR} (h : zit f n lk X op c a s r) (h' : zit f n lk Y op c a s r') : r = r' := by
  have ee : ∀ {z : ZR}, r = z → r' = z → r = r' := fun a b => a.trans b.symm
  unfold zit at h h'
  refine ite_2 h h' ee (fun h h' => ite_2 h h' ee (fun h h' => ite_2 h h' (fun h h' => ?_) (fun h h' => ite_2 h h' (fun h h' => ?_) (fun h h' => ite_2 h h' (fun h h' => ?_) (fun h h' => ite_2 h h' ee (fun h h' => ite_2 h h' (fun h h' => ite_2 h h' (hX _ _ _ _ _) ee) (fun h h' => ite_2 h h' (fun h h' => ite_2 h h' (hX _ _ _ _ _) ee) (fun h h' => ite_2 h h' (fun h h' => ite_2 h h' ee (hX _ _ _ _ _)) (fun h h' => ite_2 h h' (fun h h' => ?_) (fun h h' => ite_2 h h' ee (hX _ _ _ _ _)))))))))))
  · obtain ⟨x, ⟨k, hx⟩, b⟩ := h
    obtain ⟨x', ⟨k', hx'⟩, b'⟩ := h'
    have e := XP_det f n lk k k' _ _ _ _ _ _ _ hx hx'
    rw [← e] at b'
    exact ite_2 b b' (fun b b' => ite_2 b b' ee ee) ee
  · obtain ⟨x, ⟨k, hx⟩, b⟩ := h
    obtain ⟨x', ⟨k', hx'⟩, b'⟩ := h'
    have e := XP_det f n lk k k' _ _ _ _ _ _ _ hx hx'
    rw [← e] at b'
    exact ite_2 b b' ee ee
  · unfold zbl at h h'
    refine ite_2 h h' (fun h h' => ?_) ee
    obtain ⟨r1, a, b⟩ := h
    obtain ⟨r2, a', b'⟩ := h'
    have e := hX _ _ _ _ _ a a'
    rw [← e] at b'
    exact ite_2 b b' ee ee
  · unfold zst at h h'
    refine ite_2 h h' (fun h h' => ?_) ee
    obtain ⟨r1, a, b⟩ := h
    obtain ⟨r2, a', b'⟩ := h'
    have e := hX _ _ _ _ _ a a'
    rw [← e] at b'
    exact ite_2 b b' ee ee
theorem ZZ_det (f : Int → Int) (n : Int) (lk : List Int → Int × Int × Int × Int) : ∀ k k', ZDt (ZZ f n lk k) (ZZ f n lk k') := by
  intro k
  induction k with
  | zero => exact fun k' _ _ _ _ _ h _ => False.elim h
  | succ k ih =>
    intro k'
    cases k' with
    | zero => exact fun _ _ _ _ _ _ h' => False.elim h'
    | succ k' =>
      intro op l s r r' h h'
      cases l with
      | nil =>
        rw [ZZ_n] at h h'
        exact h.trans h'.symm
      | cons i is =>
        rw [ZZ_c] at h h'
        obtain ⟨r1, a, b⟩ := h
        obtain ⟨r2, a', b'⟩ := h'
        have e := zit_d (ih k') a a'
        rw [← e] at b'
        exact ite_2 b b' (ih k' _ _ _ _ _) (fun a b => a.trans b.symm)
/-- some depth -/
def ZE (f : Int → Int) (n : Int) (lk : List Int → Int × Int × Int × Int) (op : Nat) (l : List (Int × Int)) (s : ZS) (r : ZR) : Prop := ∃ k, ZZ f n lk k op l s r
def ZI (f : Int → Int) (n : Int) (lk : List Int → Int × Int × Int × Int) (op : Nat) (c a : Int) (s : ZS) (r : ZR) : Prop := ∃ k, zit f n lk (ZZ f n lk k) op c a s r
theorem ZE_n (f : Int → Int) (n : Int) (lk : List Int → Int × Int × Int × Int) (op : Nat) (s : ZS) : ZE f n lk op [] s (zok s) := ⟨1, by rw [ZZ_n]⟩
/-- a good piece, then the rest -/
theorem ZE_g {f : Int → Int} {n : Int} {lk : List Int → Int × Int × Int × Int} {op : Nat} {c a : Int} {is : List (Int × Int)} {s : ZS} {r1 r : ZR} (h : ZI f n lk op c a s r1) (g : r1.1 = true) (h2 : ZE f n lk op is r1.2.2 r) : ZE f n lk op ((c, a) :: is) s r := by
  obtain ⟨k, h⟩ := h
  obtain ⟨k2, h2⟩ := h2
  refine ⟨k + k2 + 1, ?_⟩
  rw [ZZ_c]
  refine ⟨r1, zit_m (ZZ_le (Nat.le_add_right _ _)) h, ?_⟩
  rw [if_pos g]
  exact ZZ_le (Nat.le_add_left _ _) _ _ _ _ h2
/-- a wrong piece -/
theorem ZE_b {f : Int → Int} {n : Int} {lk : List Int → Int × Int × Int × Int} {op : Nat} {c a : Int} {is : List (Int × Int)} {s : ZS} {r1 : ZR} (h : ZI f n lk op c a s r1) (g : r1.1 = false) : ZE f n lk op ((c, a) :: is) s r1 := by
  obtain ⟨k, h⟩ := h
  refine ⟨k + 1, ?_⟩
  rw [ZZ_c]
  refine ⟨r1, h, ?_⟩
  rw [if_neg (by rw [g]; decide)]
theorem ZE_det {f : Int → Int} {n : Int} {lk : List Int → Int × Int × Int × Int} {op : Nat} {l : List (Int × Int)} {s : ZS} {r r' : ZR} (h : ZE f n lk op l s r) (h' : ZE f n lk op l s r') : r = r' := by
  obtain ⟨k, h⟩ := h
  obtain ⟨k', h'⟩ := h'
  exact ZZ_det f n lk k k' op l s r r' h h'
theorem ZI_0 {f : Int → Int} {n : Int} {lk : List Int → Int × Int × Int × Int} {op : Nat} {a : Int} {s : ZS} {r : ZR} (h : r = ztk f n a s) : ZI f n lk op 0 a s r := ⟨0, h⟩
theorem ZI_1 {f : Int → Int} {n : Int} {lk : List Int → Int × Int × Int × Int} {op : Nat} {a : Int} {s : ZS} {r : ZR} (h : r = znm f n lk a s) : ZI f n lk op 1 a s r := ⟨0, h⟩
theorem ZI_2 {f : Int → Int} {n : Int} {lk : List Int → Int × Int × Int × Int} {op : Nat} {a : Int} {s : ZS} {r : ZR} (h : zsm f n lk op a s r) : ZI f n lk op 2 a s r := ⟨0, h⟩
theorem ZI_3 {f : Int → Int} {n : Int} {lk : List Int → Int × Int × Int × Int} {op : Nat} {a : Int} {s : ZS} {r : ZR} (h : zts f n lk op s r) : ZI f n lk op 3 a s r := ⟨0, h⟩
theorem ZI_5 {f : Int → Int} {n : Int} {lk : List Int → Int × Int × Int × Int} {op : Nat} {a : Int} {s : ZS} {r : ZR} (h : r = zac f n s) : ZI f n lk op 5 a s r := ⟨0, h⟩
theorem ZI_4b {f : Int → Int} {n : Int} {lk : List Int → Int × Int × Int × Int} {op : Nat} {a : Int} {s : ZS} (h : ¬ ((wrd f n s.1).1 = 123 ∧ op < 20)) : ZI f n lk op 4 a s (zer (wrd f n s.1).2.1) := ⟨0, by
  show zbl f n (ZZ f n lk 0) op s _
  unfold zbl
  rw [if_neg h]⟩
theorem ZI_4 {f : Int → Int} {n : Int} {lk : List Int → Int × Int × Int × Int} {op : Nat} {a : Int} {s : ZS} {r1 r : ZR} (h : (wrd f n s.1).1 = 123 ∧ op < 20) (h1 : ZE f n lk (op + 1) [(0, 123), (8, 0), (0, 125)] (zin s) r1) (hr : if r1.1 = true then r = znd f n s r1.2.2 0 (35, 0, 0, r1.2.2.2.2.2.1) else r = r1) : ZI f n lk op 4 a s r := by
  obtain ⟨k, h1⟩ := h1
  refine ⟨k, ?_⟩
  show zbl f n (ZZ f n lk k) op s r
  unfold zbl
  rw [if_pos h]
  exact ⟨r1, h1, hr⟩
theorem ZI_9b {f : Int → Int} {n : Int} {lk : List Int → Int × Int × Int × Int} {op : Nat} {a : Int} {s : ZS} (h : ¬ isS (wrd f n s.1).1 = true) : ZI f n lk op 9 a s (zer (wrd f n s.1).2.1) := ⟨0, by
  show zst f n (ZZ f n lk 0) op s _
  unfold zst
  rw [if_neg h]⟩
theorem ZI_9 {f : Int → Int} {n : Int} {lk : List Int → Int × Int × Int × Int} {op : Nat} {a : Int} {s : ZS} {r1 r : ZR} (h : isS (wrd f n s.1).1 = true) (h1 : ZE f n lk op ((0, (wrd f n s.1).1) :: its (wrd f n s.1).1) (zin s) r1) (hr : if r1.1 = true then r = znd f n s r1.2.2 1 ((wrd f n s.1).1, r1.2.2.2.2.2.2.1, r1.2.2.2.2.2.2.2.2, r1.2.2.2.2.2.1) else r = r1) : ZI f n lk op 9 a s r := by
  obtain ⟨k, h1⟩ := h1
  refine ⟨k, ?_⟩
  show zst f n (ZZ f n lk k) op s r
  unfold zst
  rw [if_pos h]
  exact ⟨r1, h1, hr⟩
theorem ZI_6n {f : Int → Int} {n : Int} {lk : List Int → Int × Int × Int × Int} {op : Nat} {a : Int} {s : ZS} (h : ¬ (wrd f n s.1).1 = 18) : ZI f n lk op 6 a s (zok s) := ⟨0, by
  show (if (wrd f n s.1).1 = 18 then ZZ f n lk 0 op [(0, 18), (4, 0)] s _ else zok s = zok s)
  rw [if_neg h]⟩
theorem ZI_6 {f : Int → Int} {n : Int} {lk : List Int → Int × Int × Int × Int} {op : Nat} {a : Int} {s : ZS} {r : ZR} (h : (wrd f n s.1).1 = 18) (h1 : ZE f n lk op [(0, 18), (4, 0)] s r) : ZI f n lk op 6 a s r := by
  obtain ⟨k, h1⟩ := h1
  refine ⟨k, ?_⟩
  show (if (wrd f n s.1).1 = 18 then ZZ f n lk k op [(0, 18), (4, 0)] s r else r = zok s)
  rw [if_pos h]
  exact h1
theorem ZI_7n {f : Int → Int} {n : Int} {lk : List Int → Int × Int × Int × Int} {op : Nat} {a : Int} {s : ZS} (h : ¬ (wrd f n s.1).1 = 123) : ZI f n lk op 7 a s (zok s) := ⟨0, by
  show (if (wrd f n s.1).1 = 123 then ZZ f n lk 0 op [(4, 0), (7, 0)] s _ else zok s = zok s)
  rw [if_neg h]⟩
theorem ZI_7 {f : Int → Int} {n : Int} {lk : List Int → Int × Int × Int × Int} {op : Nat} {a : Int} {s : ZS} {r : ZR} (h : (wrd f n s.1).1 = 123) (h1 : ZE f n lk op [(4, 0), (7, 0)] s r) : ZI f n lk op 7 a s r := by
  obtain ⟨k, h1⟩ := h1
  refine ⟨k, ?_⟩
  show (if (wrd f n s.1).1 = 123 then ZZ f n lk k op [(4, 0), (7, 0)] s r else r = zok s)
  rw [if_pos h]
  exact h1
theorem ZI_8n {f : Int → Int} {n : Int} {lk : List Int → Int × Int × Int × Int} {op : Nat} {a : Int} {s : ZS} (h : (wrd f n s.1).1 = 125) : ZI f n lk op 8 a s (zok s) := ⟨0, by
  show (if (wrd f n s.1).1 = 125 then zok s = zok s else ZZ f n lk 0 op [(9, 0), (8, 0)] s _)
  rw [if_pos h]⟩
theorem ZI_8 {f : Int → Int} {n : Int} {lk : List Int → Int × Int × Int × Int} {op : Nat} {a : Int} {s : ZS} {r : ZR} (h : ¬ (wrd f n s.1).1 = 125) (h1 : ZE f n lk op [(9, 0), (8, 0)] s r) : ZI f n lk op 8 a s r := by
  obtain ⟨k, h1⟩ := h1
  refine ⟨k, ?_⟩
  show (if (wrd f n s.1).1 = 125 then r = zok s else ZZ f n lk k op [(9, 0), (8, 0)] s r)
  rw [if_neg h]
  exact h1
theorem ZI_10n {f : Int → Int} {n : Int} {lk : List Int → Int × Int × Int × Int} {op : Nat} {a : Int} {s : ZS} (h : (wrd f n s.1).1 = 32) : ZI f n lk op 10 a s (zok s) := ⟨0, by
  show (if (wrd f n s.1).1 = 32 then zok s = zok s else ZZ f n lk 0 op [(9, 0), (10, 0)] s _)
  rw [if_pos h]⟩
theorem ZI_10 {f : Int → Int} {n : Int} {lk : List Int → Int × Int × Int × Int} {op : Nat} {a : Int} {s : ZS} {r : ZR} (h : ¬ (wrd f n s.1).1 = 32) (h1 : ZE f n lk op [(9, 0), (10, 0)] s r) : ZI f n lk op 10 a s r := by
  obtain ⟨k, h1⟩ := h1
  refine ⟨k, ?_⟩
  show (if (wrd f n s.1).1 = 32 then r = zok s else ZZ f n lk k op [(9, 0), (10, 0)] s r)
  rw [if_neg h]
  exact h1
