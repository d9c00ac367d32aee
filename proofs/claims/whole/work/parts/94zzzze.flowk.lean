/-! a way flows: the house behind it -/
/-- a pipe's old liquid, as the class tells it behind the way -/
def xLs (v : MW) (ca : Int32) (x : Nat) : Int32 := if (v.1 17 x).toInt = 0 then v.1 19 x else ca
/-- what is known of both before and behind -/
def FwF (v w v' w' : MW) (n : Nat) (en : Nat → Nat) (fr to : Nat) (ca : Int32) (B : Nat → Bool) (M c : Nat) : Prop := ((fr : Int) < tM w ∧ (to : Int) < tM w ∧ ¬ fr = to ∧ tkM w fr ∧ tkM w to) ∧ (1 ≤ ca.toInt ∧ ca.toInt ≤ 14) ∧ (∀ i, i < n → en i / 2 < 24 ∧ ((en i / 2 : Nat) : Int) < pM w) ∧ (∀ i j, i < n → j < n → en i / 2 = en j / 2 → i = j) ∧ MvO (fun x => x = fr ∨ x = to ∨ ∃ i, i < n ∧ x = (tM w).toNat + en i / 2) (fun p => ∃ i, i < n ∧ p = en i / 2) v v' ∧ (∀ i, i < n → CPi v v' ((tM w).toNat + en i / 2) (en i / 2) (ofM w en i) (decide (en i % 2 = 0)) ca (xLs v ca ((tM w).toNat + en i / 2)) B M) ∧ (FrS v v' fr M ca ∧ ToS v v' to c ca) ∧ FmR w w' n en fr to ca B M c ∧ (w.1 165 to).toInt + c ≤ (w.1 164 to).toInt ∧ ∀ i, i < n → rmC v (en i / 2) = sM w (en i)
theorem fw_t {v w v' w' : MW} {n : Nat} {en : Nat → Nat} {fr to : Nat} {ca : Int32} {B : Nat → Bool} {M c : Nat} (f : FwF v w v' w' n en fr to ca B M c) : tM w' = tM w ∧ pM w' = pM w ∧ ∀ t, tkM w' t ↔ tkM w t := by
  have e := f.2.2.2.2.2.2.2.1.1
  refine ⟨?_, ?_, fun t => ?_⟩
  · unfold tM
    rw [e 127 4 (by decide) (by decide) (by decide) (by decide) (by decide) (by decide)]
  · unfold pM
    rw [e 127 11 (by decide) (by decide) (by decide) (by decide) (by decide) (by decide)]
  · unfold tkM
    rw [e 163 _ (by decide) (by decide) (by decide) (by decide) (by decide) (by decide)]
/-- a tank of neither side of the way -/
theorem fw_o {v w v' w' : MW} {n : Nat} {en : Nat → Nat} {fr to : Nat} {ca : Int32} {B : Nat → Bool} {M c : Nat} (f : FwF v w v' w' n en fr to ca B M c) {x : Nat} (h1 : ¬ x = fr) (h2 : ¬ x = to) (h3 : ∀ i, i < n → ¬ x = (tM w).toNat + en i / 2) : (v'.1 17 x = v.1 17 x ∧ v'.1 18 x = v.1 18 x ∧ v'.1 19 x = v.1 19 x ∧ ∀ i, 1 ≤ i → i ≤ 5 → v'.1 23 (6 * x + i) = v.1 23 (6 * x + i)) ∧ w'.1 165 x = w.1 165 x ∧ w'.1 166 x = w.1 166 x ∧ w'.1 173 x = w.1 173 x ∧ ∀ l, l < 6 → w'.1 174 (6 * x + l) = w.1 174 (6 * x + l) := by
  obtain ⟨_, _, _, _, mo, _, _, fm, _⟩ := f
  have nS : ¬ (x = fr ∨ x = to ∨ ∃ i, i < n ∧ x = (tM w).toNat + en i / 2) := fun q => by
    rcases q with q | q | ⟨i, hi, q⟩
    · exact h1 q
    · exact h2 q
    · exact h3 i hi q
  have y := fm.2.2.2.2.2 x h2 h3
  exact ⟨⟨mo.2.2.1 17 x (by omega) nS, mo.2.2.1 18 x (by omega) nS, mo.2.2.1 19 x (by omega) nS, fun i i1 i2 => mo.2.2.2.2.1 x i nS i1 i2⟩, fm.2.1.1 x h1 h2, fm.2.1.2.1 x h2, y.1, y.2⟩
/-- the tank from which it goes -/
theorem fw_fr {v w v' w' : MW} {n : Nat} {en : Nat → Nat} {fr to : Nat} {ca : Int32} {B : Nat → Bool} {M c : Nat} (P : 0 ≤ pM w) (hr : HRq (mx v w)) (f : FwF v w v' w' n en fr to ca B M c) : (v'.1 17 fr = (if 0 < (w'.1 165 fr).toInt then w'.1 166 fr else 0)) ∧ (((v'.1 17 fr).toInt = 0 → w'.1 173 fr = v'.1 19 fr) ∧ (¬ (v'.1 17 fr).toInt = 0 → w'.1 173 fr = v'.1 17 fr)) ∧ (∀ l, 1 ≤ l → l ≤ 5 → v'.1 23 (6 * fr + l) = w'.1 174 (6 * fr + l)) ∧ (v'.1 18 fr = w'.1 165 fr ∧ 0 ≤ (w'.1 165 fr).toInt ∧ (w'.1 165 fr).toInt ≤ (w.1 164 fr).toInt ∧ (0 < (w'.1 165 fr).toInt → 1 ≤ (w'.1 166 fr).toInt ∧ (w'.1 166 fr).toInt ≤ 14)) := by
  obtain ⟨⟨f1, t1, ft, kf, kt⟩, ca1, p24, ij, mo, _, ⟨fs, ts⟩, fm, _, _⟩ := f
  have sl : SKl v w := hr.2.2.1.1
  have sv : SKv v w := hr.2.2.1.2.1
  have s1 := (sl.1 fr f1).1 kf
  have st := hr.2.2.1.2.2.1 fr f1 kf
  have st1 : v.1 18 fr = w.1 165 fr := st.1
  have st3 : 0 ≤ (w.1 165 fr).toInt := st.2.2.1
  have st4 : (w.1 165 fr).toInt ≤ (w.1 164 fr).toInt := st.2.2.2.1
  have st5 : 0 < (w.1 165 fr).toInt → 1 ≤ (w.1 166 fr).toInt ∧ (w.1 166 fr).toInt ≤ 14 := st.2.2.2.2
  have svx := sv.1 fr (by omega)
  have e173 := (fm.2.2.2.2.2 fr ft (fun i _ => by omega))
  have e166 := fm.2.1.2.1 fr ft
  have e165 := fm.2.1.2.2.1
  have h1 := fs.1
  rw [st1] at h1
  have e18 : v'.1 18 fr = w'.1 165 fr := ti_inj (by omega)
  have z165 : 0 ≤ (w'.1 165 fr).toInt := by
    by_cases c0 : M = 0
    · omega
    · have := (fs.2.2.1 (by omega)).2.1
      rw [st1] at this
      omega
  rw [e166, e173.1]
  refine ⟨?_, ?_, fun l l1 l2 => ?_, e18, z165, by omega, fun q => st5 (by omega)⟩
  · by_cases c0 : M = 0
    · rw [(fs.2.1 c0).1, s1, show (w'.1 165 fr).toInt = (w.1 165 fr).toInt by omega]
    · have g := fs.2.2.1 (by omega)
      rw [st1] at g
      have z0 : 0 < (w.1 165 fr).toInt := by omega
      rw [if_pos z0, g.1] at s1
      rw [g.2.2.1]
      by_cases d : (M : Int) < (w.1 165 fr).toInt
      · rw [if_pos d, if_pos (by omega)]
        exact s1
      · rw [if_neg d, if_neg (by omega)]
  · by_cases c0 : M = 0
    · rw [(fs.2.1 c0).1, (fs.2.1 c0).2]
      exact svx
    · have g := fs.2.2.1 (by omega)
      have n17 : ¬ (v.1 17 fr).toInt = 0 := by rw [g.1]; omega
      have e := svx.2 n17
      rw [e, g.1, g.2.2.1, g.2.2.2]
      by_cases d : (M : Int) < (v.1 18 fr).toInt
      · rw [if_pos d, if_pos d]
        exact ⟨fun q => by omega, fun _ => rfl⟩
      · rw [if_neg d, if_neg d]
        exact ⟨fun _ => rfl, fun q => absurd i_0 q⟩
  · rw [fs.2.2.2 l l1 l2, e173.2 l (by omega)]
    exact sv.2.1 fr l (by omega) l1 l2
/-- the tank to which it goes -/
theorem fw_to {v w v' w' : MW} {n : Nat} {en : Nat → Nat} {fr to : Nat} {ca : Int32} {B : Nat → Bool} {M c : Nat} (P : 0 ≤ pM w) (hr : HRq (mx v w)) (f : FwF v w v' w' n en fr to ca B M c) : (v'.1 17 to = (if 0 < (w'.1 165 to).toInt then w'.1 166 to else 0)) ∧ (((v'.1 17 to).toInt = 0 → w'.1 173 to = v'.1 19 to) ∧ (¬ (v'.1 17 to).toInt = 0 → w'.1 173 to = v'.1 17 to)) ∧ (∀ l, 1 ≤ l → l ≤ 5 → v'.1 23 (6 * to + l) = w'.1 174 (6 * to + l)) ∧ (v'.1 18 to = w'.1 165 to ∧ 0 ≤ (w'.1 165 to).toInt ∧ (w'.1 165 to).toInt ≤ (w.1 164 to).toInt ∧ (0 < (w'.1 165 to).toInt → 1 ≤ (w'.1 166 to).toInt ∧ (w'.1 166 to).toInt ≤ 14)) := by
  obtain ⟨⟨f1, t1, ft, kf, kt⟩, ca1, p24, ij, mo, _, ⟨fs, ts⟩, fm, rm, _⟩ := f
  have sl : SKl v w := hr.2.2.1.1
  have sv : SKv v w := hr.2.2.1.2.1
  have s1 := (sl.1 to t1).1 kt
  have st := hr.2.2.1.2.2.1 to t1 kt
  have st1 : v.1 18 to = w.1 165 to := st.1
  have st3 : 0 ≤ (w.1 165 to).toInt := st.2.2.1
  have st5 : 0 < (w.1 165 to).toInt → 1 ≤ (w.1 166 to).toInt ∧ (w.1 166 to).toInt ≤ 14 := st.2.2.2.2
  have svx := sv.1 to (by omega)
  have e165 := fm.2.1.2.2.2.1
  have e166 := fm.2.1.2.2.2.2
  have e173 := fm.2.2.2.2.1
  have h1 := ts.1
  rw [st1] at h1
  have e18 : v'.1 18 to = w'.1 165 to := ti_inj (by omega)
  rw [e166, e173.1, ts.2.1, ts.2.2.1]
  by_cases d : 0 < c
  · rw [if_pos d, if_pos d, if_pos d, if_pos (by omega)]
    refine ⟨rfl, ⟨fun q => by omega, fun _ => rfl⟩, fun l l1 l2 => ?_, e18, by omega, by omega, fun _ => ca1⟩
    rw [ts.2.2.2 l l1 l2, e173.2 l (by omega), if_pos d, if_pos d]
  · rw [if_neg d, if_neg d, if_neg d]
    have e : (w'.1 165 to).toInt = (w.1 165 to).toInt := by omega
    rw [e]
    refine ⟨s1, svx, fun l l1 l2 => ?_, e18, by omega, by omega, fun q => st5 q⟩
    rw [ts.2.2.2 l l1 l2, e173.2 l (by omega), if_neg d, if_neg d]
    exact sv.2.1 to l (by omega) l1 l2
/-- a pipe of the way -/
theorem fw_pi {v w v' w' : MW} {n : Nat} {en : Nat → Nat} {fr to : Nat} {ca : Int32} {B : Nat → Bool} {M c : Nat} (T : 0 ≤ tM w) (hr : HRq (mx v w)) (f : FwF v w v' w' n en fr to ca B M c) (k17 : ∀ i, i < n → v.1 17 ((tM w).toNat + en i / 2) = 0 ∨ v.1 17 ((tM w).toNat + en i / 2) = ca) {i : Nat} (hi : i < n) : ((v'.1 17 ((tM w).toNat + en i / 2) = 0 ∧ ∀ k : Nat, (k : Int) < (w.1 169 (en i / 2)).toInt → w'.1 172 (200 * (en i / 2) + k) = 0) ∨ (¬ v'.1 17 ((tM w).toNat + en i / 2) = 0 ∧ (∀ k : Nat, (k : Int) < (w.1 169 (en i / 2)).toInt → w'.1 172 (200 * (en i / 2) + k) = 0 ∨ w'.1 172 (200 * (en i / 2) + k) = v'.1 17 ((tM w).toNat + en i / 2)) ∧ ∃ k : Nat, (k : Int) < (w.1 169 (en i / 2)).toInt ∧ w'.1 172 (200 * (en i / 2) + k) = v'.1 17 ((tM w).toNat + en i / 2))) ∧ (((v'.1 17 ((tM w).toNat + en i / 2)).toInt = 0 → w'.1 173 ((tM w).toNat + en i / 2) = v'.1 19 ((tM w).toNat + en i / 2)) ∧ (¬ (v'.1 17 ((tM w).toNat + en i / 2)).toInt = 0 → w'.1 173 ((tM w).toNat + en i / 2) = v'.1 17 ((tM w).toNat + en i / 2))) ∧ (∀ l, 1 ≤ l → l ≤ 5 → v'.1 23 (6 * ((tM w).toNat + en i / 2) + l) = w'.1 174 (6 * ((tM w).toNat + en i / 2) + l)) ∧ ((0 ≤ (v'.1 21 (en i / 2)).toInt ∧ (v'.1 21 (en i / 2)).toInt < (w.1 169 (en i / 2)).toInt) ∧ (∀ k : Nat, (k : Int) < (w.1 169 (en i / 2)).toInt → (cel v' (en i / 2) (((v'.1 21 (en i / 2)).toInt.toNat + k) % (w.1 169 (en i / 2)).toInt.toNat) = true ↔ ¬ w'.1 172 (200 * (en i / 2) + k) = 0)) ∧ (v'.1 18 ((tM w).toNat + en i / 2)).toInt = ctb (fun k => decide (¬ w'.1 172 (200 * (en i / 2) + k) = 0)) (w.1 169 (en i / 2)).toInt.toNat) ∧ (v'.1 17 ((tM w).toNat + en i / 2) = 0 ∨ v'.1 17 ((tM w).toNat + en i / 2) = ca) := by
  obtain ⟨_, ca1, p24, ij, mo, cp, _, fm, _, er⟩ := f
  obtain ⟨C1, C2, C3, C4, C5, C6, C7, C8, C9⟩ := cp i hi
  have sv : SKv v w := hr.2.2.1.2.1
  have pp := p24 i hi
  have svx := sv.1 ((tM w).toNat + en i / 2) (by omega)
  have con := fm.2.2.1.1 i hi
  have lst := fm.2.2.2.1 i hi
  have eS : rmC v (en i / 2) = (w.1 169 (en i / 2)).toInt.toNat := er i hi
  have eS2 : sM w (en i) = (w.1 169 (en i / 2)).toInt.toNat := rfl
  have r1 : 1 ≤ (v'.1 12 (en i / 2)).toInt := C1.1.1
  have rv : (v'.1 12 (en i / 2)).toInt.toNat = (w.1 169 (en i / 2)).toInt.toNat := by
    rw [C2]
    exact eS
  rw [eS2] at con
  rw [eS] at C3 C4 C5
  generalize hS : (w.1 169 (en i / 2)).toInt.toNat = S at *
  have S1 : 1 ≤ S ∧ (w.1 169 (en i / 2)).toInt = (S : Int) := by omega
  have ca0 : ¬ ca.toInt = 0 := by omega
  have bz : ∀ b : Bool, bv ca b = 0 ↔ b = false := fun b => by
    have q := bv_0 ca0 b
    constructor
    · intro e
      exact q.mp (by rw [e]; exact i_0)
    · intro e
      exact i32_z (q.mpr e)
  have con2 : ∀ k, k < S → w'.1 172 (200 * (en i / 2) + k) = bv ca (Bm B M (ofM w en i + pos (en i) S k)) := fun k hk => by
    have q := con (pos (en i) S k) (pos_lt hk)
    rw [pos_p hk] at q
    exact q
  have cnt : ctb (fun k => decide (¬ w'.1 172 (200 * (en i / 2) + k) = 0)) S = ctb (fun j => Bm B M (ofM w en i + j)) S := by
    rw [← ctb_pos (fun j => Bm B M (ofM w en i + j)) (en i) S]
    refine ctb_same _ (fun k hk => ?_)
    rw [con2 k hk]
    cases q : Bm B M (ofM w en i + pos (en i) S k) with
    | true => exact decide_eq_true (fun y => by rw [bz] at y; cases y)
    | false => exact decide_eq_false (fun y => y ((bz _).mpr rfl))
  have h17 : v'.1 17 ((tM w).toNat + en i / 2) = 0 ∨ v'.1 17 ((tM w).toNat + en i / 2) = ca := by
    rw [C5]
    split
    · exact Or.inr rfl
    · exact Or.inl rfl
  have vca : ∀ x : Int32, x = ca → ¬ x = 0 := fun x e y => by
    rw [← e, y] at ca0
    exact ca0 i_0
  refine ⟨?_, ⟨fun z => ?_, fun z => ?_⟩, fun l l1 l2 => ?_, ⟨⟨C1.2.1, by have := C1.2.2; omega⟩, fun k hk => ?_, ?_⟩, h17⟩
  · by_cases q : 0 < ctb (fun j => Bm B M (ofM w en i + j)) S
    · rw [if_pos q] at C5
      rw [C5]
      refine Or.inr ⟨vca ca rfl, fun k hk => ?_, ?_⟩
      · rw [con2 k (by omega)]
        unfold bv
        split
        · exact Or.inr rfl
        · exact Or.inl rfl
      · have ex : ∃ j, j < S ∧ Bm B M (ofM w en i + j) = true := by
          apply Classical.byContradiction
          intro no
          have z0 : ctb (fun j => Bm B M (ofM w en i + j)) S ≤ ctb (fun _ => false) S := ctb_mono S (fun x hx y => absurd ⟨x, hx, y⟩ no)
          have z1 : ∀ n, ctb (fun _ => false) n = 0 := fun n => by
            induction n with
            | zero => rfl
            | succ n ih =>
              rw [ctb_s, ih]
              rfl
          rw [z1] at z0
          omega
        obtain ⟨j, hj, ej⟩ := ex
        refine ⟨pos (en i) S j, by have := pos_lt (e := en i) hj; omega, ?_⟩
        rw [con j hj, ej]
        exact if_pos rfl
    · rw [if_neg q] at C5
      rw [C5]
      refine Or.inl ⟨rfl, fun k hk => ?_⟩
      rw [con2 k (by omega), bz]
      have z0 : ctb (fun j => Bm B M (ofM w en i + j)) S = 0 := by omega
      exact ctb_0 S z0 _ (pos_lt (by omega))
  · by_cases y : wet B M (ofM w en i)
    · rw [(lst.1 y).1]
      exact ((C7 z).1 y).symm
    · rw [(lst.2 y).1, (C7 z).2 y]
      unfold xLs
      by_cases t : (v.1 17 ((tM w).toNat + en i / 2)).toInt = 0
      · rw [if_pos t]
        exact svx.1 t
      · rw [if_neg t, svx.2 t]
        rcases k17 i hi with e | e
        · rw [e] at t
          exact absurd i_0 t
        · exact e
  · have e17 : v'.1 17 ((tM w).toNat + en i / 2) = ca := by
      rcases h17 with e | e
      · rw [e] at z
        exact absurd i_0 z
      · exact e
    rw [e17]
    by_cases y : wet B M (ofM w en i)
    · exact (lst.1 y).1
    · have x := C8 z y
      rw [(lst.2 y).1, ← x]
      unfold xLs
      by_cases t : (v.1 17 ((tM w).toNat + en i / 2)).toInt = 0
      · rw [if_pos t]
        exact svx.1 t
      · rw [if_neg t, svx.2 t]
        rcases k17 i hi with e | e
        · rw [e] at t
          exact absurd i_0 t
        · exact e
  · have c9 := C9 l l1 l2
    by_cases y : wet B M (ofM w en i)
    · rw [c9.1 y, (lst.1 y).2 l (by omega)]
    · rw [c9.2 y, (lst.2 y).2 l (by omega)]
      exact sv.2.1 _ l (by omega) l1 l2
  · have hk' : k < S := by omega
    have L := C3 (pos (en i) S k) (pos_lt hk')
    have le : lp v' (en i / 2) (decide (en i % 2 = 0)) (pos (en i) S k) = cel v' (en i / 2) (((v'.1 21 (en i / 2)).toInt.toNat + k) % S) := by
      unfold lp stC rmC
      rw [rv]
      unfold pos
      by_cases t : en i % 2 = 0
      · rw [decide_eq_true t, if_pos rfl, if_pos t]
      · rw [decide_eq_false t, if_neg (by decide), if_neg t, show S - 1 - (S - 1 - k) = k by omega]
    rw [← le, L, con2 k hk', bz]
    cases Bm B M (ofM w en i + pos (en i) S k) with
    | true => exact ⟨(fun _ y => by cases y), fun _ => rfl⟩
    | false => exact ⟨(fun y => by cases y), fun y => absurd rfl y⟩
  · rw [C4, cnt]
/-- the house behind a way's litres -/
theorem fw_hr {v w v' w' : MW} {k n : Nat} {en : Nat → Nat} {fr to : Nat} {ca : Int32} {B : Nat → Bool} {M c : Nat} (T : 0 ≤ tM w) (P : 0 ≤ pM w) (hr : HRq (mx v w)) (f : FwF v w v' w' n en fr to ca B M c) (k17 : ∀ i, i < n → v.1 17 ((tM w).toNat + en i / 2) = 0 ∨ v.1 17 ((tM w).toNat + en i / 2) = ca) (hk : k < nwy (mx v w)) (ek : ∀ i, i < wln (mx v w) k → i < n ∧ ent (mx v w) k i = en i) (ekn : ∀ i, i < n → i < wln (mx v w) k) (eca : w.1 183 k = ca) (n17 : ∀ x l : Nat, (x : Int) < tM w + pM w → 1 ≤ l → l ≤ 5 → ¬ (v'.1 17 x).toInt = 0 → v'.1 23 (6 * x + l) = -1) : HRq (mx v' w') := by
  obtain ⟨et, ep, ekk⟩ := fw_t f
  have ff := f
  obtain ⟨⟨f1, t1, ft, kf, kt⟩, ca1, p24, ij, mo, cp, ⟨fs, ts⟩, fm, rm, er⟩ := ff
  have sl : SKl v w := hr.2.2.1.1
  have sv : SKv v w := hr.2.2.1.2.1
  have oth : ∀ k j, ¬ k = 17 → ¬ k = 18 → ¬ k = 19 → ¬ k = 21 → ¬ k = 23 → v'.1 k j = v.1 k j := mo.2.1
  have om : ∀ k j, ¬ k = 165 → ¬ k = 166 → ¬ k = 172 → ¬ k = 173 → ¬ k = 174 → ¬ k = 193 → w'.1 k j = w.1 k j := fm.1
  have ag : ∀ m : Pl, off [(17, none), (18, none), (19, none), (21, none), (23, none), (165, none), (166, none), (172, none), (173, none), (174, none), (193, none)] m = true → Ag m (mx v w) (mx v' w') := fun m hm => mx_ag (fun k' j hk' => by
    have q := off_hit hm hk'
    exact ⟨fun _ => oth k' j (fun e => by rw [e] at q; cases q) (fun e => by rw [e] at q; cases q) (fun e => by rw [e] at q; cases q) (fun e => by rw [e] at q; cases q) (fun e => by rw [e] at q; cases q), fun _ => om k' j (fun e => by rw [e] at q; cases q) (fun e => by rw [e] at q; cases q) (fun e => by rw [e] at q; cases q) (fun e => by rw [e] at q; cases q) (fun e => by rw [e] at q; cases q) (fun e => by rw [e] at q; cases q)⟩)
  have tank : ∀ t : Nat, (t : Int) < tM w → ∀ i, i < n → ¬ t = (tM w).toNat + en i / 2 := fun t ht i _ => by omega
  have offw : ∀ p : Nat, (∀ i, i < n → ¬ en i / 2 = p) → ∀ i, i < n → ¬ (tM w).toNat + p = (tM w).toNat + en i / 2 := fun p hp i hi e => hp i hi (by omega)
  have A : SKl v' w' := by
    unfold SKl
    rw [et, ep]
    refine ⟨fun t ht => ⟨fun q => ?_, fun q => ?_⟩, fun p hp => ?_⟩
    · rw [ekk] at q
      by_cases c1 : t = fr
      · rw [c1]
        exact (fw_fr P hr f).1
      · by_cases c2 : t = to
        · rw [c2]
          exact (fw_to P hr f).1
        · have o := fw_o f c1 c2 (tank t ht)
          rw [o.1.1, o.2.1, o.2.2.1]
          exact (sl.1 t ht).1 q
    · rw [ekk] at q
      have o := fw_o f (fun e => q (by rw [e]; exact kf)) (fun e => q (by rw [e]; exact kt)) (tank t ht)
      rw [o.1.1]
      exact (sl.1 t ht).2 q
    · rw [om 169 p (by decide) (by decide) (by decide) (by decide) (by decide) (by decide)]
      by_cases q : ∃ i, i < n ∧ en i / 2 = p
      · obtain ⟨i, hi, e⟩ := q
        rw [← e]
        exact (fw_pi T hr f k17 hi).1
      · have q' : ∀ i, i < n → ¬ en i / 2 = p := fun i hi e => q ⟨i, hi, e⟩
        have o := fw_o (x := (tM w).toNat + p) f (by omega) (by omega) (offw p q')
        have s2 : (w.1 169 p).toInt ≤ 200 := (hr.2.2.1.2.2.2.1 p hp).2.1.2
        have e172 : ∀ x : Nat, (x : Int) < (w.1 169 p).toInt → w'.1 172 (200 * p + x) = w.1 172 (200 * p + x) := fun x hx => fm.2.2.1.2 p q' x (by omega)
        rw [o.1.1]
        rcases sl.2 p hp with ⟨a, b⟩ | ⟨a, b, x, hx, d⟩
        · exact Or.inl ⟨a, fun x hx => by rw [e172 x hx]; exact b x hx⟩
        · exact Or.inr ⟨a, fun y hy => by rw [e172 y hy]; exact b y hy, x, hx, by rw [e172 x hx]; exact d⟩
  have Bv : SKv v' w' := by
    unfold SKv
    rw [et, ep, oth 7 1 (by decide) (by decide) (by decide) (by decide) (by decide), om 127 78 (by decide) (by decide) (by decide) (by decide) (by decide) (by decide)]
    refine ⟨fun x hx => ?_, fun x l hx l1 l2 => ?_, sv.2.2⟩
    · by_cases c1 : x = fr
      · rw [c1]
        exact (fw_fr P hr f).2.1
      · by_cases c2 : x = to
        · rw [c2]
          exact (fw_to P hr f).2.1
        · by_cases q : ∃ i, i < n ∧ x = (tM w).toNat + en i / 2
          · obtain ⟨i, hi, e⟩ := q
            rw [e]
            exact (fw_pi T hr f k17 hi).2.1
          · have o := fw_o f c1 c2 (fun i hi e => q ⟨i, hi, e⟩)
            rw [o.1.1, o.1.2.2.1, o.2.2.2.1]
            exact sv.1 x hx
    · by_cases c1 : x = fr
      · rw [c1]
        exact (fw_fr P hr f).2.2.1 l l1 l2
      · by_cases c2 : x = to
        · rw [c2]
          exact (fw_to P hr f).2.2.1 l l1 l2
        · by_cases q : ∃ i, i < n ∧ x = (tM w).toNat + en i / 2
          · obtain ⟨i, hi, e⟩ := q
            rw [e]
            exact (fw_pi T hr f k17 hi).2.2.1 l l1 l2
          · have o := fw_o f c1 c2 (fun i hi e => q ⟨i, hi, e⟩)
            rw [o.1.2.2.2 l l1 l2, o.2.2.2.2 l (by omega)]
            exact sv.2.1 x l hx l1 l2
  have Ct : ∀ t : Nat, (t : Int) < tM w → tkM w t → v'.1 18 t = w'.1 165 t ∧ v'.1 10 t = w'.1 164 t ∧ 0 ≤ (w'.1 165 t).toInt ∧ (w'.1 165 t).toInt ≤ (w'.1 164 t).toInt ∧ (0 < (w'.1 165 t).toInt → 1 ≤ (w'.1 166 t).toInt ∧ (w'.1 166 t).toInt ≤ 14) := fun t ht q => by
    have st := hr.2.2.1.2.2.1 t ht q
    have st2 : v.1 10 t = w.1 164 t := st.2.1
    rw [oth 10 t (by decide) (by decide) (by decide) (by decide) (by decide), om 164 t (by decide) (by decide) (by decide) (by decide) (by decide) (by decide)]
    by_cases c1 : t = fr
    · have z := (fw_fr P hr f).2.2.2
      rw [c1] at st2 ⊢
      exact ⟨z.1, st2, z.2⟩
    · by_cases c2 : t = to
      · have z := (fw_to P hr f).2.2.2
        rw [c2] at st2 ⊢
        exact ⟨z.1, st2, z.2⟩
      · have o := fw_o f c1 c2 (tank t ht)
        rw [o.1.2.1, o.2.1, o.2.2.1]
        exact st
  have D : ∀ p : Nat, (p : Int) < pM w → v'.1 12 p = w'.1 169 p ∧ (1 ≤ (w'.1 169 p).toInt ∧ (w'.1 169 p).toInt ≤ 200) ∧ (0 ≤ (v'.1 21 p).toInt ∧ (v'.1 21 p).toInt < (w'.1 169 p).toInt) ∧ (∀ x : Nat, (x : Int) < (w'.1 169 p).toInt → (cel v' p (((v'.1 21 p).toInt.toNat + x) % (w'.1 169 p).toInt.toNat) = true ↔ ¬ w'.1 172 (200 * p + x) = 0)) ∧ (v'.1 18 ((tM w).toNat + p)).toInt = ctb (fun x => decide (¬ w'.1 172 (200 * p + x) = 0)) (w'.1 169 p).toInt.toNat := fun p hp => by
    have sp := hr.2.2.1.2.2.2.1 p hp
    have sp1 : v.1 12 p = w.1 169 p := sp.1
    have sp2 : 1 ≤ (w.1 169 p).toInt ∧ (w.1 169 p).toInt ≤ 200 := sp.2.1
    rw [oth 12 p (by decide) (by decide) (by decide) (by decide) (by decide), om 169 p (by decide) (by decide) (by decide) (by decide) (by decide) (by decide)]
    by_cases q : ∃ i, i < n ∧ en i / 2 = p
    · obtain ⟨i, hi, e⟩ := q
      have z := (fw_pi T hr f k17 hi).2.2.2.1
      rw [e] at z
      exact ⟨sp1, sp2, z.1, z.2.1, z.2.2⟩
    · have q' : ∀ i, i < n → ¬ en i / 2 = p := fun i hi e => q ⟨i, hi, e⟩
      have o := fw_o (x := (tM w).toNat + p) f (by omega) (by omega) (offw p q')
      have nP : ¬ ∃ i, i < n ∧ p = en i / 2 := fun y => by
        obtain ⟨i, hi, e⟩ := y
        exact q' i hi e.symm
      have e21 : v'.1 21 p = v.1 21 p := mo.2.2.2.1 p nP
      have e172 : ∀ x : Nat, (x : Int) < (w.1 169 p).toInt → w'.1 172 (200 * p + x) = w.1 172 (200 * p + x) := fun x hx => fm.2.2.1.2 p q' x (by omega)
      have ecl : ∀ y, y < 256 → cel v' p y = cel v p y := fun y hy => mo.2.2.2.2.2.2 p y hy nP
      have sp3 : 0 ≤ (v.1 21 p).toInt ∧ (v.1 21 p).toInt < (w.1 169 p).toInt := sp.2.2.1
      rw [e21, o.1.2.1]
      refine ⟨sp1, sp2, sp3, fun x hx => ?_, ?_⟩
      · have md' := Nat.mod_lt ((v.1 21 p).toInt.toNat + x) (show (w.1 169 p).toInt.toNat > 0 by omega)
        rw [ecl _ (by omega), e172 x hx]
        exact sp.2.2.2.1 x hx
      · have s5 : (v.1 18 ((tM w).toNat + p)).toInt = ctb (fun x => decide (¬ w.1 172 (200 * p + x) = 0)) (w.1 169 p).toInt.toNat := sp.2.2.2.2
        rw [s5]
        have cs : ctb (fun x => decide (¬ w.1 172 (200 * p + x) = 0)) (w.1 169 p).toInt.toNat = ctb (fun x => decide (¬ w'.1 172 (200 * p + x) = 0)) (w.1 169 p).toInt.toNat := ctb_same _ (fun x hx => by rw [e172 x (by omega)])
        rw [cs]
  have hsk : HSk (mx v' w') := by
    refine ⟨A, Bv, ?_, ?_, ?_⟩
    · intro t ht q
      have ht' : (t : Int) < tM w := by rw [← et]; exact ht
      exact Ct t ht' ((ekk t).mp q)
    · intro p hp
      have hp' : (p : Int) < pM w := by rw [← ep]; exact hp
      have z := D p hp'
      rw [← et] at z
      exact z
    · intro x l hx l1 l2 q
      have hx' : (x : Int) < tM w + pM w := by rw [← et, ← ep]; exact hx
      exact n17 x l hx' l1 l2 q
  have m := tM_m (ag lPm rfl)
  have hwf : WRf (mx v' w') := by
    have eN : nwy (mx v' w') = nwy (mx v w) := by
      unfold nwy
      rw [ag [(127, some 26)] rfl 127 26 rfl]
    have eL : ∀ y, wln (mx v' w') y = wln (mx v w) y := fun y => by
      unfold wln
      rw [ag [(185, none)] rfl 185 y rfl]
    have eE : ∀ y x, ent (mx v' w') y x = ent (mx v w) y x := fun y x => by
      unfold ent
      rw [ag [(186, none)] rfl 186 _ rfl]
    intro y i hy hi
    rw [eN] at hy
    rw [eL] at hi
    rw [m.1, eE, ag [(183, none)] rfl 183 y rfl]
    have E := (w_e hr.2.2.2.2.1 hy hi).2
    by_cases q : ∃ i', i' < n ∧ en i' / 2 = ent (mx v w) y i / 2
    · obtain ⟨i', hi', e⟩ := q
      have z := (fw_pi T hr f k17 hi').2.2.2.2
      rw [e] at z
      have yk : y = k := by
        have l := (w_l hr.2.2.2.1 hk).2.1
        by_cases c1 : i' < wln (mx v w) k
        · have ee := (ek i' c1).2
          rw [← ee] at e
          exact (hr.2.2.2.2.2.1.2 y i k i' hy hi hk c1 e.symm).1
        · exact absurd (ekn i' hi') c1
      rw [yk] at z ⊢
      have z3 : (mx v w).1 183 k = ca := eca
      rw [z3]
      exact z
    · have q' : ∀ i', i' < n → ¬ en i' / 2 = ent (mx v w) y i / 2 := fun i' hi' e => q ⟨i', hi', e⟩
      have o := fw_o (x := (tM w).toNat + ent (mx v w) y i / 2) f (by omega) (by omega) (offw _ q')
      have z := hr.2.2.2.2.2.2.2.2 y i hy hi
      have e17 : (mx v' w').1 17 ((tM (mx v w)).toNat + ent (mx v w) y i / 2) = (mx v w).1 17 ((tM (mx v w)).toNat + ent (mx v w) y i / 2) := o.1.1
      rw [e17]
      exact z
  exact ⟨HPl_ag (ag lPL rfl) hr.1, HTb_ag (ag lTq rfl) hr.2.1, hsk, HWy_h (ag lPL rfl) (ag lWy rfl) hwf hr.2.2.2⟩
