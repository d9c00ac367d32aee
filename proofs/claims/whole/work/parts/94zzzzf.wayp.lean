/-! one way moves on both sides: the pair -/
def bln (f : Nat → Nat → Bool) (s : Nat → Nat) : Nat → Nat → Bool
  | 0, _ => false
  | n + 1, x => if x < ofs s n then bln f s n x else f n (x - ofs s n)
theorem ofs_m (s : Nat → Nat) {i j : Nat} (h : i < j) : ofs s i + s i ≤ ofs s j := by
  induction j with
  | zero => omega
  | succ j ih =>
    rw [ofs_s]
    by_cases c : i = j
    · rw [c]
      exact Nat.le_refl _
    · have := ih (by omega)
      omega
theorem bln_a (f : Nat → Nat → Bool) (s : Nat → Nat) : ∀ n i j, i < n → j < s i → bln f s n (ofs s i + j) = f i j := by
  intro n
  induction n with
  | zero => exact fun i _ h => absurd h (Nat.not_lt_zero i)
  | succ n ih =>
    intro i j hi hj
    show (if ofs s i + j < ofs s n then bln f s n (ofs s i + j) else f n (ofs s i + j - ofs s n)) = f i j
    by_cases c : i = n
    · rw [c] at hj ⊢
      rw [if_neg (by omega), show ofs s n + j - ofs s n = j by omega]
    · have m := ofs_m s (show i < n by omega)
      rw [if_pos (by omega)]
      exact ih i j (by omega) hj
theorem ofs_c {s s' : Nat → Nat} : ∀ n, (∀ i, i < n → s i = s' i) → ofs s n = ofs s' n := by
  intro n
  induction n with
  | zero => exact fun _ => rfl
  | succ n ih =>
    intro h
    rw [ofs_s, ofs_s, ih (fun i hi => h i (by omega)), h n (by omega)]
theorem odd_x : ∀ e, e < 48 → ((((nI (xo e)) &&& (1 : Int32)).toInt = 1 ↔ decide (e % 2 = 0) = true) : Bool) = true := by decide +kernel
/-- the litres that came out have room -/
theorem co_le {v z : MW} {L fr to : Nat} {ca : Int32} {B : Nat → Bool} {M : Nat} (h : ∀ m, m < M → decM v z L fr to ca B m) (b : (z.1 165 to).toInt ≤ (z.1 164 to).toInt) : (z.1 165 to).toInt + cOut B L M ≤ (z.1 164 to).toInt := by
  induction M with
  | zero =>
    have q : cOut B L 0 = 0 := rfl
    rw [q]
    omega
  | succ M ih =>
    have i := ih (fun m hm => h m (by omega))
    rw [cOut_s]
    cases q : Bm B (M + 1) L with
    | false =>
      have b0 : bn false = 0 := rfl
      rw [b0]
      omega
    | true =>
      have b1 : bn true = 1 := rfl
      rw [b1]
      rcases (h M (by omega)).2 with y | y
      · rw [q] at y
        cases y
      · have := y.1
        omega
theorem dec_e {v w : MW} {L fr to : Nat} {ca : Int32} {B : Nat → Bool} (sl : v.1 17 fr = (if 0 < (w.1 165 fr).toInt then w.1 166 fr else 0)) (e1 : v.1 18 fr = w.1 165 fr) (e2 : v.1 18 to = w.1 165 to) (e3 : v.1 10 to = w.1 164 to) (ca0 : ¬ ca.toInt = 0) (m : Nat) : decZ v L fr to ca B m ↔ decM v w L fr to ca B m := by
  unfold decZ decM
  rw [e1, e2, e3, sl]
  have q : (((if 0 < (w.1 165 fr).toInt then w.1 166 fr else 0) = ca) ∧ (m : Int) < (w.1 165 fr).toInt) ↔ (w.1 166 fr = ca ∧ (m : Int) < (w.1 165 fr).toInt) := by
    constructor
    · intro y
      have z := y.1
      rw [if_pos (by have := y.2; omega)] at z
      exact ⟨z, y.2⟩
    · intro y
      refine ⟨?_, y.2⟩
      rw [if_pos (by have := y.2; omega)]
      exact y.1
  rw [q]
theorem way_pair {v w : MW} {a : Int32} {u : Nat} {E E' Q Q' : MW → Prop} (hv : BND v) (hw : BND w) (hr : HRq (mx v w)) (a0 : 0 ≤ a.toInt) (a1 : a.toInt < (w.1 127 26).toInt) (h : q_Wa_move_12 a E Q u 0 v) (kE : ∀ v', (∀ R R' : MW → Prop, p_Mo_flow w a R → (∀ w', HRq (mx v' w') → w'.1 127 26 = w.1 127 26 → R w' → R' w') → p_Mo_flow w a R') → E v' → E' v') : q_Wa_move_12 a E' Q' u 0 v := by
  have T := hb_T hw
  have P := hb_P hw
  have hy := hr.2.2.2
  have nz := w_n hy.1
  have n26 : (w.1 127 26).toInt = nwy (mx v w) := nz.1.symm
  obtain ⟨k, ek⟩ : ∃ k : Nat, a.toInt.toNat = k := ⟨_, rfl⟩
  have ka : a.toInt = k := by omega
  have kn : k < nwy (mx v w) := by omega
  have A := hy.1.2.2.2 k kn
  have l := w_l hy.1 kn
  obtain ⟨n, en_⟩ : ∃ n, wln (mx v w) k = n := ⟨_, rfl⟩
  rw [en_] at l
  obtain ⟨ca, eca⟩ : ∃ ca, w.1 183 k = ca := ⟨_, rfl⟩
  obtain ⟨fr, efr⟩ : ∃ fr : Nat, (w.1 181 k).toInt = fr := ⟨(w.1 181 k).toInt.toNat, by have : 0 ≤ (w.1 181 k).toInt := A.2.2.2.2.1.1; omega⟩
  obtain ⟨to, eto⟩ : ∃ to : Nat, (w.1 182 k).toInt = to := ⟨(w.1 182 k).toInt.toNat, by have : 0 ≤ (w.1 182 k).toInt := A.2.2.2.2.2.1.1; omega⟩
  have A1 : v.1 27 k = w.1 181 k ∧ v.1 28 k = w.1 182 k ∧ v.1 29 k = w.1 184 k ∧ v.1 30 k = w.1 183 k ∧ v.1 31 k = w.1 185 k := A.1
  have A3 : 1 ≤ (w.1 183 k).toInt ∧ (w.1 183 k).toInt ≤ 14 := A.2.2.1
  have A4 : 1 ≤ (w.1 184 k).toInt ∧ (w.1 184 k).toInt ≤ 100 := A.2.2.2.1
  have A5 : (w.1 181 k).toInt < tM w ∧ tkM w (w.1 181 k).toInt := A.2.2.2.2.1.2
  have A6 : (w.1 182 k).toInt < tM w ∧ tkM w (w.1 182 k).toInt := A.2.2.2.2.2.1.2
  have A7 : ¬ (w.1 181 k).toInt = (w.1 182 k).toInt := A.2.2.2.2.2.2
  rw [eca] at A3
  rw [efr] at A5 A7
  rw [eto] at A6 A7
  have ft : ¬ fr = to := by omega
  have ca0 : ¬ ca.toInt = 0 := by omega
  have l185 : (w.1 185 k).toInt = n := l.1.symm
  have Bk := hy.2.1 k kn
  rw [en_] at Bk
  obtain ⟨en, een⟩ : ∃ en : Nat → Nat, ∀ i, ent (mx v w) k i = en i := ⟨_, fun _ => rfl⟩
  have e186 : ∀ i, i < n → ((en i : Nat) : Int) = (w.1 186 (24 * k + i)).toInt ∧ ((en i : Nat) : Int) < 2 * pM w := fun i hi => by
    have q := w_e hy.2.1 kn (show i < wln (mx v w) k by rw [en_]; exact hi)
    rw [een] at q
    exact q
  have e48 : ∀ i, i < n → en i < 48 := fun i hi => by have := (e186 i hi).2; omega
  have p24 : ∀ i, i < n → en i / 2 < 24 ∧ ((en i / 2 : Nat) : Int) < pM w := fun i hi => by have := (e186 i hi).2; omega
  have ij : ∀ i j, i < n → j < n → en i / 2 = en j / 2 → i = j := fun i j hi hj e => by
    have q := hy.2.2.1.2 k i k j kn (by rw [en_]; exact hi) kn (by rw [en_]; exact hj)
    rw [een, een] at q
    exact (q e).2
  have sp : ∀ i, i < n → v.1 12 (en i / 2) = w.1 169 (en i / 2) ∧ (1 ≤ (w.1 169 (en i / 2)).toInt ∧ (w.1 169 (en i / 2)).toInt ≤ 200) ∧ (0 ≤ (v.1 21 (en i / 2)).toInt ∧ (v.1 21 (en i / 2)).toInt < (w.1 169 (en i / 2)).toInt) ∧ (∀ x : Nat, (x : Int) < (w.1 169 (en i / 2)).toInt → (cel v (en i / 2) (((v.1 21 (en i / 2)).toInt.toNat + x) % (w.1 169 (en i / 2)).toInt.toNat) = true ↔ ¬ w.1 172 (200 * (en i / 2) + x) = 0)) ∧ (v.1 18 ((tM w).toNat + en i / 2)).toInt = ctb (fun x => decide (¬ w.1 172 (200 * (en i / 2) + x) = 0)) (w.1 169 (en i / 2)).toInt.toNat := fun i hi => hr.2.2.1.2.2.2.1 (en i / 2) (p24 i hi).2
  have k17 : ∀ i, i < n → v.1 17 ((tM w).toNat + en i / 2) = 0 ∨ v.1 17 ((tM w).toNat + en i / 2) = ca := fun i hi => by
    have q := hy.2.2.2.2.2 k i kn (by rw [en_]; exact hi)
    rw [een] at q
    rw [← eca]
    exact q
  have sl : SKl v w := hr.2.2.1.1
  have rs : ∀ i, i < n → rmC v (en i / 2) = sM w (en i) := fun i hi => by
    unfold rmC sM
    rw [(sp i hi).1]
  have tc : tC v = tM w := hr.1.1.1
  obtain ⟨B, eB⟩ : ∃ B : Nat → Bool, ∀ i j, i < n → j < sM w (en i) → lp v (en i / 2) (decide (en i % 2 = 0)) j = B (ofM w en i + j) := ⟨bln (fun i j => lp v (en i / 2) (decide (en i % 2 = 0)) j) (fun j => sM w (en j)) n, fun i j hi hj => (bln_a (fun i j => lp v (en i / 2) (decide (en i % 2 = 0)) j) (fun j => sM w (en j)) n i j hi hj).symm⟩
  have lpc : ∀ i, i < n → ∀ x, x < sM w (en i) → (B (ofM w en i + pos (en i) (sM w (en i)) x) = true ↔ ¬ w.1 172 (200 * (en i / 2) + x) = 0) := fun i hi x hx => by
    have s := sp i hi
    rw [← eB i _ hi (pos_lt hx)]
    have q := s.2.2.2.1 x (by unfold sM at hx; omega)
    rw [← q]
    have le : lp v (en i / 2) (decide (en i % 2 = 0)) (pos (en i) (sM w (en i)) x) = cel v (en i / 2) (((v.1 21 (en i / 2)).toInt.toNat + x) % (w.1 169 (en i / 2)).toInt.toNat) := by
      unfold lp stC rmC
      rw [s.1]
      unfold pos sM
      unfold sM at hx
      by_cases t : en i % 2 = 0
      · rw [decide_eq_true t, if_pos rfl, if_pos t]
      · rw [decide_eq_false t, if_neg (by decide), if_neg t, show (w.1 169 (en i / 2)).toInt.toNat - 1 - ((w.1 169 (en i / 2)).toInt.toNat - 1 - x) = x by omega]
    rw [le]
  have c172 : ∀ i, i < n → ∀ x, x < sM w (en i) → w.1 172 (200 * (en i / 2) + x) = bv ca (B (ofM w en i + pos (en i) (sM w (en i)) x)) := fun i hi x hx => by
    have q := lpc i hi x hx
    have hx' : (x : Int) < (w.1 169 (en i / 2)).toInt := by unfold sM at hx; omega
    cases y : B (ofM w en i + pos (en i) (sM w (en i)) x) with
    | false =>
      have z : w.1 172 (200 * (en i / 2) + x) = 0 := by
        apply Classical.byContradiction
        intro nz'
        rw [y] at q
        exact absurd (q.mpr nz') (by decide)
      rw [z]
      exact (if_neg (by decide)).symm
    | true =>
      have nz' := q.mp y
      show _ = bv ca true
      have e : bv ca true = ca := if_pos rfl
      rw [e]
      rcases sl.2 (en i / 2) (p24 i hi).2 with ⟨_, b⟩ | ⟨a', b, _⟩
      · exact absurd (b x hx') nz'
      · rcases b x hx' with b1 | b1
        · exact absurd b1 nz'
        · rw [b1]
          rcases k17 i hi with t | t
          · exact absurd t a'
          · exact t
  have ln : LnM w n en ca B := fun i hi j hj => by
    have q := c172 i hi (pos (en i) (sM w (en i)) j) (pos_lt hj)
    rw [pos_p hj] at q
    exact q
  have Wm : WmS w k n en fr to ca := ⟨⟨l185, l.2, by omega⟩, fun i hi => ⟨by
    have q := (e186 i hi).1
    apply ti_inj
    rw [nI_toInt (by have := e48 i hi; omega)]
    omega, e48 i hi, (sp i hi).2.1⟩, ⟨efr, eto, A5.1, A6.1, ft⟩, eca, A3, T, ij⟩
  have W : WcS v k n (fun i => en i / 2) (fun i => decide (en i % 2 = 0)) fr to ca := by
    have b32 : v.1 32 k = nI (ent (mx v w) k 0 / 2) := Bk.2.1
    have b33 : v.1 33 k = nI (ent (mx v w) k (n - 1) / 2) := Bk.2.2
    rw [een] at b32 b33
    refine ⟨⟨by rw [A1.2.2.2.2]; exact l185, l.2, b32, b33⟩, fun i hi => ⟨(p24 i hi).1, ?_, ?_⟩, ij, by rw [tc]; exact T, ⟨by rw [A1.1]; exact efr, by rw [A1.2.1]; exact eto, by rw [tc]; exact A5.1, by rw [tc]; exact A6.1, ft⟩, by rw [A1.2.2.2.1]; exact eca, A3⟩
    · have q : v.1 35 (ent (mx v w) k i / 2) = (if i + 1 < n then nI (ent (mx v w) k (i + 1) / 2) else -1) := (Bk.1 i hi).2.2
      rw [een, een] at q
      exact q
    · have q : v.1 34 (ent (mx v w) k i / 2) = nI (xo (ent (mx v w) k i)) := (Bk.1 i hi).2.1
      rw [een] at q
      show ((v.1 34 (en i / 2)) &&& (1 : Int32)).toInt = 1 ↔ decide (en i % 2 = 0) = true
      rw [q]
      exact of_decide_eq_true (odd_x (en i) (e48 i hi))
  have eo : ∀ i, i ≤ n → of' v (fun i => en i / 2) i = ofM w en i := fun i hi => ofs_c i (fun j hj => rs j (by omega))
  have exs : ∀ i, xs v (fun i => en i / 2) i = (tM w).toNat + en i / 2 := fun i => by
    unfold xs
    rw [tc]
  have nc : ∀ x l : Nat, (x : Int) < tM w + pM w → 1 ≤ l → l ≤ 5 → ¬ (v.1 17 x).toInt = 0 → v.1 23 (6 * x + l) = -1 := hr.2.2.1.2.2.2.2
  have stf := hr.2.2.1.2.2.1 fr A5.1 A5.2
  have stt := hr.2.2.1.2.2.1 to A6.1 A6.2
  have stf1 : v.1 18 fr = w.1 165 fr := stf.1
  have stt1 : v.1 18 to = w.1 165 to := stt.1
  have stf3 : 0 ≤ (w.1 165 fr).toInt := stf.2.2.1
  have stt3 : 0 ≤ (w.1 165 to).toInt := stt.2.2.1
  have stt4 : (w.1 165 to).toInt ≤ (w.1 164 to).toInt := stt.2.2.2.1
  have stf5 : 0 < (w.1 165 fr).toInt → 1 ≤ (w.1 166 fr).toInt ∧ (w.1 166 fr).toInt ≤ 14 := stf.2.2.2.2
  have stt5 : 0 < (w.1 165 to).toInt → 1 ≤ (w.1 166 to).toInt ∧ (w.1 166 to).toInt ≤ 14 := stt.2.2.2.2
  have stf4 : (w.1 165 fr).toInt ≤ (w.1 164 fr).toInt := stf.2.2.2.1
  have uf : (w.1 165 fr).toInt ≤ 1000000 := by have := bd_164 hw fr; omega
  have ut : (w.1 165 to).toInt ≤ 1000000 := by have := bd_164 hw to; omega
  have slf : v.1 17 fr = (if 0 < (w.1 165 fr).toInt then w.1 166 fr else 0) := (sl.1 fr A5.1).1 A5.2
  have slt : v.1 17 to = (if 0 < (w.1 165 to).toInt then w.1 166 to else 0) := (sl.1 to A6.1).1 A6.2
  have noz : ∀ x : Nat, x = fr ∨ x = to → ¬ (v.1 17 x).toInt = 0 → 1 ≤ (v.1 18 x).toInt := fun x hx q => by
    rcases hx with hx | hx
    · rw [hx] at q ⊢
      rw [slf] at q
      rw [stf1]
      by_cases c0 : 0 < (w.1 165 fr).toInt
      · omega
      · rw [if_neg c0] at q
        exact absurd i_0 q
    · rw [hx] at q ⊢
      rw [slt] at q
      rw [stt1]
      by_cases c0 : 0 < (w.1 165 to).toInt
      · omega
      · rw [if_neg c0] at q
        exact absurd i_0 q
  have b18 : ∀ x : Nat, x = fr ∨ x = to → 0 ≤ (v.1 18 x).toInt ∧ (v.1 18 x).toInt ≤ 1000000 := fun x hx => by
    rcases hx with hx | hx
    · rw [hx, stf1]
      exact ⟨stf3, uf⟩
    · rw [hx, stt1]
      exact ⟨stt3, ut⟩
  have sz : StZ v fr to := ⟨fun q i i1 i2 => nc fr i (by omega) i1 i2 q, fun q i i1 i2 => nc to i (by omega) i1 i2 q, fun x hx => ⟨(b18 x hx).1, (b18 x hx).2, noz x hx⟩, fun x => bd_19 hv x⟩
  have C0 : CMv v v n (fun i => en i / 2) (fun i => decide (en i % 2 = 0)) fr to ca (fun i => xLs v ca ((tM w).toNat + en i / 2)) B 0 := by
    refine ⟨mv_r _ _ _, fun i hi => ?_, ⟨by omega, fun _ => ⟨rfl, rfl⟩, fun q => by omega, fun _ _ _ => rfl⟩, ⟨?_, (if_neg (Nat.lt_irrefl 0)).symm, rfl, fun _ _ _ => (if_neg (Nat.lt_irrefl 0)).symm⟩⟩
    · have s := sp i hi
      have wt : ¬ wet B 0 (of' v (fun i => en i / 2) i) := fun q => by
        obtain ⟨j, j1, j2, _⟩ := q
        omega
      have b0 : ∀ x, Bm B 0 x = B x := fun x => by
        unfold Bm
        rw [if_neg (Nat.not_lt_zero x), Nat.sub_zero]
      rw [exs, eo i (by omega)] at *
      have cnt : (v.1 18 ((tM w).toNat + en i / 2)).toInt = ctb (fun j => Bm B 0 (ofM w en i + j)) (rmC v (en i / 2)) := by
        have q1 : ctb (fun x => decide (¬ w.1 172 (200 * (en i / 2) + x) = 0)) (w.1 169 (en i / 2)).toInt.toNat = ctb (fun j => Bm B 0 (ofM w en i + j)) (sM w (en i)) := by
          rw [← ctb_pos (fun j => Bm B 0 (ofM w en i + j)) (en i) (sM w (en i))]
          refine ctb_same _ (fun x hx => ?_)
          have q2 := lpc i hi x hx
          rw [b0]
          cases y : B (ofM w en i + pos (en i) (sM w (en i)) x) with
          | true => exact decide_eq_true (q2.mp y)
          | false =>
            refine decide_eq_false (fun z => ?_)
            rw [y] at q2
            exact absurd (q2.mpr z) (by decide)
        rw [s.2.2.2.2, q1, rs i hi]
      have z17 : v.1 17 ((tM w).toNat + en i / 2) = (if 0 < ctb (fun j => Bm B 0 (ofM w en i + j)) (rmC v (en i / 2)) then ca else 0) := by
        rw [rs i hi]
        have ctz : ctb (fun j => Bm B 0 (ofM w en i + j)) (sM w (en i)) = ctb (fun x => decide (¬ w.1 172 (200 * (en i / 2) + x) = 0)) (sM w (en i)) := by
          rw [rs i hi, s.2.2.2.2] at cnt
          have q : (sM w (en i)) = (w.1 169 (en i / 2)).toInt.toNat := rfl
          rw [q] at cnt ⊢
          omega
        rw [ctz]
        rcases sl.2 (en i / 2) (p24 i hi).2 with ⟨a', b⟩ | ⟨a', b, x, hx, d⟩
        · have z0 : ctb (fun x => decide (¬ w.1 172 (200 * (en i / 2) + x) = 0)) (sM w (en i)) = 0 := by
            have q : ctb (fun x => decide (¬ w.1 172 (200 * (en i / 2) + x) = 0)) (sM w (en i)) ≤ ctb (fun _ => false) (sM w (en i)) := ctb_mono _ (fun x hx y => absurd (b x (by unfold sM at hx; omega)) (of_decide_eq_true y))
            have z1 : ∀ n, ctb (fun _ => false) n = 0 := fun n => by
              induction n with
              | zero => rfl
              | succ n ih =>
                rw [ctb_s, ih]
                rfl
            rw [z1] at q
            omega
          rw [z0, if_neg (Nat.lt_irrefl 0)]
          exact a'
        · have z1 := ctb_lt (f := fun _ => false) (g := fun x => decide (¬ w.1 172 (200 * (en i / 2) + x) = 0)) (k := x) rfl (decide_eq_true (by rw [d]; exact a')) (sM w (en i)) (by unfold sM; omega) (fun y _ t => by cases t)
          rw [if_pos (by omega)]
          rcases k17 i hi with t | t
          · exact absurd t a'
          · exact t
      refine ⟨⟨by rw [s.1]; exact s.2.1, s.2.2.1.1, by rw [s.1]; exact s.2.2.1.2⟩, rfl, fun j hj => ?_, cnt, z17, fun q l l1 l2 => nc _ l (by have := (p24 i hi).2; omega) l1 l2 q, fun q => ⟨fun y => absurd y wt, fun _ => ?_⟩, fun q _ => ?_, fun l l1 l2 => ⟨fun y => absurd y wt, fun _ => rfl⟩⟩
      · rw [rs i hi] at hj
        rw [b0]
        exact eB i j hi hj
      · show v.1 19 ((tM w).toNat + en i / 2) = xLs v ca ((tM w).toNat + en i / 2)
        unfold xLs
        rw [if_pos q]
      · show xLs v ca ((tM w).toNat + en i / 2) = ca
        unfold xLs
        rw [if_neg q]
    · show (v.1 18 to).toInt = (v.1 18 to).toInt + ((cOut B (of' v (fun i => en i / 2) n) 0 : Nat) : Int)
      have q : cOut B (of' v (fun i => en i / 2) n) 0 = 0 := rfl
      omega
  have e29 : v.1 29 k = w.1 184 k := A1.2.2.1
  refine mv_12 (B := B) (X := fun i => xLs v ca ((tM w).toNat + en i / 2)) ek W sz (by rw [e29]; omega) (fun v' M mn C g => kE v' (fun R R' hR kR => ?_) g) _ _ 0 _ h i_0 (by rw [e29]; omega) (fun m' hm' => absurd hm' (Nat.not_lt_zero m')) C0
  have b165 : ∀ t : Nat, t = fr ∨ t = to → 0 ≤ (w.1 165 t).toInt ∧ (w.1 165 t).toInt ≤ 1000000 ∧ (0 < (w.1 165 t).toInt → ¬ (w.1 166 t).toInt = 0) := fun t ht => by
    rcases ht with ht | ht
    · rw [ht]
      exact ⟨stf3, uf, fun q => by have := stf5 q; omega⟩
    · rw [ht]
      exact ⟨stt3, ut, fun q => by have := stt5 q; omega⟩
  have s200 : ∀ p : Nat, (p : Int) < pM w → (w.1 169 p).toInt ≤ 200 := fun p hp => (hr.2.2.1.2.2.2.1 p hp).2.1.2
  have H : FlH v w k fr to ca := ⟨⟨sl, hr.2.2.1.2.1, hr.2.1.2.2.2⟩, ⟨T, P⟩, ⟨A5.1, A6.1, ft, A5.2, A6.2⟩, ⟨eca, A3.1, A3.2⟩, b165, s200, fun x => (bd_17 hv x).1, fun x => bd_19 hv x, by omega⟩
  refine flw_x (B := B) hR ka Wm ln H (by omega) (fun M' w' mm fm g2 => ?_)
  rw [eo n (Nat.le_refl _), e29] at mn
  have dz := dec_e (L := ofM w en n) (B := B) slf stf1 stt1 (show v.1 10 to = w.1 164 to from stt.2.1) ca0
  have mn' : MvM v w (ofM w en n) fr to ca B (w.1 184 k).toInt M := ⟨fun m hm => (dz m).mp (mn.1 m hm), mn.2.1, mn.2.2.elim Or.inl (fun q => Or.inr (fun y => q ((dz M).mpr y)))⟩
  have mmz : MvN v (ofM w en n) fr to ca B (w.1 184 k).toInt M' := ⟨fun m hm => (dz m).mpr (mm.1 m hm), mm.2.1, mm.2.2.elim Or.inl (fun q => Or.inr (fun y => q ((dz M').mp y)))⟩
  have eM : M' = M := mvn_u mmz mn
  rw [eM] at fm
  obtain ⟨c1, c2, c3, c4⟩ := C
  rw [eo n (Nat.le_refl _)] at c4
  have sets : (SpW v n (fun i => en i / 2) fr to) = (fun x => x = fr ∨ x = to ∨ ∃ i, i < n ∧ x = (tM w).toNat + en i / 2) := by
    funext x
    unfold SpW
    apply propext
    constructor
    · intro q
      rcases q with q | q | ⟨i, hi, q⟩
      · exact Or.inl q
      · exact Or.inr (Or.inl q)
      · exact Or.inr (Or.inr ⟨i, hi, by rw [← exs]; exact q⟩)
    · intro q
      rcases q with q | q | ⟨i, hi, q⟩
      · exact Or.inl q
      · exact Or.inr (Or.inl q)
      · exact Or.inr (Or.inr ⟨i, hi, by rw [exs]; exact q⟩)
  rw [sets] at c1
  have c2' : ∀ i, i < n → CPi v v' ((tM w).toNat + en i / 2) (en i / 2) (ofM w en i) (decide (en i % 2 = 0)) ca (xLs v ca ((tM w).toNat + en i / 2)) B M := fun i hi => by
    have q := c2 i hi
    rw [exs, eo i (by omega)] at q
    exact q
  have F : FwF v w v' w' n en fr to ca B M (cOut B (ofM w en n) M) := ⟨⟨A5.1, A6.1, ft, A5.2, A6.2⟩, A3, p24, ij, c1, c2', ⟨c3, c4⟩, fm, co_le mn'.1 stt4, rs⟩
  refine kR w' (fw_hr (k := k) T.1 P.1 hr F k17 kn (fun i hi => ⟨by rw [en_] at hi; exact hi, een i⟩) (fun i hi => by rw [en_]; exact hi) eca (fun x l hx l1 l2 q => ?_)) ?_ g2
  · by_cases d1 : x = fr
    · rw [d1] at q ⊢
      exact fr_no sz.1 c3 q l l1 l2
    · by_cases d2 : x = to
      · rw [d2] at q ⊢
        exact to_no sz.2.1 c4 q l l1 l2
      · by_cases d3 : ∃ i, i < n ∧ x = (tM w).toNat + en i / 2
        · obtain ⟨i, hi, e⟩ := d3
          rw [e] at q ⊢
          exact (c2' i hi).2.2.2.2.2.1 q l l1 l2
        · have o := fw_o F d1 d2 (fun i hi e => d3 ⟨i, hi, e⟩)
          rw [o.1.1] at q
          rw [o.1.2.2.2 l l1 l2]
          exact nc x l hx l1 l2 q
  · exact fm.1 127 26 (by decide) (by decide) (by decide) (by decide) (by decide) (by decide)
