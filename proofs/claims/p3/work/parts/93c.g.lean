/-! the value of a condition: the postfix list run over a stack; the reference's value tells it -/
def stp (s : Int → Bool) (c : Int) (st : List Bool) : List Bool := if c = 16 then (match st with | x :: r => (!x) :: r | [] => []) else if c = 17 then (match st with | y :: x :: r => (x && y) :: r | r => r) else if c = 18 then (match st with | y :: x :: r => (x || y) :: r | r => r) else s c :: st
def rnS (s : Int → Bool) : List Int → List Bool → List Bool
  | [], st => st
  | c :: l, st => rnS s l (stp s c st)
theorem rnS_a (s : Int → Bool) : ∀ (l1 l2 : List Int) (st : List Bool), rnS s (l1 ++ l2) st = rnS s l2 (rnS s l1 st) := by
  intro l1
  induction l1 with
  | nil => exact fun _ _ => rfl
  | cons c l ih => exact fun l2 st => ih l2 (stp s c st)
theorem rn_16 {s : Int → Bool} {l : List Int} {b : Bool} (h : ∀ st, rnS s l st = b :: st) (st : List Bool) : rnS s (l ++ [16]) st = (!b) :: st := by
  rw [rnS_a, h]
  rfl
theorem rn_17 {s : Int → Bool} {l1 l2 : List Int} {a b : Bool} (h : ∀ st, rnS s l1 st = a :: st) (h2 : ∀ st, rnS s l2 st = b :: st) (st : List Bool) : rnS s (l1 ++ l2 ++ [17]) st = (a && b) :: st := by
  rw [rnS_a, rnS_a, h, h2]
  rfl
theorem rn_18 {s : Int → Bool} {l1 l2 : List Int} {a b : Bool} (h : ∀ st, rnS s l1 st = a :: st) (h2 : ∀ st, rnS s l2 st = b :: st) (st : List Bool) : rnS s (l1 ++ l2 ++ [18]) st = (a || b) :: st := by
  rw [rnS_a, rnS_a, h, h2]
  rfl
theorem rn_c {s : Int → Bool} {c : Int} (h : c ≤ 15) (st : List Bool) : rnS s [c] st = s c :: st := by
  show stp s c st = s c :: st
  unfold stp
  rw [if_neg (by omega), if_neg (by omega), if_neg (by omega)]
theorem tr_v {w : MW} {lo : Int} (s : Int → Bool) : ∀ (k : Nat) (x : Int) (l : List Int), TRe w lo k x l → ∃ b, ∀ st, rnS s l st = b :: st := by
  intro k
  induction k with
  | zero => exact fun x l h => False.elim h
  | succ k ih =>
    intro x l h
    rw [TRe_u] at h
    rcases h.2 with ⟨_, b, el⟩ | ⟨_, _, l1, h1, el⟩ | ⟨a, _, _, l1, l2, h1, h2, el⟩
    · rw [el]
      exact ⟨_, rn_c b⟩
    · obtain ⟨b, hb⟩ := ih _ _ h1
      rw [el]
      exact ⟨_, rn_16 hb⟩
    · obtain ⟨b, hb⟩ := ih _ _ h1
      obtain ⟨c, hc⟩ := ih _ _ h2
      rw [el]
      rcases a with a | a
      · rw [a]
        exact ⟨_, rn_17 hb hc⟩
      · rw [a]
        exact ⟨_, rn_18 hb hc⟩
/-- condition c of the state x -/
def sbt (x : Int32) (c : Int) : Bool := decide (((x >>> ((nI c.toNat) &&& 31)) &&& (1 : Int32)).toInt = 1)
theorem vl_x {w : MW} {lo : Int} (m : Nat) : ∀ (k : Nat) (x : Int32) (l : List Int) (Q Q' : Int32 → MW → Prop), TRe w lo k x.toInt l → pn_Mr_value m w x Q → (∀ (b : Bool) (r : Int32), (∀ st, rnS (sbt (w.1 147 24)) l st = b :: st) → r.toInt = (if b = true then 1 else 0) → Q r w → Q' r w) → pn_Mr_value m w x Q' := by
  induction m with
  | zero => exact fun k x l Q Q' _ h _ => False.elim h
  | succ m ih =>
    intro k x l Q Q' ht h hQ
    cases k with
    | zero => exact False.elim ht
    | succ k =>
      rw [TRe_u] at ht
      rw [pe_Mr_value] at h ⊢
      have h := Eq.mp (pb_Mr_value.eq_1 _ _ _ _) h
      refine Eq.mpr (pb_Mr_value.eq_1 _ _ _ _) ⟨h.1, ?_⟩
      rcases ht.2 with ⟨v0, v15, el⟩ | ⟨v16, _, l1, h1, el⟩ | ⟨v, _, _, l1, l2, h1, h2, el⟩
      · rw [el] at hQ
        refine ⟨fun z => by omega, fun z16 => ⟨fun z => by omega, fun z17 => ⟨fun z => by omega, fun z18 => ⟨h.1, fun z => hQ false 0 ?_ i_0 ((((h.2.2 z16).2 z17).2 z18).2.1 z), fun z => hQ true 1 ?_ i_1 ((((h.2.2 z16).2 z17).2 z18).2.2 z)⟩⟩⟩⟩
        · intro st
          rw [rn_c v15]
          unfold sbt
          rw [nI_tn v0, decide_eq_false z]
        · intro st
          rw [rn_c v15]
          unfold sbt
          rw [nI_tn v0, decide_eq_true (Classical.not_not.mp z)]
      · rw [el] at hQ
        refine ⟨fun z => ⟨h.1, ih k _ l1 _ _ h1 (h.2.1 z).2 (fun b r e er hq => ?_)⟩, fun z => absurd v16 z⟩
        cases b with
        | true => exact ⟨fun y => hQ false 0 (rn_16 e) i_0 (hq.1 y), fun y => absurd (show ¬ r.toInt = 0 by rw [er]; decide) y⟩
        | false => exact ⟨fun y => absurd (show r.toInt = 0 from er) y, fun y => hQ true 1 (rn_16 e) i_1 (hq.2 y)⟩
      · rw [el] at hQ
        obtain ⟨c, hc⟩ := tr_v (sbt (w.1 147 24)) _ _ _ h2
        rcases v with v | v
        · rw [v] at hQ
          refine ⟨fun z => by omega, fun z16 => ⟨fun z => ⟨h.1, ih k _ l1 _ _ h1 ((h.2.2 z16).1 z).2 (fun b r e er hq => ?_)⟩, fun z => absurd v z⟩⟩
          cases b with
          | false => exact ⟨fun y => hQ false 0 (fun st => by rw [rn_17 e hc]; rfl) i_0 (hq.1 y), fun y => absurd (show r.toInt = 0 from er) y⟩
          | true =>
            refine ⟨fun y => absurd y (by rw [er]; decide), fun y => ⟨h.1, ih k _ l2 _ _ h2 (hq.2 y).2 (fun b2 r2 e2 er2 hq2 => ?_)⟩⟩
            cases b2 with
            | false => exact ⟨fun y => hQ false 0 (fun st => by rw [rn_17 e e2]; rfl) i_0 (hq2.1 y), fun y => absurd (show r2.toInt = 0 from er2) y⟩
            | true => exact ⟨fun y => absurd y (by rw [er2]; decide), fun y => hQ true 1 (fun st => by rw [rn_17 e e2]; rfl) i_1 (hq2.2 y)⟩
        · rw [v] at hQ
          refine ⟨fun z => by omega, fun z16 => ⟨fun z => by omega, fun z17 => ⟨fun z => ⟨h.1, ih k _ l1 _ _ h1 (((h.2.2 z16).2 z17).1 z).2 (fun b r e er hq => ?_)⟩, fun z => absurd v z⟩⟩⟩
          cases b with
          | true => exact ⟨fun y => hQ true 1 (fun st => by rw [rn_18 e hc]; rfl) i_1 (hq.1 y), fun y => absurd (show ¬ r.toInt = 0 by rw [er]; decide) y⟩
          | false =>
            refine ⟨fun y => absurd (show r.toInt = 0 from er) y, fun y => ⟨h.1, ih k _ l2 _ _ h2 (hq.2 y).2 (fun b2 r2 e2 er2 hq2 => ?_)⟩⟩
            cases b2 with
            | false => exact ⟨fun y => hQ false 0 (fun st => by rw [rn_18 e e2]; rfl) i_0 (hq2.1 y), fun y => absurd (show r2.toInt = 0 from er2) y⟩
            | true => exact ⟨fun y => absurd y (by rw [er2]; decide), fun y => hQ true 1 (fun st => by rw [rn_18 e e2]; rfl) i_1 (hq2.2 y)⟩
/-! how high the stack of a condition's list grows -/
/-- run from height h, the list ends at height h', and is never above M -/
def hgo (M : Nat) : List Int → Nat → Nat → Prop
  | [], h, h' => h = h'
  | c :: l, h, h' => ∃ h1, (if c ≤ 15 then h1 = h + 1 else if c = 16 then 1 ≤ h ∧ h1 = h else 2 ≤ h ∧ h1 + 1 = h) ∧ h1 ≤ M ∧ hgo M l h1 h'
theorem hg_a {M : Nat} : ∀ (l1 l2 : List Int) (h h1 h2 : Nat), hgo M l1 h h1 → hgo M l2 h1 h2 → hgo M (l1 ++ l2) h h2 := by
  intro l1
  induction l1 with
  | nil =>
    intro l2 h h1 h2 a b
    have e : h = h1 := a
    rw [e]
    exact b
  | cons c l ih =>
    intro l2 h h1 h2 a b
    obtain ⟨u, x, y, z⟩ := a
    exact ⟨u, x, y, ih l2 u h1 h2 z b⟩
theorem hg_M {M M' : Nat} (hm : M ≤ M') : ∀ (l : List Int) (h h1 : Nat), hgo M l h h1 → hgo M' l h h1 := by
  intro l
  induction l with
  | nil => exact fun h h1 a => a
  | cons c l ih =>
    intro h h1 a
    obtain ⟨u, x, y, z⟩ := a
    exact ⟨u, x, Nat.le_trans y hm, ih u h1 z⟩
theorem hg_c {M h : Nat} {c : Int} (hc : c ≤ 15) (hm : h + 1 ≤ M) : hgo M [c] h (h + 1) := ⟨h + 1, by rw [if_pos hc], hm, rfl⟩
theorem hg_16 {M h : Nat} (h1 : 1 ≤ h) (hm : h ≤ M) : hgo M [16] h h := ⟨h, by rw [if_neg (by decide), if_pos rfl]; exact ⟨h1, rfl⟩, hm, rfl⟩
theorem hg_17 {M h : Nat} (h1 : 1 ≤ h) (hm : h ≤ M) : hgo M [17] (h + 1) h := ⟨h, by rw [if_neg (by decide), if_neg (by decide)]; omega, hm, rfl⟩
theorem hg_18 {M h : Nat} (h1 : 1 ≤ h) (hm : h ≤ M) : hgo M [18] (h + 1) h := ⟨h, by rw [if_neg (by decide), if_neg (by decide)]; omega, hm, rfl⟩
def HX (md o : Nat) (l : List Int) : Prop := (md = 0 → ∀ h, hgo (h + 1 + 2 * (20 - o)) l h (h + 1)) ∧ (md = 1 → ∀ h, hgo (h + 2 + 2 * (20 - o)) l h (h + 1)) ∧ (md = 2 → ∀ h, hgo (h + 3 + 2 * (20 - o)) l h (h + 1)) ∧ (md = 3 → ∀ h, 1 ≤ h → hgo (h + 1 + 2 * (20 - o)) l h h) ∧ (4 ≤ md → ∀ h, 1 ≤ h → hgo (h + 2 + 2 * (20 - o)) l h h)
theorem hx_0 {o : Nat} {l : List Int} (a : ∀ h, hgo (h + 1 + 2 * (20 - o)) l h (h + 1)) : HX 0 o l := ⟨fun _ => a, fun z => by omega, fun z => by omega, fun z => by omega, fun z => by omega⟩
theorem hx_1 {o : Nat} {l : List Int} (a : ∀ h, hgo (h + 2 + 2 * (20 - o)) l h (h + 1)) : HX 1 o l := ⟨fun z => by omega, fun _ => a, fun z => by omega, fun z => by omega, fun z => by omega⟩
theorem hx_2 {o : Nat} {l : List Int} (a : ∀ h, hgo (h + 3 + 2 * (20 - o)) l h (h + 1)) : HX 2 o l := ⟨fun z => by omega, fun z => by omega, fun _ => a, fun z => by omega, fun z => by omega⟩
theorem hx_3 {o : Nat} {l : List Int} (a : ∀ h, 1 ≤ h → hgo (h + 1 + 2 * (20 - o)) l h h) : HX 3 o l := ⟨fun z => by omega, fun z => by omega, fun z => by omega, fun _ => a, fun z => by omega⟩
theorem hx_4 {m o : Nat} {l : List Int} (a : ∀ h, 1 ≤ h → hgo (h + 2 + 2 * (20 - o)) l h h) : HX (m + 4) o l := ⟨fun z => by omega, fun z => by omega, fun z => by omega, fun z => by omega, fun _ => a⟩
theorem ff {i : Nat} {P : Prop} (h : (rsF i).1 = true) : P := absurd (show false = true from h) (by decide)
theorem sp_h {f : Int → Int} {n : Int} : ∀ (k md o : Nat) (c : List Int) (t i : Nat) (r : Bool × List Int × Nat × Nat), SP f n k md o c t i r → r.1 = true → o ≤ 20 → ∃ l, r.2.1 = c ++ l ∧ HX md o l := by
  intro k
  induction k with
  | zero => intro md o c t i r h; exact False.elim h
  | succ k ih =>
    intro md o c t i r h hr o2
    match md, h with
    | 0, h =>
      rw [SP0] at h
      by_cases q : wq f n i (ltr 8 3) = true
      · rw [if_pos q] at h
        by_cases q2 : o = 20
        · rw [if_pos q2] at h
          rw [h] at hr
          exact ff hr
        · rw [if_neg q2] at h
          obtain ⟨r1, h1, e⟩ := h
          cases b1 : r1.1 with
          | false =>
            rw [if_neg (nt b1)] at e
            rw [e] at hr
            exact absurd (b1.symm.trans hr) (by decide)
          | true =>
            rw [if_pos b1] at e
            obtain ⟨l, el, X⟩ := ih _ _ _ _ _ _ h1 b1 (by omega)
            refine ⟨l ++ [16], by rw [e]; show r1.2.1 ++ [16] = _; rw [el, List.append_assoc], hx_0 (fun h => hg_a _ _ _ _ _ (hg_M (by omega) _ _ _ (X.1 rfl h)) (hg_16 (by omega) (by omega)))⟩
      · rw [if_neg q] at h
        by_cases q2 : wq f n i (ltr 9 1) = true
        · rw [if_pos q2] at h
          by_cases q3 : o = 20
          · rw [if_pos q3] at h
            rw [h] at hr
            exact ff hr
          · rw [if_neg q3] at h
            obtain ⟨r1, h1, e⟩ := h
            cases b1 : r1.1 with
            | false =>
              rw [if_neg (nt b1)] at e
              rw [e] at hr
              exact absurd (b1.symm.trans hr) (by decide)
            | true =>
              rw [if_pos b1] at e
              obtain ⟨l, el, X⟩ := ih _ _ _ _ _ _ h1 b1 (by omega)
              by_cases q4 : wq f n r1.2.2.2 (ltr 10 1) = true
              · rw [if_pos q4] at e
                exact ⟨l, by rw [e]; exact el, hx_0 (fun h => hg_M (by omega) _ _ _ (X.2.2.1 rfl h))⟩
              · rw [if_neg q4] at e
                rw [e] at hr
                exact ff hr
        · rw [if_neg q2] at h
          by_cases q3 : cnw f n i < 0 ∨ t = 32
          · rw [if_pos q3] at h
            rw [h] at hr
            exact ff hr
          · rw [if_neg q3] at h
            exact ⟨[cnw f n i], by rw [h], hx_0 (fun h => hg_c (cnw_b).1 (by omega))⟩
    | 1, h =>
      rw [SP1] at h
      obtain ⟨r1, h1, e⟩ := h
      cases b1 : r1.1 with
      | false =>
        rw [if_neg (nt b1)] at e
        rw [e] at hr
        exact absurd (b1.symm.trans hr) (by decide)
      | true =>
        rw [if_pos b1] at e
        obtain ⟨l, el, X⟩ := ih _ _ _ _ _ _ h1 b1 o2
        obtain ⟨l2, el2, X2⟩ := ih _ _ _ _ _ _ e hr o2
        exact ⟨l ++ l2, by rw [el2, el, List.append_assoc], hx_1 (fun h => hg_a _ _ _ _ _ (hg_M (by omega) _ _ _ (X.1 rfl h)) (hg_M (by omega) _ _ _ (X2.2.2.2.1 rfl (h + 1) (by omega))))⟩
    | 2, h =>
      rw [SP2] at h
      obtain ⟨r1, h1, e⟩ := h
      cases b1 : r1.1 with
      | false =>
        rw [if_neg (nt b1)] at e
        rw [e] at hr
        exact absurd (b1.symm.trans hr) (by decide)
      | true =>
        rw [if_pos b1] at e
        obtain ⟨l, el, X⟩ := ih _ _ _ _ _ _ h1 b1 o2
        obtain ⟨l2, el2, X2⟩ := ih _ _ _ _ _ _ e hr o2
        exact ⟨l ++ l2, by rw [el2, el, List.append_assoc], hx_2 (fun h => hg_a _ _ _ _ _ (hg_M (by omega) _ _ _ (X.2.1 rfl h)) (hg_M (by omega) _ _ _ (X2.2.2.2.2 (by omega) (h + 1) (by omega))))⟩
    | 3, h =>
      rw [SP3] at h
      by_cases q : wq f n i (ltr 11 3) = true
      · rw [if_pos q] at h
        obtain ⟨r1, h1, e⟩ := h
        cases b1 : r1.1 with
        | false =>
          rw [if_neg (nt b1)] at e
          rw [e] at hr
          exact absurd (b1.symm.trans hr) (by decide)
        | true =>
          rw [if_pos b1] at e
          obtain ⟨l, el, X⟩ := ih _ _ _ _ _ _ h1 b1 o2
          obtain ⟨l2, el2, X2⟩ := ih _ _ _ _ _ _ e hr o2
          exact ⟨l ++ ([17] ++ l2), by rw [el2, el, List.append_assoc, List.append_assoc], hx_3 (fun h hh => hg_a _ _ _ _ _ (X.1 rfl h) (hg_a _ _ _ _ _ (hg_17 hh (by omega)) (X2.2.2.2.1 rfl h hh)))⟩
      · rw [if_neg q] at h
        exact ⟨[], by rw [h, List.append_nil], hx_3 (fun h _ => rfl)⟩
    | m + 4, h =>
      rw [SP4] at h
      by_cases q : wq f n i (ltr 12 2) = true
      · rw [if_pos q] at h
        obtain ⟨r1, h1, e⟩ := h
        cases b1 : r1.1 with
        | false =>
          rw [if_neg (nt b1)] at e
          rw [e] at hr
          exact absurd (b1.symm.trans hr) (by decide)
        | true =>
          rw [if_pos b1] at e
          obtain ⟨l, el, X⟩ := ih _ _ _ _ _ _ h1 b1 o2
          obtain ⟨l2, el2, X2⟩ := ih _ _ _ _ _ _ e hr o2
          exact ⟨l ++ ([18] ++ l2), by rw [el2, el, List.append_assoc, List.append_assoc], hx_4 (fun h hh => hg_a _ _ _ _ _ (X.2.1 rfl h) (hg_a _ _ _ _ _ (hg_18 hh (by omega)) (X2.2.2.2.2 (by omega) h hh)))⟩
      · rw [if_neg q] at h
        exact ⟨[], by rw [h, List.append_nil], hx_4 (fun h _ => rfl)⟩
/-- a row's list is run within 43 -/
theorem sp_43 {f : Int → Int} {n : Int} {k i : Nat} {r : Bool × List Int × Nat × Nat} (h : SP f n k 2 0 [] 0 i r) (hr : r.1 = true) : hgo 43 r.2.1 0 1 := by
  obtain ⟨l, el, X⟩ := sp_h k 2 0 [] 0 i r h hr (by omega)
  rw [el]
  exact X.2.2.1 rfl 0
/-! a long as a stack of bits -/
def Bst (x : Int64) (st : List Bool) : Prop := ∀ j : Nat, x.toBitVec.getLsbD j = (st[j]?).getD false
theorem l_sh (x : Int64) : (x <<< ((1 : Int32).toInt64 &&& 63)).toBitVec = x.toBitVec <<< 1 := by
  rw [Int64.toBitVec_shiftLeft]
  rfl
theorem l_us (x : Int64) : ((x.toUInt64 >>> ((1 : Int32).toInt64.toUInt64 &&& Int64.toUInt64 63)).toInt64).toBitVec = x.toBitVec >>> 1 := rfl
theorem l_or (x y : Int64) : (x ||| y).toBitVec = x.toBitVec ||| y.toBitVec := rfl
theorem l_an (x y : Int64) : (x &&& y).toBitVec = x.toBitVec &&& y.toBitVec := rfl
theorem l_xo (x y : Int64) : (x ^^^ y).toBitVec = x.toBitVec ^^^ y.toBitVec := rfl
theorem l_1 (j : Nat) : (1 : Int64).toBitVec.getLsbD j = decide (j = 0) := by
  show (1#64).getLsbD j = _
  rw [BitVec.getLsbD_one]
  simp
theorem l_m2 (j : Nat) : ((-2) : Int64).toBitVec.getLsbD j = (decide (j < 64) && !(decide (j = 0))) := by
  have e : ((-2) : Int64).toBitVec = ~~~ (1 : Int64).toBitVec := by decide
  rw [e, BitVec.getLsbD_not, l_1]
theorem b_push {x : Int64} {st : List Bool} {b : Int32} {v : Bool} (h : Bst x st) (hl : st.length ≤ 63) (hb : b.toInt = (if v = true then 1 else 0)) : Bst ((x <<< ((1 : Int32).toInt64 &&& 63)) ||| (Int32.toInt64 b)) (v :: st) := by
  have eb : ∀ j, (Int32.toInt64 b).toBitVec.getLsbD j = (v && decide (j = 0)) := fun j => by
    cases v with
    | true =>
      have e : b = 1 := ti_inj (by rw [hb]; rfl)
      rw [e]
      show (1 : Int64).toBitVec.getLsbD j = _
      rw [l_1, Bool.true_and]
    | false =>
      have e : b = 0 := ti_inj (by rw [hb]; rfl)
      rw [e]
      show (0#64).getLsbD j = _
      rw [BitVec.getLsbD_zero, Bool.false_and]
  intro j
  rw [l_or, BitVec.getLsbD_or, l_sh, BitVec.getLsbD_shiftLeft, eb]
  cases j with
  | zero => simp
  | succ j =>
    have hj := h j
    simp only [Nat.add_sub_cancel]
    rw [hj]
    by_cases q : j + 1 < 64
    · simp [q]
    · rw [List.getElem?_eq_none (show st.length ≤ j by omega)]
      simp
      exact (List.getElem?_eq_none (show st.length ≤ j by omega)) ▸ rfl
theorem b_not {x : Int64} {st : List Bool} {a : Bool} (h : Bst x (a :: st)) : Bst (x ^^^ (1 : Int64)) ((!a) :: st) := by
  intro j
  rw [l_xo, BitVec.getLsbD_xor, l_1, h j]
  cases j with
  | zero => cases a <;> rfl
  | succ j => simp
theorem b_and {x : Int64} {st : List Bool} {y a : Bool} (h : Bst x (y :: a :: st)) : Bst (((x.toUInt64 >>> ((1 : Int32).toInt64.toUInt64 &&& Int64.toUInt64 63)).toInt64) &&& (((-2) : Int64) ||| (x &&& (1 : Int64)))) ((a && y) :: st) := by
  intro j
  rw [l_an, BitVec.getLsbD_and, l_us, BitVec.getLsbD_ushiftRight, l_or, BitVec.getLsbD_or, l_an, BitVec.getLsbD_and, l_1, l_m2]
  cases j with
  | zero =>
    rw [h 1, h 0]
    cases a <;> cases y <;> rfl
  | succ j =>
    have e := h (1 + (j + 1))
    have e2 : (y :: a :: st)[1 + (j + 1)]? = st[j]? := by
      rw [show 1 + (j + 1) = j + 2 by omega]
      rfl
    rw [e2] at e
    show (_ && _) = (st[j]?).getD false
    by_cases q : j + 1 < 64
    · rw [e]
      simp [q]
    · have e0 : x.toBitVec.getLsbD (1 + (j + 1)) = false := BitVec.getLsbD_of_ge _ _ (by omega)
      rw [← e, e0, Bool.false_and]
theorem b_or {x : Int64} {st : List Bool} {y a : Bool} (h : Bst x (y :: a :: st)) : Bst (((x.toUInt64 >>> ((1 : Int32).toInt64.toUInt64 &&& Int64.toUInt64 63)).toInt64) ||| (x &&& (1 : Int64))) ((a || y) :: st) := by
  intro j
  rw [l_or, BitVec.getLsbD_or, l_us, BitVec.getLsbD_ushiftRight, l_an, BitVec.getLsbD_and, l_1]
  cases j with
  | zero =>
    rw [h 1, h 0]
    cases a <;> cases y <;> rfl
  | succ j =>
    have e := h (1 + (j + 1))
    have e2 : (y :: a :: st)[1 + (j + 1)]? = st[j]? := by
      rw [show 1 + (j + 1) = j + 2 by omega]
      rfl
    rw [e2] at e
    rw [e]
    show (_ || _) = (st[j]?).getD false
    simp
/-! the class's isOn tells the value of a condition -/
theorem io_10 {w : MW} {RI : Int32} {r M e1 : Nat} {E : Int64 → MW → Prop} {Q : Int32 → MW → Prop} (hr : RI.toInt = (r : Int)) (r4 : r < 40) (M6 : M ≤ 43) (e4 : e1 ≤ 1400) (he : (w.1 55 (r + 1)).toInt = (e1 : Int)) (a1 : ∀ y : Int32, (y &&& (1 : Int32)).toInt = 0 ∨ (y &&& (1 : Int32)).toInt = 1) : ∀ (l : List Int) (p : Nat) (x : Int64) (st : List Bool) (h' m : Nat), Bst x st → hgo M l st.length h' → st.length ≤ M → p + l.length = e1 → (∀ (j : Nat) (y : Int), l[j]? = some y → (w.1 56 (p + j)).toInt = y) → (∀ y ∈ l, 0 ≤ y ∧ y ≤ 18) → l.length < m → (∀ x', Bst x' (rnS (sbt (w.1 48 1)) l st) → E x' w) → q_Ro_isOn_10 RI E Q m x (nI p) w := by
  have s1 := ti_add2 hr i_1 (by omega) (by omega)
  have en : (RI + (1 : Int32)).toInt.toNat = r + 1 := by rw [s1]; omega
  have bR : 0 ≤ (RI + (1 : Int32)).toInt ∧ (RI + (1 : Int32)).toInt < 41 := by rw [s1]; omega
  intro l
  induction l with
  | nil =>
    intro p x st h' m hB hg hM hp hc hy hm hE
    have hp' : p = e1 := hp
    cases m with
    | zero => exact absurd hm (Nat.not_lt_zero _)
    | succ m =>
      have tp : (nI p).toInt = (p : Int) := nI_toInt (by omega)
      rw [q_Ro_isOn_10.eq_2, en, he, tp]
      exact ⟨bR, fun _ => hE x hB, fun z => by omega⟩
  | cons c l ih =>
    intro p x st h' m hB hg hM hp hc hy hm hE
    have hp' : p + (l.length + 1) = e1 := hp
    cases m with
    | zero => exact absurd hm (Nat.not_lt_zero _)
    | succ m =>
      have hm' : l.length < m := Nat.lt_of_succ_lt_succ hm
      have tp : (nI p).toInt = (p : Int) := nI_toInt (by omega)
      have tn : (nI p).toInt.toNat = p := by omega
      have bp : 0 ≤ (nI p).toInt ∧ (nI p).toInt < 1400 := by omega
      have ec : (w.1 56 p).toInt = c := hc 0 c rfl
      have cy := hy c List.mem_cons_self
      obtain ⟨h1, k1, k2, k3⟩ := hg
      have next : ∀ (x' : Int64) (st' : List Bool), Bst x' st' → st'.length = h1 → stp (sbt (w.1 48 1)) c st = st' → q_Ro_isOn_10 RI E Q m x' (nI p + (1 : Int32)) w := fun x' st' b' e' es => by
        rw [nI_1]
        refine ih (p + 1) x' st' h' m b' (by rw [e']; exact k3) (by omega) (by omega) (fun j y hj => ?_) (fun y hy' => hy y (List.mem_cons_of_mem _ hy')) hm' (fun x2 b2 => hE x2 ?_)
        · rw [show p + 1 + j = p + (j + 1) by omega]
          exact hc (j + 1) y hj
        · show Bst x2 (rnS _ l (stp _ c st))
          rw [es]
          exact b2
      rw [q_Ro_isOn_10.eq_2, en, he, tn, ec]
      refine ⟨bR, fun z => by omega, fun _ => ⟨bp, fun c16 => ⟨bp, fun n16 => ⟨bp, fun n17 => ?_, fun n17 => ?_⟩, fun n16 => ?_⟩, fun c16 => ⟨bp, ?_⟩⟩⟩
      · rw [if_neg (by omega), if_neg n16] at k1
        match st, hB, k1, next with
        | y :: a :: st, hB, k1, next =>
          refine next _ ((a || y) :: st) (b_or hB) (by have := k1.2; simp only [List.length_cons] at this ⊢; omega) ?_
          unfold stp
          rw [if_neg n16, if_neg n17, if_pos (by omega)]
        | [y], hB, k1, next => exact absurd (show 2 ≤ 1 from k1.1) (by decide)
        | [], hB, k1, next => exact absurd k1.1 (by decide)
      · have e17 := Classical.not_not.mp n17
        rw [if_neg (by omega), if_neg n16] at k1
        match st, hB, k1, next with
        | y :: a :: st, hB, k1, next =>
          refine next _ ((a && y) :: st) (b_and hB) (by have := k1.2; simp only [List.length_cons] at this ⊢; omega) ?_
          unfold stp
          rw [if_neg n16, if_pos e17]
        | [y], hB, k1, next => exact absurd (show 2 ≤ 1 from k1.1) (by decide)
        | [], hB, k1, next => exact absurd k1.1 (by decide)
      · have e16 := Classical.not_not.mp n16
        rw [if_neg (by omega), if_pos e16] at k1
        match st, hB, k1, next with
        | a :: st, hB, k1, next =>
          refine next _ ((!a) :: st) (b_not hB) (by have := k1.2; simp only [List.length_cons] at this ⊢; omega) ?_
          unfold stp
          rw [if_pos e16]
        | [], hB, k1, next => exact absurd k1.1 (by decide)
      · rw [if_pos (by omega)] at k1
        refine next _ (sbt (w.1 48 1) c :: st) (b_push hB (by omega) ?_) (by rw [List.length_cons, k1]) ?_
        · have t := a1 ((w.1 48 1) >>> ((w.1 56 p) &&& 31))
          have en2 : nI c.toNat = w.1 56 p := by
            rw [← ec]
            exact nI_tn (by omega)
          unfold sbt
          rw [en2]
          rcases t with t | t
          · rw [t]
            rfl
          · rw [t]
            rfl
        · unfold stp
          rw [if_neg (by omega), if_neg (by omega), if_neg (by omega)]
theorem an_1 (y : Int32) : (y &&& (1 : Int32)).toInt = 0 ∨ (y &&& (1 : Int32)).toInt = 1 := by
  cases e : mb y 0 with
  | false => exact Or.inl ((mb_and1 y).mpr e)
  | true =>
    right
    have h : (y &&& (1 : Int32)).toBitVec = (1 : Int32).toBitVec := by
      apply BitVec.eq_of_getLsbD_eq
      intro i hi
      have o : (1 : Int32).toBitVec.getLsbD i = decide (i = 0) := by
        show (1#32).getLsbD i = _
        rw [BitVec.getLsbD_one]
        simp
      rw [Int32.toBitVec_and, BitVec.getLsbD_and, o]
      by_cases q : i = 0
      · rw [q]
        unfold mb at e
        rw [e]
        rfl
      · simp [q]
    have h2 : (y &&& (1 : Int32)) = 1 := Int32.toBitVec_inj.mp h
    rw [h2]
    rfl
/-! the class's isOn -/
theorem rn_len {M : Nat} {s : Int → Bool} : ∀ (l : List Int) (st : List Bool) (h' : Nat), hgo M l st.length h' → (∀ y ∈ l, y ≤ 18) → (rnS s l st).length = h' := by
  intro l
  induction l with
  | nil => exact fun st h' h _ => h
  | cons c l ih =>
    intro st h' h hy
    obtain ⟨h1, k1, k2, k3⟩ := h
    have cy := hy c List.mem_cons_self
    refine ih (stp s c st) h' ?_ (fun y hy' => hy y (List.mem_cons_of_mem _ hy'))
    have e : (stp s c st).length = h1 := by
      unfold stp
      by_cases c15 : c ≤ 15
      · rw [if_pos c15] at k1
        rw [if_neg (by omega), if_neg (by omega), if_neg (by omega), List.length_cons, k1]
      · rw [if_neg c15] at k1
        by_cases c16 : c = 16
        · rw [if_pos c16] at k1 ⊢
          match st, k1 with
          | a :: st, k1 => rw [k1.2]; rfl
          | [], k1 => exact absurd (show 1 ≤ 0 from k1.1) (by decide)
        · rw [if_neg c16] at k1 ⊢
          by_cases c17 : c = 17
          · rw [if_pos c17]
            match st, k1 with
            | y :: a :: st, k1 => have := k1.2; simp only [List.length_cons] at this ⊢; omega
            | [y], k1 => exact absurd (show 2 ≤ 1 from k1.1) (by decide)
            | [], k1 => exact absurd (show 2 ≤ 0 from k1.1) (by decide)
          · rw [if_neg c17, if_pos (by omega)]
            match st, k1 with
            | y :: a :: st, k1 => have := k1.2; simp only [List.length_cons] at this ⊢; omega
            | [y], k1 => exact absurd (show 2 ≤ 1 from k1.1) (by decide)
            | [], k1 => exact absurd (show 2 ≤ 0 from k1.1) (by decide)
    rw [e]
    exact k3
theorem bst_1 {x : Int64} {v : Bool} (h : Bst x [v]) : (lg_cmp (x &&& (1 : Int64)) (0 : Int64)).toInt = 0 ↔ v = false := by
  rw [lg0]
  constructor
  · intro e
    have t : (x &&& (1 : Int64)).toBitVec.getLsbD 0 = (0 : Int64).toBitVec.getLsbD 0 := by rw [e]
    rw [l_an, BitVec.getLsbD_and, l_1, h 0] at t
    cases v with
    | false => rfl
    | true => exact absurd t (by decide)
  · intro e
    have t : (x &&& (1 : Int64)).toBitVec = (0 : Int64).toBitVec := by
      apply BitVec.eq_of_getLsbD_eq
      intro i hi
      show _ = (0#64).getLsbD i
      rw [l_an, BitVec.getLsbD_and, l_1, h i, BitVec.getLsbD_zero, e]
      cases i with
      | zero => rfl
      | succ i => simp
    exact Int64.toBitVec_inj.mp t
theorem co_isOn {w : MW} {RI : Int32} {r b : Nat} {l : List Int} {Q : Int32 → MW → Prop} (hr : RI.toInt = (r : Int)) (r4 : r < 40) (hb : (w.1 55 r).toInt = (b : Int)) (he : (w.1 55 (r + 1)).toInt = ((b + l.length : Nat) : Int)) (e4 : b + l.length ≤ 1400) (hc : ∀ (j : Nat) (y : Int), l[j]? = some y → (w.1 56 (b + j)).toInt = y) (hy : ∀ y ∈ l, 0 ≤ y ∧ y ≤ 18) (hg : hgo 43 l 0 1) (hQ : ∀ (v : Bool) (x : Int32), rnS (sbt (w.1 48 1)) l [] = [v] → x.toInt = (if v = true then 1 else 0) → Q x w) : p_Ro_isOn w RI Q := by
  have en : RI.toInt.toNat = r := by rw [hr]; omega
  have eb : w.1 55 r = nI b := by
    have t := nI_tn (a := w.1 55 r) (by omega)
    rw [show (w.1 55 r).toInt.toNat = b by omega] at t
    exact t.symm
  refine Eq.mpr (p_Ro_isOn.eq_1 _ _ _) ⟨by rw [hr]; omega, ?_⟩
  rw [en, eb]
  refine io_10 hr r4 (Nat.le_refl 43) e4 he an_1 l b 0 [] 1 FU (fun j => ?_) hg (Nat.zero_le _) rfl hc hy (Nat.lt_of_le_of_lt (show _ ≤ 1400 by omega) (fu_lt (by decide))) (fun x' hx => ?_)
  · show (0#64).getLsbD j = _
    rw [BitVec.getLsbD_zero]
    rfl
  · have ln := rn_len (s := sbt (w.1 48 1)) l [] 1 hg (fun y h => (hy y h).2)
    match hst : rnS (sbt (w.1 48 1)) l [], ln with
    | [v], _ =>
      rw [hst] at hx
      have t := bst_1 hx
      cases v with
      | false => exact ⟨fun _ => hQ false 0 hst i_0, fun z => absurd (t.mpr rfl) z⟩
      | true => exact ⟨fun z => absurd (t.mp z) (by decide), fun _ => hQ true 1 hst i_1⟩
/-! the rows that stand, in the class's canonical world -/
def RsR (w : MW) (r b : Nat) (x : Rw) : Prop := BtS (w.1 52 r) x.1 ∧ (w.1 53 r).toInt = x.2.2.1 ∧ (w.1 54 r).toInt = (if x.2.2.2 = true then 1 else 0) ∧ (w.1 55 r).toInt = (b : Int) ∧ (w.1 55 (r + 1)).toInt = ((b + x.2.1.length : Nat) : Int)
def RsC (w : MW) (rs : List Rw) : Prop := (w.1 48 0).toInt = (rs.length : Int) ∧ (∀ (j : Nat) (y : Int), (cds rs)[j]? = some y → (w.1 56 j).toInt = y) ∧ ∀ (r : Nat) (x : Rw), rs[r]? = some x → RsR w r (cds (rs.take r)).length x
/-- what holds of rows that were read -/
def GrS (rs : List Rw) : Prop := rs.length ≤ 40 ∧ (cds rs).length ≤ 1400 ∧ (∀ y ∈ cds rs, 0 ≤ y ∧ y ≤ 18) ∧ ∀ x ∈ rs, hgo 43 x.2.1 0 1
theorem rsc_of {u : MW} {rs : List Rw} (h : RosC u rs) : RsC (sw sQ u) rs :=
  ⟨h.1, fun j y hy => by
    have t := h.2.1.2 j y hy
    rw [Nat.zero_add] at t
    exact t, fun r x hx => by
    have t := h.2.2.2 r x hx
    exact ⟨t.2.2.2.1, t.2.2.2.2.1, t.2.2.2.2.2.1, t.2.2.2.2.2.2.1, t.2.2.2.2.2.2.2⟩⟩
theorem rsc_fr {l : Pl} {w w' : MW} {rs : List Rw} (h : RsC w rs) (hF : FR l w w') (ho : off l [(48, some 0), (52, none), (53, none), (54, none), (55, none), (56, none)] = true) : RsC w' rs := by
  refine ⟨by rw [(hF 48 0 (off_hit ho rfl)).1]; exact h.1, fun j y hy => by rw [(hF 56 j (off_hit ho rfl)).1]; exact h.2.1 j y hy, fun r x hx => ?_⟩
  have t := h.2.2 r x hx
  unfold RsR at t ⊢
  rw [(hF 52 r (off_hit ho rfl)).1, (hF 53 r (off_hit ho rfl)).1, (hF 54 r (off_hit ho rfl)).1, (hF 55 r (off_hit ho rfl)).1, (hF 55 (r + 1) (off_hit ho rfl)).1]
  exact t
theorem rwT_c {f : Int → Int} {n : Int} {as c : List Int} {v : Int} {j : Nat} (h : (rwT f n as c v j).1 = true) : (rwT f n as c v j).2.1.2.1 = c := by
  unfold rwT at h ⊢
  by_cases a : wq f n j (ltr 14 7) = true
  · rw [if_pos a] at h ⊢
    by_cases b : wq f n (j + 1) (ltr 15 1) = true
    · rw [if_pos b]
    · rw [if_neg b] at h
      exact absurd (show false = true from h) (by decide)
  · rw [if_neg a] at h ⊢
    by_cases b : wq f n j (ltr 15 1) = true
    · rw [if_pos b]
    · rw [if_neg b] at h
      exact absurd (show false = true from h) (by decide)
theorem tlS_c {f : Int → Int} {n : Int} {as c : List Int} {j : Nat} (h : (tlS f n as c j).1 = true) : (tlS f n as c j).2.1.2.1 = c := by
  unfold tlS at h ⊢
  by_cases a : wq f n j (ltr 13 3) = true
  · rw [if_pos a] at h ⊢
    by_cases b : nbv f n (j + 1) 0 3600 < 0
    · rw [if_pos b] at h
      exact absurd (show false = true from h) (by decide)
    · rw [if_neg b] at h ⊢
      exact rwT_c h
  · rw [if_neg a] at h ⊢
    exact rwT_c h
theorem row_g {f : Int → Int} {n : Int} {i : Nat} {q : Bool × Rw × Nat} (h : RowS f n i q) (hq : q.1 = true) : hgo 43 q.2.1.2.1 0 1 := by
  unfold RowS at h
  have no : ∀ j, q = rwF j → hgo 43 q.2.1.2.1 0 1 := fun j e => by
    rw [e] at hq
    exact absurd (show false = true from hq) (by decide)
  by_cases c : wq f n i (ltr 6 3) = true
  · rw [if_pos c] at h
    by_cases d : (acF f n 10 [] (i + 1)).1 = true
    · rw [if_pos d] at h
      obtain ⟨r, ⟨k, hk⟩, e⟩ := h
      by_cases b : r.1 = true
      · rw [if_pos b] at e
        rw [e] at hq ⊢
        rw [tlS_c hq]
        exact sp_43 hk b
      · rw [if_neg b] at e
        exact no _ e
    · rw [if_neg d] at h
      exact no _ h
  · rw [if_neg c] at h
    exact no _ h
theorem rdq_g {f : Int → Int} {n : Int} : ∀ (k : Nat) (rs : List Rw) (i : Nat) (r : Int) (rs' : List Rw), RdQ f n k rs i r rs' → (∀ x ∈ rs, hgo 43 x.2.1 0 1) → rs.length ≤ 40 → rs'.length ≤ 40 ∧ ∀ x ∈ rs', hgo 43 x.2.1 0 1 := by
  intro k
  induction k with
  | zero => exact fun rs i r rs' h => False.elim h
  | succ k ih =>
    intro rs i r rs' h hg h4
    have nil : rs' = [] → rs'.length ≤ 40 ∧ ∀ x ∈ rs', hgo 43 x.2.1 0 1 := fun e => by
      rw [e]
      exact ⟨Nat.zero_le _, fun x hx => (by cases hx)⟩
    rcases h with ⟨_, _, e⟩ | ⟨_, _, _, e⟩ | ⟨_, l4, q, hq, h⟩
    · rw [e]
      exact ⟨h4, hg⟩
    · exact nil e
    · rcases h with ⟨_, _, e⟩ | ⟨q1, hk⟩
      · exact nil e
      · refine ih _ _ _ _ hk (fun x hx => ?_) (by rw [List.length_append, List.length_singleton]; omega)
        rcases List.mem_append.mp hx with m | m
        · exact hg x m
        · rw [List.mem_singleton.mp m]
          exact row_g hq q1
theorem gr_read {f : Int → Int} {n : Int} {k : Nat} {r : Int} {rs : List Rw} {u : MW} (h : RdQ f n k [] 0 r rs) (hC : RosC u rs) (hB : BND u) : GrS rs := by
  have t := rdq_g k [] 0 r rs h (fun x hx => (by cases hx)) (Nat.zero_le _)
  refine ⟨t.1, ?_, fun y hy => ?_, t.2⟩
  · have a := hC.2.1.1
    have b := (bd_99_10 hB).2
    omega
  · obtain ⟨j, hj, e⟩ := List.mem_iff_getElem.mp hy
    have a := hC.2.1.2 j y (by rw [← e]; exact List.getElem?_eq_getElem hj)
    have b := bd_107 hB (0 + j)
    omega
theorem gr_nil : GrS [] := ⟨Nat.zero_le _, Nat.zero_le _, fun y hy => absurd hy (List.not_mem_nil (a := y)), fun x hx => absurd hx (List.not_mem_nil (a := x))⟩
/-- where a row's codes lie in all codes -/
theorem cds_at : ∀ (rs : List Rw) (r : Nat) (x : Rw), rs[r]? = some x → ∃ t, cds rs = cds (rs.take r) ++ (x.2.1 ++ t) := by
  intro rs
  induction rs with
  | nil => exact fun r x h => (by cases h)
  | cons a rs ih =>
    intro r x h
    cases r with
    | zero =>
      have e : a = x := Option.some.inj h
      rw [← e]
      exact ⟨cds rs, rfl⟩
    | succ r =>
      obtain ⟨t, e⟩ := ih r x h
      refine ⟨t, ?_⟩
      show a.2.1 ++ cds rs = (a.2.1 ++ cds (rs.take r)) ++ (x.2.1 ++ t)
      rw [e, List.append_assoc]
/-- a row's value in a state -/
def vS (s : Int → Bool) (l : List Int) : Bool := (rnS s l []).headD false
theorem vS_1 {s : Int → Bool} {l : List Int} {v : Bool} (h : rnS s l [] = [v]) : v = vS s l := by
  unfold vS
  rw [h]
  rfl
theorem rs_isOn {w : MW} {rs : List Rw} {r : Nat} {x : Rw} {RI : Int32} {Q : Int32 → MW → Prop} (h : RsC w rs) (hg : GrS rs) (hx : rs[r]? = some x) (hr : RI.toInt = (r : Int)) (hQ : ∀ y : Int32, y.toInt = (if vS (sbt (w.1 48 1)) x.2.1 = true then 1 else 0) → Q y w) : p_Ro_isOn w RI Q := by
  have lt := rs_lt hx
  have h4 := hg.1
  have t := h.2.2 r x hx
  obtain ⟨z, e⟩ := cds_at rs r x hx
  have el : (cds rs).length = (cds (rs.take r)).length + (x.2.1.length + z.length) := by rw [e, List.length_append, List.length_append]
  have l14 := hg.2.1
  refine co_isOn (b := (cds (rs.take r)).length) (l := x.2.1) hr (by omega) t.2.2.2.1 t.2.2.2.2 (by omega) (fun j y hy => ?_) (fun y hy => ?_) (hg.2.2.2 x (List.mem_of_getElem? hx)) (fun v y hv ey => hQ y (by rw [← vS_1 hv]; exact ey))
  · refine h.2.1 _ y ?_
    have lj : j < x.2.1.length := (List.getElem?_eq_some_iff.mp hy).1
    rw [e, List.getElem?_append_right (Nat.le_add_right _ _), Nat.add_sub_cancel_left, List.getElem?_append_left lj]
    exact hy
  · refine hg.2.2.1 y ?_
    rw [e]
    exact List.mem_append_right _ (List.mem_append_left _ hy)
theorem rm_isOn {w : MW} {g : Nat} {rs : List Rw} {r : Nat} {x : Rw} {RI : Int32} {Q : Int32 → MW → Prop} (hI : BND w) (hD : DR w) (h : RoM w g rs) (hx : rs[r]? = some x) (hr : RI.toInt = (r : Int)) (hQ : ∀ y : Int32, y.toInt = (if vS (sbt (w.1 147 24)) x.2.1 = true then 1 else 0) → Q y w) : p_Mr_isOn w RI Q := by
  have lt := rs_lt hx
  have h4 := h.2.2.2.1
  have g1 := h.1
  have e40 := ti_mul2 (show (40 : Int32).toInt = 40 by decide) h.2.1 (by omega) (by omega)
  have e := ti_add2 e40 hr (by omega) (by omega)
  have en : (((40 : Int32) * (w.1 147 12)) + RI).toInt.toNat = 40 * g + r := by rw [e]; omega
  have t := h.2.2.2.2 r x hx
  obtain ⟨k, hk⟩ := t.1.2.2.2.1
  have b154 := bd_154 hI (40 * g + r)
  have dv := hD RI (by omega) (by rw [h.2.2.1]; omega)
  rw [h.2.1, hr, show (40 * (g : Int) + (r : Int)).toNat = 40 * g + r by omega] at dv
  refine Eq.mpr (p_Mr_isOn.eq_1 _ _ _) ⟨by rw [e]; omega, ?_⟩
  rw [en]
  have hv : p_Mr_value w (w.1 154 (40 * g + r)) (fun _ _ => True) := h_Mr_value hI hD b154.1 b154.2 dv (fun _ _ _ _ _ _ => trivial)
  exact vl_x _ k _ x.2.1 _ _ hk hv (fun b y hb ey _ => hQ y (by rw [← vS_1 (hb [])]; exact ey))
/-! a second of the rows, on both sides -/
def ctC (v : Bool) (c : Int) : Int := if v = true then (if c + 1 ≤ 1000000 then c + 1 else 1000000) else 0
def ctL (v lt : Bool) (le c l : Int) : Int := if v = true ∧ lt = true ∧ le ≤ c then 1 else l
def ctP (p : Int) : Int := if 0 < p then p - 1 else 0
/-- a row's second; a, b, c the cells of counts, latched, passes -/
def CsR (a b c : Nat) (s : Int → Bool) (w w' : MW) (r : Nat) (x : Rw) : Prop := (w'.1 a r).toInt = ctC (vS s x.2.1) (w.1 a r).toInt ∧ (w'.1 b r).toInt = ctL (vS s x.2.1) x.2.2.2 x.2.2.1 (ctC (vS s x.2.1) (w.1 a r).toInt) (w.1 b r).toInt ∧ (w'.1 c r).toInt = ctP (w.1 c r).toInt
def CsE (a b c : Nat) (s : Int → Bool) (rs : List Rw) (w w' : MW) : Prop := ∀ (r : Nat) (x : Rw), rs[r]? = some x → CsR a b c s w w' r x
def KP3 (a b c i : Nat) (w w' : MW) : Prop := ∀ k j : Nat, (k = a ∨ k = b ∨ k = c) → ¬ j = i → w'.1 k j = w.1 k j
theorem csr_k {a b c i r : Nat} {s : Int → Bool} {w0 w w' : MW} {x : Rw} (h : CsR a b c s w0 w r x) (K : KP3 a b c i w w') (hr : ¬ r = i) : CsR a b c s w0 w' r x := by
  unfold CsR at h ⊢
  rw [K a r (Or.inl rfl) hr, K b r (Or.inr (Or.inl rfl)) hr, K c r (Or.inr (Or.inr rfl)) hr]
  exact h
theorem vf_0 {v : Bool} {y : Int32} (h : y.toInt = if v = true then 1 else 0) (z : y.toInt = 0) : v = false := by
  cases v with
  | false => rfl
  | true => exact absurd (h.symm.trans z) (by decide)
theorem vt_1 {v : Bool} {y : Int32} (h : y.toInt = if v = true then 1 else 0) (z : ¬ y.toInt = 0) : v = true := by
  cases v with
  | true => rfl
  | false => exact absurd h z
theorem ctC_0 {v : Bool} {c : Int} (h : v = false) : ctC v c = 0 := by
  rw [h]
  rfl
theorem ctC_1 {v : Bool} {c : Int} (h : v = true) (hc : c + 1 ≤ 1000000) : ctC v c = c + 1 := by
  unfold ctC
  rw [if_pos h, if_pos hc]
theorem ctC_2 {v : Bool} {c : Int} (h : v = true) (hc : ¬ c + 1 ≤ 1000000) : ctC v c = 1000000 := by
  unfold ctC
  rw [if_pos h, if_neg hc]
def lcc : Pl := [(49, none), (50, none), (51, none)]
theorem cc_78 {w : MW} {i : Nat} {A : Int32 → MW → Prop} {E Q : MW → Prop} (i4 : i < 40) (hB : BND w) (hA : ∀ w', BND w' → FR lcc w w' → (∀ k j : Nat, ¬ (k = 51 ∧ j = i) → w'.1 k j = w.1 k j) → (w'.1 51 i).toInt = ctP (w.1 51 i).toInt → A (nI (i + 1)) w') : q_Ro_countSecond_78 (nI i) w A E Q := by
  have ti : (nI i).toInt = (i : Int) := nI_toInt (by omega)
  have tn : (nI i).toInt.toNat = i := by omega
  have bi : 0 ≤ (nI i).toInt ∧ (nI i).toInt < 40 := by omega
  have bp := bd_51 hB i
  refine Eq.mpr (q_Ro_countSecond_78.eq_1 _ _ _ _ _) ⟨bi, ?_⟩
  rw [tn, nI_1]
  refine ⟨fun c => hA w hB (FR.refl _ w) (fun _ _ _ => rfl) ?_, fun c => ⟨bi, bi, hA _ (wbd_51 hB i (by rw [ti_sub2 (Eq.refl _) i_1 (by omega) (by omega)]; omega) (by rw [ti_sub2 (Eq.refl _) i_1 (by omega) (by omega)]; omega)) (FR.I (FR.refl _ w) rfl) (fun k j h => ?_) ?_⟩⟩
  · unfold ctP
    rw [if_neg (by omega)]
    omega
  · rw [sI_at]
    exact if_neg h
  · rw [sI_same, ti_sub2 (Eq.refl _) i_1 (by omega) (by omega)]
    unfold ctP
    rw [if_pos (by omega)]
theorem cc_42 {w : MW} {i : Nat} {x : Rw} {v : Bool} {r2 c' : Int32} {A : Int32 → MW → Prop} {E Q : MW → Prop} (i4 : i < 40) (hB : BND w) (hv : r2.toInt = if v = true then 1 else 0) (h53 : (w.1 53 i).toInt = x.2.2.1) (h54 : (w.1 54 i).toInt = if x.2.2.2 = true then 1 else 0) (c0 : 0 ≤ c'.toInt) (c1 : c'.toInt ≤ 1000000) (hA : ∀ w', BND w' → FR lcc w w' → KP3 49 50 51 i w w' → (w'.1 49 i).toInt = c'.toInt → (w'.1 50 i).toInt = ctL v x.2.2.2 x.2.2.1 c'.toInt (w.1 50 i).toInt → (w'.1 51 i).toInt = ctP (w.1 51 i).toInt → A (nI (i + 1)) w') : q_Ro_countSecond_42 (nI i) r2 c' (nI i) w A E Q := by
  have ti : (nI i).toInt = (i : Int) := nI_toInt (by omega)
  have tn : (nI i).toInt.toNat = i := by omega
  have bi : 0 ≤ (nI i).toInt ∧ (nI i).toInt < 40 := by omega
  have F1 : FR lcc w (sI w 49 i c') := FR.I (FR.refl _ w) rfl
  have F2 : FR lcc w (sI (sI w 49 i c') 50 i 1) := FR.I F1 rfl
  have B1 : BND (sI w 49 i c') := wbd_49 hB i c0 c1
  have B2 : BND (sI (sI w 49 i c') 50 i 1) := wbd_50 B1 i (by decide) (by decide)
  have go : ¬ (v = true ∧ x.2.2.2 = true ∧ x.2.2.1 ≤ c'.toInt) → q_Ro_countSecond_78 (nI i) (sI w 49 i c') A E Q := fun n => by
    have e51 : (sI w 49 i c').1 51 i = w.1 51 i := sI_oth _ _ _ _ _ _ (by decide)
    refine cc_78 i4 B1 (fun w' B' F K e => hA w' B' (F1.tr F rfl) (fun k j hk hj => ?_) ?_ ?_ (by rw [e, e51]))
    · rw [K k j (fun z => hj z.2), sI_at, if_neg (fun z => hj z.2)]
    · rw [K 49 i (fun z => absurd z.1 (by decide)), sI_same]
    · rw [K 50 i (fun z => absurd z.1 (by decide)), sI_oth _ _ _ _ _ _ (by decide)]
      unfold ctL
      rw [if_neg n]
  have go1 : (v = true ∧ x.2.2.2 = true ∧ x.2.2.1 ≤ c'.toInt) → q_Ro_countSecond_78 (nI i) (sI (sI w 49 i c') 50 i 1) A E Q := fun n => by
    have e51 : (sI (sI w 49 i c') 50 i 1).1 51 i = w.1 51 i := by rw [sI_oth _ _ _ _ _ _ (by decide), sI_oth _ _ _ _ _ _ (by decide)]
    refine cc_78 i4 B2 (fun w' B' F K e => hA w' B' (F2.tr F rfl) (fun k j hk hj => ?_) ?_ ?_ (by rw [e, e51]))
    · rw [K k j (fun z => hj z.2), sI_at, if_neg (fun z => hj z.2), sI_at, if_neg (fun z => hj z.2)]
    · rw [K 49 i (fun z => absurd z.1 (by decide)), sI_oth _ _ _ _ _ _ (by decide), sI_same]
    · rw [K 50 i (fun z => absurd z.1 (by decide)), sI_same]
      unfold ctL
      rw [if_pos n]
      exact i_1
  refine Eq.mpr (q_Ro_countSecond_42.eq_1 _ _ _ _ _ _ _ _) ?_
  rw [tn, nar1z, sI_same]
  refine ⟨bi, bi, fun a => go (fun z => ?_), fun a => ⟨fun b => go (fun z => ?_), fun b => ⟨bi, bi, fun d => go (fun z => ?_), fun d => ⟨bi, go1 ⟨vt_1 hv b, vt_1 h54 a, by omega⟩⟩⟩⟩⟩
  · rw [h54, if_pos z.2.1] at a
    exact absurd a (by decide)
  · rw [hv, if_pos z.1] at b
    exact absurd b (by decide)
  · have := z.2.2
    omega
theorem cc_2 {w0 : MW} {rs : List Rw} {E Q : MW → Prop} (hS : RsC w0 rs) (hg : GrS rs) (hE : ∀ w', BND w' → FR lcc w0 w' → CsE 49 50 51 (sbt (w0.1 48 1)) rs w0 w' → E w') (n : Nat) : ∀ (i : Nat) (w : MW), i ≤ rs.length → BND w → FR lcc w0 w → (∀ (r : Nat) (x : Rw), r < i → rs[r]? = some x → CsR 49 50 51 (sbt (w0.1 48 1)) w0 w r x) → (∀ k j : Nat, (k = 49 ∨ k = 50 ∨ k = 51) → i ≤ j → w.1 k j = w0.1 k j) → rs.length - i < n → q_Ro_countSecond_2 E Q n (nI i) w := by
  induction n with
  | zero => intros; omega
  | succ n ih =>
    intro i w hi hB hF hD hK hm
    have h4 := hg.1
    have ti : (nI i).toInt = (i : Int) := nI_toInt (by omega)
    have tn : (nI i).toInt.toNat = i := by omega
    have S := rsc_fr hS hF rfl
    have e1 : w.1 48 1 = w0.1 48 1 := (hF 48 1 rfl).1
    have k49 := hK 49 i (Or.inl rfl) (Nat.le_refl _)
    have k50 := hK 50 i (Or.inr (Or.inl rfl)) (Nat.le_refl _)
    have k51 := hK 51 i (Or.inr (Or.inr rfl)) (Nat.le_refl _)
    rw [q_Ro_countSecond_2.eq_2]
    refine ⟨fun c => hE w hB hF (fun r x hx => hD r x (by have := rs_lt hx; have := S.1; omega) hx), fun c => ?_⟩
    have il : i < rs.length := by have := S.1; omega
    obtain ⟨x, hx⟩ : ∃ x, rs[i]? = some x := ⟨_, List.getElem?_eq_getElem il⟩
    have t := S.2.2 i x hx
    have bi : 0 ≤ (nI i).toInt ∧ (nI i).toInt < 40 := by omega
    have c49 := bd_49 hB i
    have nx : ∀ c' : Int32, c'.toInt = ctC (vS (sbt (w0.1 48 1)) x.2.1) (w.1 49 i).toInt → ∀ w', BND w' → FR lcc w w' → KP3 49 50 51 i w w' → (w'.1 49 i).toInt = c'.toInt → (w'.1 50 i).toInt = ctL (vS (sbt (w0.1 48 1)) x.2.1) x.2.2.2 x.2.2.1 c'.toInt (w.1 50 i).toInt → (w'.1 51 i).toInt = ctP (w.1 51 i).toInt → q_Ro_countSecond_2 E Q n (nI (i + 1)) w' := fun c' ec w' B' F K a b d => by
      refine ih (i + 1) w' il B' (hF.tr F rfl) (fun r y hr hy => ?_) (fun k j hk hj => (K k j hk (by omega)).trans (hK k j hk (by omega))) (by omega)
      by_cases q : r = i
      · rw [q] at hy ⊢
        have ey : y = x := Option.some.inj (hy.symm.trans hx)
        rw [ey]
        unfold CsR
        rw [← k49, ← k50, ← k51, ← ec]
        exact ⟨a, b, d⟩
      · exact csr_k (hD r y (by omega) hy) K q
    refine rs_isOn S hg hx ti (fun y hy => ⟨fun z => ?_, fun z => ⟨bi, Eq.mpr (p_Ma_min.eq_1 _ _ _ _) ⟨fun c => ?_, fun c => ?_⟩⟩⟩)
    · rw [e1] at hy
      exact cc_42 (by omega) hB hy t.2.1 t.2.2.1 (by decide) (by decide) (nx 0 (by rw [ctC_0 (vf_0 hy z)]; exact i_0))
    · rw [e1] at hy
      rw [tn, ti_add2 (Eq.refl _) i_1 (by omega) (by omega)] at c
      have em : (1000000 : Int32).toInt = 1000000 := by decide
      exact cc_42 (by omega) hB hy t.2.1 t.2.2.1 (by decide) (by decide) (nx _ (by rw [ctC_2 (vt_1 hy z) (by omega)]; exact em))
    · rw [e1] at hy
      rw [tn, ti_add2 (Eq.refl _) i_1 (by omega) (by omega)] at c
      have em : (1000000 : Int32).toInt = 1000000 := by decide
      rw [tn]
      have es := ti_add2 (Eq.refl (w.1 49 i).toInt) i_1 (by omega) (by omega)
      exact cc_42 (by omega) hB hy t.2.1 t.2.2.1 (by omega) (by omega) (nx _ (by rw [ctC_1 (vt_1 hy z) (by omega)]; exact ti_add2 (Eq.refl _) i_1 (by omega) (by omega)))
/-- the class's second of its rows -/
theorem cc_count {w : MW} {rs : List Rw} {Q : MW → Prop} (hB : BND w) (hS : RsC w rs) (hg : GrS rs) (hQ : ∀ w', BND w' → FR lcc w w' → CsE 49 50 51 (sbt (w.1 48 1)) rs w w' → Q w') : p_Ro_countSecond w Q :=
  Eq.mpr (p_Ro_countSecond.eq_1 _ _) (cc_2 hS hg hQ FU 0 w (Nat.zero_le _) hB (FR.refl _ w) (fun r x h => absurd h (Nat.not_lt_zero _)) (fun _ _ _ _ => rfl) (Nat.lt_of_le_of_lt (show _ ≤ 40 by have := hg.1; omega) (fu_lt (by decide))))
def lcm : Pl := [(160, none), (161, none), (162, none)]
theorem cm_128 {w : MW} {i : Nat} {s0 s1 : Int32} {A : Int32 → MW → Prop} {E : MW → Prop} {Q : Int32 → MW → Prop} (i4 : i < 40) (hB : BND w) (h0 : s0 = 0 ∨ s0 = 1) (h1 : s1 = 0 ∨ s1 = 1) (hA : ∀ w', BND w' → FR lcm w w' → KP3 160 161 162 i w w' → w'.1 160 i = w.1 160 i → w'.1 161 i = (if s0 = 1 then 1 else s1) → (w'.1 162 i).toInt = ctP (w.1 162 i).toInt → A (nI (i + 1)) w') : q_Mr_tick_128 1 (nI i) s0 s1 (nI i) w A E Q := by
  have ti : (nI i).toInt = (i : Int) := nI_toInt (by omega)
  have tn : (nI i).toInt.toNat = i := by omega
  have bi : 0 ≤ (nI i).toInt ∧ (nI i).toInt < 40 := by omega
  have bp := bd_162 hB i
  have en : vp_nar .boolean (s1 ||| s0) = (if s0 = 1 then 1 else s1) := by
    rcases h1 with rfl | rfl <;> rcases h0 with rfl | rfl <;> decide
  have eb : 0 ≤ (if s0 = 1 then 1 else s1).toInt ∧ (if s0 = 1 then 1 else s1).toInt ≤ 1 := by
    rcases h1 with rfl | rfl <;> rcases h0 with rfl | rfl <;> decide
  have nx : ∀ p' : Int32, 0 ≤ p'.toInt → p'.toInt ≤ 3600 → p'.toInt = ctP (w.1 162 i).toInt → A (nI (i + 1)) (sI (sI w 161 i (if s0 = 1 then 1 else s1)) 162 i p') := fun p' q0 q1 ep => by
    refine hA _ (wbd_162 (wbd_161 hB i eb.1 eb.2) i q0 q1) (FR.I (FR.I (FR.refl _ w) rfl) rfl) (fun k j hk hj => ?_) ?_ ?_ (by rw [sI_same]; exact ep)
    · rw [sI_at, if_neg (fun z => hj z.2), sI_at, if_neg (fun z => hj z.2)]
    · rw [sI_oth _ _ _ _ _ _ (by decide), sI_oth _ _ _ _ _ _ (by decide)]
    · rw [sI_oth _ _ _ _ _ _ (by decide), sI_same]
  refine Eq.mpr (q_Mr_tick_128.eq_1 _ _ _ _ _ _ _ _ _) ⟨bi, bi, ?_⟩
  rw [tn, nI_1, en]
  refine ⟨fun c => ⟨bi, nx 0 (by decide) (by decide) ?_⟩, fun c => ⟨bi, bi, ?_⟩⟩
  · rw [i_1] at c
    unfold ctP
    by_cases q : 0 < (w.1 162 i).toInt
    · rw [if_pos q, i_0]
      omega
    · rw [if_neg q, i_0]
  · rw [i_1] at c
    have e := ti_sub2 (Eq.refl (w.1 162 i).toInt) i_1 (by omega) (by omega)
    refine nx _ (by omega) (by omega) ?_
    unfold ctP
    rw [if_pos (by omega), e]
theorem cm_71 {w : MW} {g i : Nat} {x : Rw} {v : Bool} {r5 c' : Int32} {A : Int32 → MW → Prop} {E : MW → Prop} {Q : Int32 → MW → Prop} (i4 : i < 40) (hB : BND w) (g1 : g ≤ 1) (h12 : (w.1 147 12).toInt = (g : Int)) (hv : r5.toInt = if v = true then 1 else 0) (h57 : (w.1 157 (40 * g + i)).toInt = x.2.2.1) (h58 : (w.1 158 (40 * g + i)).toInt = if x.2.2.2 = true then 1 else 0) (c0 : 0 ≤ c'.toInt) (c1 : c'.toInt ≤ 1000000) (hA : ∀ w', BND w' → FR lcm w w' → KP3 160 161 162 i w w' → (w'.1 160 i).toInt = c'.toInt → (w'.1 161 i).toInt = ctL v x.2.2.2 x.2.2.1 c'.toInt (w.1 161 i).toInt → (w'.1 162 i).toInt = ctP (w.1 162 i).toInt → A (nI (i + 1)) w') : q_Mr_tick_71 1 (nI i) r5 c' (nI i) w A E Q := by
  have ti : (nI i).toInt = (i : Int) := nI_toInt (by omega)
  have tn : (nI i).toInt.toNat = i := by omega
  have bi : 0 ≤ (nI i).toInt ∧ (nI i).toInt < 40 := by omega
  have e40 := ti_mul2 (show (40 : Int32).toInt = 40 by decide) h12 (by omega) (by omega)
  have e := ti_add2 e40 ti (by omega) (by omega)
  have en : (((40 : Int32) * (w.1 147 12)) + nI i).toInt.toNat = 40 * g + i := by rw [e]; omega
  have b80 : 0 ≤ (((40 : Int32) * (w.1 147 12)) + nI i).toInt ∧ (((40 : Int32) * (w.1 147 12)) + nI i).toInt < 80 := by rw [e]; omega
  have B1 : BND (sI w 160 i c') := wbd_160 hB i c0 c1
  have F1 : FR lcm w (sI w 160 i c') := FR.I (FR.refl _ w) rfl
  have b161 := bd_161 hB i
  have h1 : w.1 161 i = 0 ∨ w.1 161 i = 1 := by
    by_cases q : (w.1 161 i).toInt = 0
    · exact Or.inl (ti_inj (by rw [q, i_0]))
    · exact Or.inr (ti_inj (by rw [i_1]; omega))
  have e162 : (sI w 160 i c').1 162 i = w.1 162 i := sI_oth _ _ _ _ _ _ (by decide)
  have go : ∀ s0 : Int32, (s0 = 0 ∨ s0 = 1) → (s0 = 1 ↔ (v = true ∧ x.2.2.2 = true ∧ x.2.2.1 ≤ c'.toInt)) → q_Mr_tick_128 1 (nI i) s0 (w.1 161 i) (nI i) (sI w 160 i c') A E Q := fun s0 h0 n => by
    refine cm_128 i4 B1 h0 h1 (fun w' B' F K a b d => hA w' B' (F1.tr F rfl) (fun k j hk hj => ?_) (by rw [a, sI_same]) ?_ (by rw [d, e162]))
    · rw [K k j hk hj, sI_at, if_neg (fun z => hj z.2)]
    · rw [b]
      unfold ctL
      by_cases q : s0 = 1
      · rw [if_pos q, if_pos (n.mp q)]
        exact i_1
      · rw [if_neg q, if_neg (fun z => q (n.mpr z))]
  refine Eq.mpr (q_Mr_tick_71.eq_1 _ _ _ _ _ _ _ _ _) ⟨bi, bi, ?_⟩
  rw [tn, en, sI_same]
  have z01 : ¬ (0 : Int32) = 1 := by decide
  refine ⟨fun a => go 0 (Or.inl rfl) ⟨fun z => absurd z z01, fun z => ?_⟩, fun a => ⟨b80, fun b => go 0 (Or.inl rfl) ⟨fun z => absurd z z01, fun z => ?_⟩, fun b => ⟨bi, b80, fun d => go 0 (Or.inl rfl) ⟨fun z => absurd z z01, fun z => ?_⟩, fun d => go 1 (Or.inr rfl) ⟨fun _ => ⟨vt_1 hv a, vt_1 h58 b, by omega⟩, fun _ => rfl⟩⟩⟩⟩
  · rw [hv, if_pos z.1] at a
    exact absurd a (by decide)
  · rw [h58, if_pos z.2.1] at b
    exact absurd b (by decide)
  · have := z.2.2
    omega
theorem cm_14 {w0 : MW} {g : Nat} {rs : List Rw} {E : MW → Prop} {Q : Int32 → MW → Prop} (hD0 : DR w0) (hR0 : RoM w0 g rs) (hE : ∀ w', BND w' → FR lcm w0 w' → CsE 160 161 162 (sbt (w0.1 147 24)) rs w0 w' → E w') (n : Nat) : ∀ (i : Nat) (w : MW), i ≤ rs.length → BND w → FR lcm w0 w → (∀ (r : Nat) (x : Rw), r < i → rs[r]? = some x → CsR 160 161 162 (sbt (w0.1 147 24)) w0 w r x) → (∀ k j : Nat, (k = 160 ∨ k = 161 ∨ k = 162) → i ≤ j → w.1 k j = w0.1 k j) → rs.length - i < n → q_Mr_tick_14 1 E Q n (nI i) w := by
  induction n with
  | zero => intros; omega
  | succ n ih =>
    intro i w hi hB hF hD hK hm
    have h4 := hR0.2.2.2.1
    have ti : (nI i).toInt = (i : Int) := nI_toInt (by omega)
    have tn : (nI i).toInt.toNat = i := by omega
    have R : RoM w g rs := rom_k hR0 (hF 147 12 rfl).1 (hF 147 20 rfl).1 (KR.fr hF rfl)
    have e1 : w.1 147 24 = w0.1 147 24 := (hF 147 24 rfl).1
    have k49 := hK 160 i (Or.inl rfl) (Nat.le_refl _)
    have k50 := hK 161 i (Or.inr (Or.inl rfl)) (Nat.le_refl _)
    have k51 := hK 162 i (Or.inr (Or.inr rfl)) (Nat.le_refl _)
    rw [q_Mr_tick_14.eq_2]
    refine ⟨fun c => hE w hB hF (fun r x hx => hD r x (by have := rs_lt hx; have := R.2.2.1; omega) hx), fun c => ⟨fun z => absurd z (by decide), fun _ => ?_⟩⟩
    have il : i < rs.length := by have := R.2.2.1; omega
    obtain ⟨x, hx⟩ : ∃ x, rs[i]? = some x := ⟨_, List.getElem?_eq_getElem il⟩
    have t := R.2.2.2.2 i x hx
    have bi : 0 ≤ (nI i).toInt ∧ (nI i).toInt < 40 := by omega
    have c49 := bd_160 hB i
    have nx : ∀ c' : Int32, c'.toInt = ctC (vS (sbt (w0.1 147 24)) x.2.1) (w.1 160 i).toInt → ∀ w', BND w' → FR lcm w w' → KP3 160 161 162 i w w' → (w'.1 160 i).toInt = c'.toInt → (w'.1 161 i).toInt = ctL (vS (sbt (w0.1 147 24)) x.2.1) x.2.2.2 x.2.2.1 c'.toInt (w.1 161 i).toInt → (w'.1 162 i).toInt = ctP (w.1 162 i).toInt → q_Mr_tick_14 1 E Q n (nI (i + 1)) w' := fun c' ec w' B' F K a b d => by
      refine ih (i + 1) w' il B' (hF.tr F rfl) (fun r y hr hy => ?_) (fun k j hk hj => (K k j hk (by omega)).trans (hK k j hk (by omega))) (by omega)
      by_cases q : r = i
      · rw [q] at hy ⊢
        have ey : y = x := Option.some.inj (hy.symm.trans hx)
        rw [ey]
        unfold CsR
        rw [← k49, ← k50, ← k51, ← ec]
        exact ⟨a, b, d⟩
      · exact csr_k (hD r y (by omega) hy) K q
    refine rm_isOn hB (DR_fr hF rfl hD0) R hx ti (fun y hy => ⟨fun z => ⟨bi, fun c => ⟨bi, ?_⟩, fun c => ?_⟩, fun z => ?_⟩)
    · rw [e1] at hy
      rw [tn] at c ⊢
      have es := ti_add2 (Eq.refl (w.1 160 i).toInt) i_1 (by omega) (by omega)
      exact cm_71 (by omega) hB R.1 R.2.1 hy t.1.2.2.2.2.2 t.2 (by omega) c (nx _ (by rw [ctC_1 (vt_1 hy z) (by omega)]; exact es))
    · rw [e1] at hy
      rw [tn] at c
      have es := ti_add2 (Eq.refl (w.1 160 i).toInt) i_1 (by omega) (by omega)
      have em : (1000000 : Int32).toInt = 1000000 := by decide
      exact cm_71 (by omega) hB R.1 R.2.1 hy t.1.2.2.2.2.2 t.2 (by decide) (by decide) (nx _ (by rw [ctC_2 (vt_1 hy z) (by omega)]; exact em))
    · rw [e1] at hy
      exact cm_71 (by omega) hB R.1 R.2.1 hy t.1.2.2.2.2.2 t.2 (by decide) (by decide) (nx 0 (by rw [ctC_0 (vf_0 hy (Classical.not_not.mp z))]; exact i_0))
/-- the reference's second of its rows -/
theorem cm_count {w : MW} {g : Nat} {rs : List Rw} {Q : Int32 → MW → Prop} (hB : BND w) (hD : DR w) (hR : RoM w g rs) (hQ : ∀ w', BND w' → FR lcm w w' → CsE 160 161 162 (sbt (w.1 147 24)) rs w w' → Q 1 w') : p_Mr_tick w 1 Q :=
  Eq.mpr (p_Mr_tick.eq_1 _ _ _) ⟨fun z => absurd z (by decide), fun _ => ⟨fun _ => cm_14 hD hR hQ FU 0 w (Nat.zero_le _) hB (FR.refl _ w) (fun r x h => absurd h (Nat.not_lt_zero _)) (fun _ _ _ _ => rfl) (Nat.lt_of_le_of_lt (show _ ≤ 40 by have := hR.2.2.2.1; omega) (fu_lt (by decide))), fun z => absurd (show (1 : Int32).toInt ≤ 100000 by decide) z⟩⟩
/-! bars, reset and row, on both sides -/
/-- the row x bars the act a; c its count, l latched, p its pass -/
def BrP (s : Int → Bool) (a c l p : Int) (x : Rw) : Prop := a ∈ x.1 ∧ p = 0 ∧ (¬ l = 0 ∨ (x.2.2.1 ≤ c ∧ vS s x.2.1 = true))
/-- y is one more than the first place of which P holds, or 0 -/
def FsB (P : Nat → Rw → Prop) (rs : List Rw) (y : Int) : Prop := (∃ (r : Nat) (x : Rw), rs[r]? = some x ∧ P r x ∧ (∀ (r' : Nat) (x' : Rw), r' < r → rs[r']? = some x' → ¬ P r' x') ∧ y = (r : Int) + 1) ∨ ((∀ (r : Nat) (x : Rw), rs[r]? = some x → ¬ P r x) ∧ y = 0)
theorem fsb_eq {P P' : Nat → Rw → Prop} {rs : List Rw} {y y' : Int} (e : ∀ (r : Nat) (x : Rw), rs[r]? = some x → (P r x ↔ P' r x)) (h : FsB P rs y) (h' : FsB P' rs y') : y = y' := by
  rcases h with ⟨r, x, hx, p, n, ey⟩ | ⟨n, ey⟩
  · rcases h' with ⟨r', x', hx', p', n', ey'⟩ | ⟨n', _⟩
    · by_cases c : r < r'
      · exact absurd ((e r x hx).mp p) (n' r x c hx)
      · by_cases d : r' < r
        · exact absurd ((e r' x' hx').mpr p') (n r' x' d hx')
        · omega
    · exact absurd ((e r x hx).mp p) (n' r x hx)
  · rcases h' with ⟨r', x', hx', p', _, _⟩ | ⟨_, ey'⟩
    · exact absurd ((e r' x' hx').mpr p') (n r' x' hx')
    · rw [ey, ey']
/-- the rows' part of bars; a, b, c the cells of counts, latched, passes -/
def BrW (ka kb kc : Nat) (s : Int → Bool) (a : Int) (w : MW) (r : Nat) (x : Rw) : Prop := BrP s a (w.1 ka r).toInt (w.1 kb r).toInt (w.1 kc r).toInt x
theorem cb_2 {w : MW} {rs : List Rw} {a : Nat} {E : MW → Prop} {Q : Int32 → MW → Prop} (a32 : a < 32) (hS : RsC w rs) (hg : GrS rs) (hE : (∀ (r : Nat) (x : Rw), rs[r]? = some x → ¬ BrW 49 50 51 (sbt (w.1 48 1)) (a : Int) w r x) → E w) (hQ : ∀ (r : Nat) (x : Rw), rs[r]? = some x → BrW 49 50 51 (sbt (w.1 48 1)) (a : Int) w r x → (∀ (r' : Nat) (x' : Rw), r' < r → rs[r']? = some x' → ¬ BrW 49 50 51 (sbt (w.1 48 1)) (a : Int) w r' x') → Q (nI (r + 1)) w) (n : Nat) : ∀ i : Nat, i ≤ rs.length → (∀ (r : Nat) (x : Rw), r < i → rs[r]? = some x → ¬ BrW 49 50 51 (sbt (w.1 48 1)) (a : Int) w r x) → rs.length - i < n → q_Ro_barring_2 (nI a) E Q n (nI i) w := by
  induction n with
  | zero => intros; omega
  | succ n ih =>
    intro i hi hN hm
    have h4 := hg.1
    have ti : (nI i).toInt = (i : Int) := nI_toInt (by omega)
    have tn : (nI i).toInt.toNat = i := by omega
    have l0 := hS.1
    rw [q_Ro_barring_2.eq_2]
    refine ⟨fun c => hE (fun r x hx => hN r x (by have := rs_lt hx; omega) hx), fun c => ?_⟩
    have il : i < rs.length := by omega
    obtain ⟨x, hx⟩ : ∃ x, rs[i]? = some x := ⟨_, List.getElem?_eq_getElem il⟩
    have t := hS.2.2 i x hx
    have bi : 0 ≤ (nI i).toInt ∧ (nI i).toInt < 40 := by omega
    have sk : ¬ BrW 49 50 51 (sbt (w.1 48 1)) (a : Int) w i x → q_Ro_barring_2 (nI a) E Q n (nI (i + 1)) w := fun np => ih (i + 1) il (fun r y hr hy => by
      by_cases q : r = i
      · rw [q] at hy ⊢
        rw [Option.some.inj (hy.symm.trans hx)]
        exact np
      · exact hN r y (by omega) hy) (by omega)
    have q0 : ¬ BrW 49 50 51 (sbt (w.1 48 1)) (a : Int) w i x → q_Ro_barring_37 (nI a) (nI i) 0 w (fun (x2_2 : Int32) (w : MW) => q_Ro_barring_2 (nI a) E Q n x2_2 w) E Q := fun np => Eq.mpr (q_Ro_barring_37.eq_1 _ _ _ _ _ _ _) ⟨fun _ => by rw [nI_1]; exact sk np, fun z => absurd i_0 z⟩
    rw [tn]
    have mb1 := mb_ubit (w.1 52 i) a32
    have mb2 := t.1.1 a a32
    refine ⟨bi, fun z => q0 (fun p => ?_), fun z => ⟨bi, fun d => q0 (fun p => d p.2.1), fun d => ?_⟩⟩
    · have m1 := mb1.mp z
      have m2 := mb2.mpr p.1
      rw [m1] at m2
      exact absurd m2 (by decide)
    · have ma : (a : Int) ∈ x.1 := by
        refine mb2.mp ?_
        cases hb : mb (w.1 52 i) a with
        | true => rfl
        | false => exact absurd (mb1.mpr hb) z
      have d0 := Classical.not_not.mp d
      refine Eq.mpr (q_Ro_barring_37.eq_1 _ _ _ _ _ _ _) ⟨fun z => absurd z i1n, fun _ => ⟨bi, ?_⟩⟩
      rw [tn, nI_1]
      refine ⟨fun l => hQ i x hx ⟨ma, d0, Or.inl l⟩ hN, fun l => ⟨bi, bi, fun u => sk (fun p => ?_), fun u => ?_⟩⟩
      · rcases p.2.2 with k | k
        · exact l k
        · have := k.1
          have := t.2.1
          omega
      · refine rs_isOn hS hg hx ti (fun y hy => ⟨fun z => sk (fun p => ?_), fun z => hQ i x hx ⟨ma, d0, Or.inr ⟨by have := t.2.1; omega, vt_1 hy z⟩⟩ hN⟩)
        rcases p.2.2 with k | k
        · exact l k
        · exact absurd (k.2.symm.trans (vf_0 hy z)) (by decide)
theorem cb_bar {w : MW} {rs : List Rw} {A : Int32} {Q : Int32 → MW → Prop} (a0 : 0 ≤ A.toInt) (a1 : A.toInt < 32) (hS : RsC w rs) (hg : GrS rs) (hQ : ∀ y, FsB (BrW 49 50 51 (sbt (w.1 48 1)) A.toInt w) rs y.toInt → Q y w) : p_Ro_barring w A Q := by
  have eA : A = nI A.toInt.toNat := (nI_tn a0).symm
  have eI : ((A.toInt.toNat : Nat) : Int) = A.toInt := by omega
  have h4 := hg.1
  have t := cb_2 (E := fun w14 => Q 0 w14) (Q := Q) (n := FU) (show A.toInt.toNat < 32 by omega) hS hg (fun no => hQ 0 (Or.inr ⟨by rw [← eI]; exact no, i_0⟩)) (fun r x hx p np => hQ _ (Or.inl ⟨r, x, hx, by rw [← eI]; exact p, by rw [← eI]; exact np, by
    have := rs_lt hx
    rw [nI_toInt (by omega)]
    omega⟩)) 0 (Nat.zero_le _) (fun r x h => absurd h (Nat.not_lt_zero _)) (Nat.lt_of_le_of_lt (show _ ≤ 40 by omega) (fu_lt (by decide)))
  rw [← eA] at t
  exact Eq.mpr (p_Ro_barring.eq_1 _ _ _) t
/-- the class's bars -/
theorem cb_bars {w : MW} {rs : List Rw} {A : Int32} {Q : Int32 → MW → Prop} (h4 : w.2.2 47 3 = some 48) (hS : RsC w rs) (hg : GrS rs) (h1 : (A.toInt < 0 ∨ 32 ≤ A.toInt) → Q (-1) w) (h2 : 0 ≤ A.toInt → A.toInt < 32 → ∀ y, FsB (BrW 49 50 51 (sbt (w.1 48 1)) A.toInt w) rs y.toInt → Q y w) : p_Bh_bars w A Q :=
  Eq.mpr (p_Bh_bars.eq_1 _ _ _) (Eq.mpr (p_Ac_isAct.eq_1 _ _ _) ⟨fun c => ⟨fun _ => h1 (Or.inl c), fun z => absurd i_0 z⟩, fun c => ⟨fun d => ⟨fun _ => h1 (Or.inr d), fun z => absurd i_0 z⟩, fun d => ⟨fun z => absurd z i1n, fun _ => ⟨h4, cb_bar (by omega) (by omega) hS hg (h2 (by omega) (by omega))⟩⟩⟩⟩)
theorem ha_16 {w : MW} {g r : Nat} {as c : List Int} {v a : Int} {RI A : Int32} {E : Int32 → MW → Prop} {Q : Int32 → MW → Prop} (t : RwP w g r 3000 as c v) (g1 : g ≤ 1) (r4 : r < 40) (hR : RI.toInt = ((40 * g + r : Nat) : Int)) (hA : A.toInt = a) (hE : ∀ h : Int32, ((h.toInt = 1 ∧ a ∈ as) ∨ (h.toInt = 0 ∧ ¬ a ∈ as)) → E h w) (n : Nat) : ∀ (j : Nat) (h : Int32), j ≤ as.length → ((h.toInt = 1 ∧ ∃ k : Nat, k < j ∧ as[k]? = some a) ∨ (h.toInt = 0 ∧ ∀ k : Nat, k < j → ¬ as[k]? = some a)) → as.length - j < n → q_Mr_hasAct_16 A RI E Q n h (nI j) w := by
  induction n with
  | zero => intros; omega
  | succ n ih =>
    intro j h hj hh hm
    have l8 := t.2.2.1
    have tj : (nI j).toInt = (j : Int) := nI_toInt (by omega)
    have tR : RI.toInt.toNat = 40 * g + r := by omega
    have e5 := t.1
    rw [q_Mr_hasAct_16.eq_2, tR, nI_1]
    refine ⟨by omega, fun c => hE h ?_, fun c => ?_⟩
    · rcases hh with ⟨h1, k, _, hk⟩ | ⟨h0, hk⟩
      · exact Or.inl ⟨h1, List.mem_of_getElem? hk⟩
      · refine Or.inr ⟨h0, fun m => ?_⟩
        obtain ⟨k, hk2⟩ := List.mem_iff_getElem?.mp m
        have : k < as.length := (List.getElem?_eq_some_iff.mp hk2).1
        exact hk k (by omega) hk2
    · have jl : j < as.length := by omega
      obtain ⟨b, hb⟩ : ∃ b, as[j]? = some b := ⟨_, List.getElem?_eq_getElem jl⟩
      have e6 := t.2.1 j b hb
      refine ⟨fun z => ih (j + 1) 1 jl (Or.inl ⟨i_1, ?_⟩) (by omega), fun z => ?_⟩
      · rcases hh with ⟨_, k, k1, hk⟩ | ⟨h0, _⟩
        · exact ⟨k, by omega, hk⟩
        · exact absurd h0 z
      · have e8 := ti_mul2 (show (8 : Int32).toInt = 8 by decide) hR (by omega) (by omega)
        have e := ti_add2 e8 tj (by omega) (by omega)
        have en : (((8 : Int32) * RI) + nI j).toInt.toNat = 8 * (40 * g + r) + j := by rw [e]; omega
        rw [en]
        have old : ∀ k : Nat, k < j → ¬ as[k]? = some a := by
          rcases hh with ⟨h1, _⟩ | ⟨_, q⟩
          · have := Classical.not_not.mp z
            omega
          · exact q
        refine ⟨by rw [e]; omega, fun y => ih (j + 1) 0 jl (Or.inr ⟨i_0, fun k hk => ?_⟩) (by omega), fun y => ih (j + 1) 1 jl (Or.inl ⟨i_1, j, by omega, ?_⟩) (by omega)⟩
        · by_cases q : k = j
          · intro z2
            rw [q, hb] at z2
            have := Option.some.inj z2
            omega
          · exact old k (by omega)
        · rw [hb]
          have := Classical.not_not.mp y
          congr 1
          omega
theorem ha_x {w : MW} {g r : Nat} {rs : List Rw} {x : Rw} {RI A : Int32} {Q : Int32 → MW → Prop} (h : RoM w g rs) (hx : rs[r]? = some x) (hr : RI.toInt = (r : Int)) (h1 : A.toInt ∈ x.1 → ∀ y : Int32, ¬ y.toInt = 0 → Q y w) (h0 : ¬ A.toInt ∈ x.1 → ∀ y : Int32, y.toInt = 0 → Q y w) : p_Mr_hasAct w RI A Q := by
  have lt := rs_lt hx
  have l4 := h.2.2.2.1
  have g1 := h.1
  have e40 := ti_mul2 (show (40 : Int32).toInt = 40 by decide) h.2.1 (by omega) (by omega)
  have e := ti_add2 e40 hr (by omega) (by omega)
  have t := (h.2.2.2.2 r x hx).1
  have l8 := t.2.2.1
  refine Eq.mpr (p_Mr_hasAct.eq_1 _ _ _ _) (ha_16 (n := FU) t g1 (by omega) (by rw [e]; omega) (Eq.refl A.toInt) (fun y hy => ?_) 0 0 (Nat.zero_le _) (Or.inr ⟨i_0, fun k hk => absurd hk (Nat.not_lt_zero _)⟩) (Nat.lt_of_le_of_lt (show _ ≤ 8 by omega) (fu_lt (by decide))))
  rcases hy with ⟨y1, m⟩ | ⟨y0, m⟩
  · exact ⟨Or.inr y1, h1 m y (by omega)⟩
  · exact ⟨Or.inl y0, h0 m y y0⟩
theorem mb_14 {w : MW} {g : Nat} {rs : List Rw} {A : Int32} {E : MW → Prop} {Q : Int32 → MW → Prop} (hI : BND w) (hD : DR w) (hR : RoM w g rs) (hE : (∀ (r : Nat) (x : Rw), rs[r]? = some x → ¬ BrW 160 161 162 (sbt (w.1 147 24)) A.toInt w r x) → E w) (hQ : ∀ (r : Nat) (x : Rw), rs[r]? = some x → BrW 160 161 162 (sbt (w.1 147 24)) A.toInt w r x → (∀ (r' : Nat) (x' : Rw), r' < r → rs[r']? = some x' → ¬ BrW 160 161 162 (sbt (w.1 147 24)) A.toInt w r' x') → Q (nI (r + 1)) w) (n : Nat) : ∀ i : Nat, i ≤ rs.length → (∀ (r : Nat) (x : Rw), r < i → rs[r]? = some x → ¬ BrW 160 161 162 (sbt (w.1 147 24)) A.toInt w r x) → rs.length - i < n → q_Mr_act1_14 A E Q n (nI i) w := by
  induction n with
  | zero => intros; omega
  | succ n ih =>
    intro i hi hN hm
    have h4 := hR.2.2.2.1
    have g1 := hR.1
    have ti : (nI i).toInt = (i : Int) := nI_toInt (by omega)
    have tn : (nI i).toInt.toNat = i := by omega
    have l0 := hR.2.2.1
    rw [q_Mr_act1_14.eq_2]
    refine ⟨fun c => hE (fun r x hx => hN r x (by have := rs_lt hx; omega) hx), fun c => ?_⟩
    have il : i < rs.length := by omega
    obtain ⟨x, hx⟩ : ∃ x, rs[i]? = some x := ⟨_, List.getElem?_eq_getElem il⟩
    have t := hR.2.2.2.2 i x hx
    have t57 := t.1.2.2.2.2.2
    have bi : 0 ≤ (nI i).toInt ∧ (nI i).toInt < 40 := by omega
    have sk : ¬ BrW 160 161 162 (sbt (w.1 147 24)) A.toInt w i x → q_Mr_act1_14 A E Q n (nI (i + 1)) w := fun np => ih (i + 1) il (fun r y hr hy => by
      by_cases q : r = i
      · rw [q] at hy ⊢
        rw [Option.some.inj (hy.symm.trans hx)]
        exact np
      · exact hN r y (by omega) hy) (by omega)
    have q0 : ¬ BrW 160 161 162 (sbt (w.1 147 24)) A.toInt w i x → q_Mr_act1_76 A (nI i) 0 w (fun (x14_2 : Int32) (w : MW) => q_Mr_act1_14 A E Q n x14_2 w) E Q := fun np => Eq.mpr (q_Mr_act1_76.eq_1 _ _ _ _ _ _ _) ⟨fun _ => by rw [nI_1]; exact sk np, fun z => absurd i_0 z⟩
    have q1 : (A.toInt ∈ x.1 → BrW 160 161 162 (sbt (w.1 147 24)) A.toInt w i x) → q_Mr_act1_76 A (nI i) 1 w (fun (x14_2 : Int32) (w : MW) => q_Mr_act1_14 A E Q n x14_2 w) E Q := fun p => by
      refine Eq.mpr (q_Mr_act1_76.eq_1 _ _ _ _ _ _ _) ⟨fun z => absurd z i1n, fun _ => ?_⟩
      rw [nI_1]
      exact ha_x hR hx ti (fun m y hy => ⟨fun z => absurd z hy, fun _ => hQ i x hx (p m) hN⟩) (fun m y hy => ⟨fun _ => sk (fun z => m z.1), fun z => absurd hy z⟩)
    have e40 := ti_mul2 (show (40 : Int32).toInt = 40 by decide) hR.2.1 (by omega) (by omega)
    have e := ti_add2 e40 ti (by omega) (by omega)
    have en : (((40 : Int32) * (w.1 147 12)) + nI i).toInt.toNat = 40 * g + i := by rw [e]; omega
    rw [tn]
    refine ⟨bi, fun d => q0 (fun p => d p.2.1), fun d => ⟨bi, fun l => q1 (fun m => ⟨m, Classical.not_not.mp d, Or.inl l⟩), fun l => rm_isOn hI hD hR hx ti (fun y hy => ⟨fun z => q0 (fun p => ?_), fun z => ⟨bi, by rw [e]; omega, ?_⟩⟩)⟩⟩
    · rcases p.2.2 with k | k
      · exact l k
      · exact absurd (k.2.symm.trans (vf_0 hy z)) (by decide)
    · rw [en]
      refine ⟨fun u => q0 (fun p => ?_), fun u => q1 (fun m => ⟨m, Classical.not_not.mp d, Or.inr ⟨by omega, vt_1 hy z⟩⟩)⟩
      rcases p.2.2 with k | k
      · exact l k
      · have := k.1
        omega
/-- the reference's bars -/
theorem mb_bars {w : MW} {g : Nat} {rs : List Rw} {A : Int32} {Q : Int32 → MW → Prop} (hI : BND w) (hD : DR w) (hR : RoM w g rs) (h1 : (A.toInt < 0 ∨ 32 ≤ A.toInt) → Q (-1) w) (h2 : 0 ≤ A.toInt → A.toInt < 32 → ∀ y, FsB (BrW 160 161 162 (sbt (w.1 147 24)) A.toInt w) rs y.toInt → Q y w) : p_Mr_act1 w A Q := by
  have h4 := hR.2.2.2.1
  refine Eq.mpr (p_Mr_act1.eq_1 _ _ _) ⟨fun c => h1 (Or.inl c), fun c => ⟨fun d => ?_, fun d => h1 (Or.inr (by omega))⟩⟩
  exact mb_14 (n := FU) hI hD hR (fun no => h2 (by omega) (by omega) 0 (Or.inr ⟨no, i_0⟩)) (fun r x hx p np => h2 (by omega) (by omega) _ (Or.inl ⟨r, x, hx, p, np, by
    have := rs_lt hx
    rw [nI_toInt (by omega)]
    omega⟩)) 0 (Nat.zero_le _) (fun r x h => absurd h (Nat.not_lt_zero _)) (Nat.lt_of_le_of_lt (show _ ≤ 40 by omega) (fu_lt (by decide)))
/-- row r - 1 may be reset; kb the cell of latched -/
def RsT (kb : Nat) (s : Int → Bool) (rs : List Rw) (w : MW) (a : Int) : Prop := ∃ (r : Nat) (x : Rw), a = (r : Int) + 1 ∧ rs[r]? = some x ∧ ¬ (w.1 kb r).toInt = 0 ∧ vS s x.2.1 = false
def RsP (kb : Nat) (s : Int → Bool) (rs : List Rw) (w : MW) (a : Int32) (y : Int32) (w' : MW) : Prop := (RsT kb s rs w a.toInt ∧ y = 1 ∧ w' = sI w kb (a - (1 : Int32)).toInt.toNat 0) ∨ (¬ RsT kb s rs w a.toInt ∧ y = 0 ∧ w' = w)
theorem rt_i {a : Int32} {n : Nat} (h1 : ¬ a.toInt < 1) (h2 : ¬ (n : Int) < a.toInt) (n4 : n ≤ 40) : ∃ r : Nat, r < n ∧ a.toInt = (r : Int) + 1 ∧ (a - (1 : Int32)).toInt = (r : Int) ∧ (a - (1 : Int32)).toInt.toNat = r := by
  have e := ti_sub2 (Eq.refl a.toInt) i_1 (by omega) (by omega)
  exact ⟨(a.toInt - 1).toNat, by omega, by omega, by omega, by omega⟩
theorem rt_no {kb : Nat} {s : Int → Bool} {rs : List Rw} {w : MW} {a : Int} (h : a < 1 ∨ (rs.length : Int) < a) : ¬ RsT kb s rs w a := fun ⟨r, x, e, hx, _⟩ => by
  have := rs_lt hx
  omega
theorem rt_r {kb : Nat} {s : Int → Bool} {rs : List Rw} {w : MW} {a : Int} {r : Nat} {x : Rw} (e : a = (r : Int) + 1) (hx : rs[r]? = some x) (h : RsT kb s rs w a) : ¬ (w.1 kb r).toInt = 0 ∧ vS s x.2.1 = false := by
  obtain ⟨r', x', e', hx', h1, h2⟩ := h
  have : r' = r := by omega
  rw [this] at hx' h1
  rw [Option.some.inj (hx'.symm.trans hx)] at h2
  exact ⟨h1, h2⟩
theorem cb_reset {w : MW} {rs : List Rw} {a : Int32} {Q : Int32 → MW → Prop} (h4 : w.2.2 47 3 = some 48) (hS : RsC w rs) (hg : GrS rs) (hQ : ∀ y w', RsP 50 (sbt (w.1 48 1)) rs w a y w' → Q y w') : p_Bh_reset w a Q := by
  have l0 := hS.1
  have l4 := hg.1
  have no : ¬ RsT 50 (sbt (w.1 48 1)) rs w a.toInt → Q 0 w := fun n => hQ 0 w (Or.inr ⟨n, rfl, rfl⟩)
  refine Eq.mpr (p_Bh_reset.eq_1 _ _ _) ⟨h4, Eq.mpr (p_Ro_has.eq_1 _ _ _) ⟨fun c => ⟨fun _ => no (rt_no (Or.inl c)), fun z => absurd i_0 z⟩, fun c => ⟨fun d => ⟨fun _ => no (rt_no (Or.inr (by omega))), fun z => absurd i_0 z⟩, fun d => ⟨fun z => absurd z i1n, fun _ => ?_⟩⟩⟩⟩
  obtain ⟨r, rl, ea, er, en⟩ := rt_i (n := rs.length) c (by omega) l4
  obtain ⟨x, hx⟩ : ∃ x, rs[r]? = some x := ⟨_, List.getElem?_eq_getElem rl⟩
  have bi : 0 ≤ (a - (1 : Int32)).toInt ∧ (a - (1 : Int32)).toInt < 40 := by omega
  refine ⟨bi, ?_⟩
  rw [nar0z]
  refine ⟨fun z => no (fun t => (rt_r ea hx t).1 (by rw [en] at z; exact z)), fun z => rs_isOn hS hg hx er (fun y hy => ⟨fun v => ⟨bi, hQ 1 _ (Or.inl ⟨⟨r, x, ea, hx, by rw [en] at z; exact z, vf_0 hy v⟩, rfl, rfl⟩)⟩, fun v => no (fun t => ?_)⟩)⟩
  exact absurd ((rt_r ea hx t).2.symm.trans (vt_1 hy v)) (by decide)
theorem mb_reset {w : MW} {g : Nat} {rs : List Rw} {a : Int32} {Q : Int32 → MW → Prop} (hI : BND w) (hD : DR w) (hR : RoM w g rs) (hQ : ∀ y w', RsP 161 (sbt (w.1 147 24)) rs w a y w' → Q y w') : p_Mo_reset w a Q := by
  have l0 := hR.2.2.1
  have l4 := hR.2.2.2.1
  have no : ¬ RsT 161 (sbt (w.1 147 24)) rs w a.toInt → Q 0 w := fun n => hQ 0 w (Or.inr ⟨n, rfl, rfl⟩)
  refine Eq.mpr (p_Mo_reset.eq_1 _ _ _) (Eq.mpr (p_Mr_reset.eq_1 _ _ _) (Eq.mpr (p_Mr_isRow.eq_1 _ _ _) ⟨fun c => ⟨fun _ => no (rt_no (Or.inl c)), fun z => absurd i_0 z⟩, fun c => ⟨fun d => ⟨fun _ => no (rt_no (Or.inr (by omega))), fun z => absurd i_0 z⟩, fun d => ⟨fun z => absurd z i1n, fun _ => ?_⟩⟩⟩))
  obtain ⟨r, rl, ea, er, en⟩ := rt_i (n := rs.length) c (by omega) l4
  obtain ⟨x, hx⟩ : ∃ x, rs[r]? = some x := ⟨_, List.getElem?_eq_getElem rl⟩
  have bi : 0 ≤ (a - (1 : Int32)).toInt ∧ (a - (1 : Int32)).toInt < 40 := by omega
  refine ⟨bi, ?_⟩
  rw [nar0z]
  refine ⟨fun z => no (fun t => (rt_r ea hx t).1 (by rw [en] at z; exact z)), fun z => rm_isOn hI hD hR hx er (fun y hy => ⟨fun v => ⟨bi, hQ 1 _ (Or.inl ⟨⟨r, x, ea, hx, by rw [en] at z; exact z, vf_0 hy v⟩, rfl, rfl⟩)⟩, fun v => no (fun t => ?_)⟩)⟩
  exact absurd ((rt_r ea hx t).2.symm.trans (vt_1 hy v)) (by decide)
/-- what row tells -/
def rwv (b c l p : Int) (v : Bool) : Int := if b = 0 then c else if b = 1 then (if l = 0 then 0 else 1) else if b = 2 then p else if b = 3 then (if v = true then 1 else 0) else -1
def RwV (ka kb kc : Nat) (s : Int → Bool) (rs : List Rw) (w : MW) (a b y : Int) : Prop := (∃ (r : Nat) (x : Rw), a = (r : Int) + 1 ∧ rs[r]? = some x ∧ y = rwv b (w.1 ka r).toInt (w.1 kb r).toInt (w.1 kc r).toInt (vS s x.2.1)) ∨ ((a < 1 ∨ (rs.length : Int) < a) ∧ y = -1)
theorem rwv_0 {b c l p : Int} {v : Bool} (h : b = 0) : rwv b c l p v = c := by
  unfold rwv
  rw [if_pos h]
theorem rwv_1 {b c l p : Int} {v : Bool} (h : b = 1) : rwv b c l p v = if l = 0 then 0 else 1 := by
  unfold rwv
  rw [if_neg (by omega), if_pos h]
theorem rwv_2 {b c l p : Int} {v : Bool} (h : b = 2) : rwv b c l p v = p := by
  unfold rwv
  rw [if_neg (by omega), if_neg (by omega), if_pos h]
theorem rwv_3 {b c l p : Int} {v : Bool} (h : b = 3) : rwv b c l p v = if v = true then 1 else 0 := by
  unfold rwv
  rw [if_neg (by omega), if_neg (by omega), if_neg (by omega), if_pos h]
theorem rwv_4 {b c l p : Int} {v : Bool} (h : b < 0 ∨ 3 < b) : rwv b c l p v = -1 := by
  unfold rwv
  rw [if_neg (by omega), if_neg (by omega), if_neg (by omega), if_neg (by omega)]
theorem in1 : (-1 : Int32).toInt = -1 := by decide
theorem cb_row {w : MW} {rs : List Rw} {a b : Int32} {Q : Int32 → MW → Prop} (h4 : w.2.2 47 3 = some 48) (hS : RsC w rs) (hg : GrS rs) (hQ : ∀ y : Int32, RwV 49 50 51 (sbt (w.1 48 1)) rs w a.toInt b.toInt y.toInt → Q y w) : p_Bh_row w a b Q := by
  have l0 := hS.1
  have l4 := hg.1
  have no : (a.toInt < 1 ∨ (rs.length : Int) < a.toInt) → Q (-1) w := fun n => hQ _ (Or.inr ⟨n, in1⟩)
  refine Eq.mpr (p_Bh_row.eq_1 _ _ _ _) ⟨h4, Eq.mpr (p_Ro_has.eq_1 _ _ _) ⟨fun c => ⟨fun z => absurd i_0 z, fun _ => no (Or.inl c)⟩, fun c => ⟨fun d => ⟨fun z => absurd i_0 z, fun _ => no (Or.inr (by omega))⟩, fun d => ⟨fun _ => ?_, fun z => absurd i1n z⟩⟩⟩⟩
  obtain ⟨r, rl, ea, er, en⟩ := rt_i (n := rs.length) c (by omega) l4
  obtain ⟨x, hx⟩ : ∃ x, rs[r]? = some x := ⟨_, List.getElem?_eq_getElem rl⟩
  have bi : 0 ≤ (a - (1 : Int32)).toInt ∧ (a - (1 : Int32)).toInt < 40 := by omega
  have ok : ∀ y : Int32, y.toInt = rwv b.toInt (w.1 49 r).toInt (w.1 50 r).toInt (w.1 51 r).toInt (vS (sbt (w.1 48 1)) x.2.1) → Q y w := fun y e => hQ y (Or.inl ⟨r, x, ea, hx, e⟩)
  rw [en]
  refine ⟨fun z => ⟨bi, ok _ (rwv_0 z).symm⟩, fun z0 => ⟨fun z => ⟨bi, fun l => ok 0 ?_, fun l => ok 1 ?_⟩, fun z1 => ⟨fun z => ⟨bi, ok _ (rwv_2 z).symm⟩, fun z2 => ⟨fun z => rs_isOn hS hg hx er (fun y hy => ⟨fun v => ok 0 ?_, fun v => ok 1 ?_⟩), fun z3 => ?_⟩⟩⟩⟩
  · rw [rwv_1 z, if_pos l]
    exact i_0
  · rw [rwv_1 z, if_neg l]
    exact i_1
  · rw [rwv_3 z, vf_0 hy v]
    exact i_0
  · rw [rwv_3 z, vt_1 hy v]
    exact i_1
  · by_cases q : b.toInt < 0 ∨ 3 < b.toInt
    · exact ok (-1) ((in1).trans (rwv_4 q).symm)
    · omega
theorem mb_row {w : MW} {g : Nat} {rs : List Rw} {a b : Int32} {Q : Int32 → MW → Prop} (hI : BND w) (hD : DR w) (hR : RoM w g rs) (hQ : ∀ y : Int32, RwV 160 161 162 (sbt (w.1 147 24)) rs w a.toInt b.toInt y.toInt → Q y w) : p_Mo_row w a b Q := by
  have l0 := hR.2.2.1
  have l4 := hR.2.2.2.1
  have no : (a.toInt < 1 ∨ (rs.length : Int) < a.toInt) → Q (-1) w := fun n => hQ _ (Or.inr ⟨n, in1⟩)
  refine Eq.mpr (p_Mo_row.eq_1 _ _ _ _) ⟨fun c => no (Or.inl c), fun c => ⟨fun d => no (Or.inr (by omega)), fun d => ?_⟩⟩
  obtain ⟨r, rl, ea, er, en⟩ := rt_i (n := rs.length) c (by omega) l4
  obtain ⟨x, hx⟩ : ∃ x, rs[r]? = some x := ⟨_, List.getElem?_eq_getElem rl⟩
  have bi : 0 ≤ (a - (1 : Int32)).toInt ∧ (a - (1 : Int32)).toInt < 40 := by omega
  have ok : ∀ y : Int32, y.toInt = rwv b.toInt (w.1 160 r).toInt (w.1 161 r).toInt (w.1 162 r).toInt (vS (sbt (w.1 147 24)) x.2.1) → Q y w := fun y e => hQ y (Or.inl ⟨r, x, ea, hx, e⟩)
  rw [en]
  refine ⟨fun z => ok (-1) (in1.trans (rwv_4 (Or.inl z)).symm), fun b0 => ⟨fun b3 => ⟨fun z0 => ⟨fun z1 => ⟨fun z2 => rm_isOn hI hD hR hx er (fun y hy => ⟨fun v => ok 0 ?_, fun v => ok 1 ?_⟩), fun z2 => ⟨bi, ok _ (rwv_2 (Classical.not_not.mp z2)).symm⟩⟩, fun z1 => ⟨bi, fun l => ok 0 ?_, fun l => ok 1 ?_⟩⟩, fun z0 => ⟨bi, ok _ (rwv_0 (Classical.not_not.mp z0)).symm⟩⟩, fun b3 => ok (-1) (in1.trans (rwv_4 (Or.inr (by omega))).symm)⟩⟩
  · rw [rwv_3 (by omega), vf_0 hy v]
    exact i_0
  · rw [rwv_3 (by omega), vt_1 hy v]
    exact i_1
  · rw [rwv_1 (Classical.not_not.mp z1), if_pos l]
    exact i_0
  · rw [rwv_1 (Classical.not_not.mp z1), if_neg l]
    exact i_1
/-! tick: the passes -/
def ctN : Nat → Int → Int
  | 0, p => p
  | n + 1, p => ctP (ctN n p)
/-- what a tick makes of the passes; k their cell -/
def TkP (k : Nat) (rs : List Rw) (w w' : MW) (a : Int32) : Prop := (0 ≤ a.toInt ∧ a.toInt ≤ 600 ∧ ∀ r : Nat, r < rs.length → (w'.1 k r).toInt = ctN a.toInt.toNat (w.1 k r).toInt) ∨ ((a.toInt < 0 ∨ 600 < a.toInt) ∧ ∀ r : Nat, r < rs.length → w'.1 k r = w.1 k r)
theorem cse_p {ka kb kc : Nat} {s : Int → Bool} {rs : List Rw} {w w' : MW} (h : CsE ka kb kc s rs w w') (r : Nat) (hr : r < rs.length) : (w'.1 kc r).toInt = ctP (w.1 kc r).toInt := (h r _ (List.getElem?_eq_getElem hr)).2.2
theorem cp_tick15 {a : Int32} {w0 : MW} {rs : List Rw} {E : MW → Prop} {Q : Int32 → MW → Prop} (hS : RsC w0 rs) (hg : GrS rs) (a0 : 0 ≤ a.toInt) (a1 : a.toInt ≤ 600) (hE : ∀ w', CI w' → FR l_Bh_tick w0 w' → (∀ r : Nat, r < rs.length → (w'.1 51 r).toInt = ctN a.toInt.toNat (w0.1 51 r).toInt) → E w') (n : Nat) : ∀ (i : Nat) (w : MW), CI w → FR l_Bh_tick w0 w → (∀ r : Nat, r < rs.length → (w.1 51 r).toInt = ctN i (w0.1 51 r).toInt) → (i : Int) ≤ a.toInt → 601 - i < n → q_Bh_tick_15 a E Q n (nI i) w := by
  induction n with
  | zero => intros; omega
  | succ n ih =>
    intro i w h hF hu i1 hm
    have ti : (nI i).toInt = (i : Int) := nI_toInt (by omega)
    rw [q_Bh_tick_15.eq_2, nI_1]
    refine ⟨fun c => hE w h hF (by rw [show a.toInt.toNat = i by omega]; exact hu), fun ci => ?_⟩
    have S := h.2.1.2.2.2.2.2.2.2
    have nxt : ∀ w', CI w' → FR l_Bh_tick w0 w' → (∀ r : Nat, r < rs.length → (w'.1 51 r).toInt = ctN (i + 1) (w0.1 51 r).toInt) → p_Wa_move w' (fun w8 => (q_Bh_tick_15 a E Q n (nI (i + 1)) (sI w8 7 1 ((w8.1 7 1) + (1 : Int32))))) := fun w' h' hF' hu' => h_Wa_move h'.1 h'.2.1.2.2.2.2.2.2.2.2.1 (fun w8 hB8 hF8 => by
      have h8 := ci_fr h' hF8 hB8 rfl
      have F9 : FR [(7, some 1)] w8 (sI w8 7 1 ((w8.1 7 1) + (1 : Int32))) := FR.I (FR.refl _ w8) rfl
      exact ih _ _ (ci_fr h8 F9 (wbd_7_1 h8.1) rfl) ((hF'.tr hF8 rfl).tr F9 rfl) (fun r hr => by rw [(F9 51 r rfl).1, (hF8 51 r rfl).1]; exact hu' r hr) (by omega) (by omega))
    refine h_Bh_senseAll h.1 S.2.2 S.1 S.2.1 (fun w4 hB4 hF4 => ?_)
    have h4 := ci_fr h hF4 hB4 rfl
    have F4 : FR l_Bh_tick w0 w4 := hF.tr hF4 rfl
    refine ⟨h4.2.1.2.2.2.2.2.2.2.2.2, cc_count hB4 (rsc_fr hS F4 rfl) hg (fun w6 hB6 hF6 c6 => ?_)⟩
    have h6 := ci_fr h4 hF6 hB6 rfl
    have F6 : FR l_Bh_tick w0 w6 := F4.tr hF6 rfl
    have u6 : ∀ r : Nat, r < rs.length → (w6.1 51 r).toInt = ctN (i + 1) (w0.1 51 r).toInt := fun r hr => by
      rw [cse_p c6 r hr, (hF4 51 r rfl).1, hu r hr]
      rfl
    refine ⟨fun _ => nxt w6 h6 F6 u6, fun c => ?_⟩
    have c0 : (w6.1 61 4).toInt = 0 := Classical.not_not.mp c
    have q6 : RLz w6 ∧ RnI w6 := h6.2.2.2.1.resolve_right (fun f => by have := f.2; omega)
    have q := q6.2 (Or.inl c0)
    obtain ⟨L, hL⟩ := q.2
    refine cr_walk (L := L) ⟨h6.1, ⟨q6.1, h6.2.1⟩, h6.2.2.1, hL⟩ (by have := q.1; omega) (fun w9 L9 t9 e9 => ?_)
    have h9r : CrI w9 := ⟨t9.1.1, t9.1.2.1, t9.1.2.2.1, fun _ => ⟨e9.trans q.1, L9, t9.1.2.2.2⟩⟩
    have h9 : CI w9 := cri_ci h9r (h6.2.2.2.2.fr t9.2.1 rfl)
    have F9 : FR l_Bh_tick w0 w9 := F6.tr t9.2.1 rfl
    have u9 : ∀ r : Nat, r < rs.length → (w9.1 51 r).toInt = ctN (i + 1) (w0.1 51 r).toInt := fun r hr => by rw [(t9.2.1 51 r rfl).1]; exact u6 r hr
    have c73 : q_Bh_tick_73 a (nI i) w9 (fun (x15_2 : Int32) (w : MW) => q_Bh_tick_15 a E Q n x15_2 w) E Q := Eq.mpr (q_Bh_tick_73.eq_1 _ _ _ _ _ _) (by
      rw [nI_1]
      exact h_Wa_closeAll h9.1 h9.2.1.2.2.2.2.2.2.1 h9.2.2.1 h9.2.1.2.2.2.2.2.2.2.2.1 (fun w11 hB11 hF11 hW11 => nxt w11 (ci_wo h9 hF11 hB11 hW11 rfl) (F9.tr hF11 rfl) (fun r hr => by rw [(hF11 51 r rfl).1]; exact u9 r hr)))
    exact ⟨fun _ => c73, fun _ => ⟨fun _ => nxt w9 h9 F9 u9, fun _ => c73⟩⟩
theorem cp_tick {w : MW} {a : Int32} {rs : List Rw} {Q : Int32 → MW → Prop} (h : CI w) (hS : RsC w rs) (hg : GrS rs) (hQ : ∀ (r : Int32) (w' : MW), CI w' → FR l_Bh_tick w w' → TkP 51 rs w w' a → Q r w') : p_Bh_tick w a Q :=
  Eq.mpr (p_Bh_tick.eq_1 _ _ _) ⟨fun _ => hQ _ w h (FR.refl _ w) (Or.inr ⟨by omega, fun _ _ => rfl⟩), fun _ => ⟨fun c => cp_tick15 hS hg (by omega) c (fun w' h' F' hu => hQ _ w' h' F' (Or.inl ⟨by omega, c, hu⟩)) FU 0 w h (FR.refl _ w) (fun _ _ => rfl) (by omega) (fu_lt (by decide)), fun _ => hQ _ w h (FR.refl _ w) (Or.inr ⟨by omega, fun _ _ => rfl⟩)⟩⟩
theorem mp_67 {a b : Int32} {E : MW → Prop} {Q : Int32 → MW → Prop} {z : MW} {P : MW → Prop} (hP : ∀ w w', P w → (∀ j : Nat, w'.1 162 j = w.1 162 j) → P w') (hE : ∀ w, MdI w → FR ltk z w → P w → E w) (n : Nat) : ∀ (k : Int32) (w : MW), MdI w → FR ltk z w → P w → 0 ≤ k.toInt → k.toInt ≤ 24 → (24 - k.toInt).toNat < n → q_Mo_tick_67 a b E Q n k w := by
  induction n with
  | zero => intros; omega
  | succ n ih =>
    intro k w h hF hu k0 k1 hm
    rw [q_Mo_tick_67.eq_2]
    refine ⟨fun _ => hE w h hF hu, fun c => ?_⟩
    have b26 := bd_127_26 h.1
    have e : (k + (1 : Int32)).toInt = k.toInt + 1 := ti_add2 rfl (by decide) (by omega) (by omega)
    exact h_Mo_flow h.1 h.2.2.2.1.2.1 k0 (by omega) (by omega) (fun w' hI' hF' => ih _ w' (MdI_fr hF' hI' rfl h) (hF.tr hF' rfl) (hP w w' hu (fun j => (hF' 162 j rfl).1)) (by omega) (by omega) (by omega))
theorem mp_15 {a : Int32} {E : MW → Prop} {Q : Int32 → MW → Prop} {z : MW} {g : Nat} {rs : List Rw} (hR : RoM z g rs) (ha : a.toInt ≤ 600) (a0 : 0 ≤ a.toInt) (hE : ∀ w, MdI w → FR ltk z w → (∀ r : Nat, r < rs.length → (w.1 162 r).toInt = ctN a.toInt.toNat (z.1 162 r).toInt) → E w) (n : Nat) : ∀ (i : Nat) (w : MW), MdI w → FR ltk z w → (∀ r : Nat, r < rs.length → (w.1 162 r).toInt = ctN i (z.1 162 r).toInt) → (i : Int) ≤ a.toInt → 600 - i < n → q_Mo_tick_15 a E Q n (nI i) w := by
  induction n with
  | zero => intros; omega
  | succ n ih =>
    intro i w h hF hu k1 hm
    have ti : (nI i).toInt = (i : Int) := nI_toInt (by omega)
    rw [q_Mo_tick_15.eq_2, nI_1]
    refine ⟨fun c => hE w h hF (by rw [show a.toInt.toNat = i by omega]; exact hu), fun c => ?_⟩
    refine h_Mo_senseAll h.1 (fun w4 hI4 hF4 => ?_)
    have h4 := MdI_fr hF4 hI4 rfl h
    have G4 : FR ltk z w4 := hF.tr hF4 rfl
    have R4 : RoM w4 g rs := rom_k hR (G4 147 12 rfl).1 (G4 147 20 rfl).1 (KR.fr G4 rfl)
    refine cm_count hI4 h4.2.2.2.1.1 R4 (fun w5 hI5 hF5 c5 => ?_)
    have h5 := MdI_fr hF5 hI5 rfl h4
    have hG := G4.tr hF5 rfl
    have u5 : ∀ r : Nat, r < rs.length → (w5.1 162 r).toInt = ctN (i + 1) (z.1 162 r).toInt := fun r hr => by
      rw [cse_p c5 r hr, (hF4 162 r rfl).1, hu r hr]
      rfl
    have fl : ∀ w1 : MW, MdI w1 → FR ltk z w1 → (∀ r : Nat, r < rs.length → (w1.1 162 r).toInt = ctN (i + 1) (z.1 162 r).toInt) → q_Mo_tick_67 a (nI i) (fun (w9 : MW) => (q_Mo_tick_15 a E Q n (nI (i + 1)) (sI w9 127 78 ((w9.1 127 78) + (1 : Int32))))) Q FU 0 w1 := fun w1 h1 hF1 hu1 => mp_67 (z := z) (P := fun w => ∀ r : Nat, r < rs.length → (w.1 162 r).toInt = ctN (i + 1) (z.1 162 r).toInt) (fun w w' p e r hr => by rw [e r]; exact p r hr) (fun w9 h9 hF9 hu9 => ih _ _ (MdI_fr (l := [(127, some 78)]) (FR.I (FR.refl _ w9) rfl) (wbd_127_78 h9.1) rfl h9) (FR.I hF9 rfl) (fun r hr => by rw [sI_oth _ _ _ _ _ _ (by decide)]; exact hu9 r hr) (by omega) (by omega)) FU 0 w1 h1 hF1 hu1 (by decide) (by decide) (fu_lt (by decide))
    refine ⟨fun _ => fl w5 h5 hG u5, fun c0 => g_walk2 (h5.rn (Or.inl (Classical.not_not.mp c0))) (fun w10 h10 hF10 => ?_)⟩
    have hH := hG.tr hF10 rfl
    have u10 : ∀ r : Nat, r < rs.length → (w10.1 162 r).toInt = ctN (i + 1) (z.1 162 r).toInt := fun r hr => by rw [(hF10 162 r rfl).1]; exact u5 r hr
    have cl : q_Mo_tick_60 a (nI i) w10 (fun (x15_2 : Int32) (w : MW) => q_Mo_tick_15 a E Q n x15_2 w) E Q := by
      refine Eq.mpr (q_Mo_tick_60.eq_1 _ _ _ _ _ _) (h_Mo_closeAll h10.1 h10.2.2.2.2.2.2.1 h10.2.2.2.2.2.2.2.1 (fun w12 hI12 hF12 hT12 hH12 => ?_))
      rw [nI_1]
      exact fl w12 (MdI_fw hF12 hI12 rfl hT12 hH12 h10.md) (hH.tr hF12 rfl) (fun r hr => by rw [(hF12 162 r rfl).1]; exact u10 r hr)
    exact ⟨fun _ => cl, fun _ => ⟨fun _ => fl w10 h10.md hH u10, fun _ => cl⟩⟩
theorem mp_tick {w : MW} {a : Int32} {g : Nat} {rs : List Rw} {Q : Int32 → MW → Prop} (h : MdJ w) (hR : RoM w g rs) (hQ : ∀ (r : Int32) (w' : MW), MdJ w' → FR ltk w w' → TkP 162 rs w w' a → Q r w') : p_Mo_tick w a Q :=
  Eq.mpr (p_Mo_tick.eq_1 _ _ _) ⟨fun c => hQ _ w h (FR.refl _ w) (Or.inr ⟨by omega, fun _ _ => rfl⟩), fun c0 => ⟨fun c => mp_15 (z := w) hR c (by omega) (fun w' h' hF' hu => hQ _ w' (mj_tk h h' hF' rfl) hF' (Or.inl ⟨by omega, c, hu⟩)) FU 0 w h.1 (FR.refl _ w) (fun _ _ => rfl) (by omega) (fu_lt (by decide)), fun c => hQ _ w h (FR.refl _ w) (Or.inr ⟨by omega, fun _ _ => rfl⟩)⟩⟩
