/-! the value of a condition: the postfix list run over a stack; the reference's value tells it -/
def stp (s : Int → Bool) (c : Int) (st : List Bool) : List Bool := if c = 16 then (match st with | x :: r => (!x) :: r | [] => []) else if c = 17 then (match st with | y :: x :: r => (x && y) :: r | r => r) else if c = 18 then (match st with | y :: x :: r => (x || y) :: r | r => r) else s c :: st
def rnS (s : Int → Bool) : List Int → List Bool → List Bool
  | [], st => st
  | c :: l, st => rnS s l (stp s c st)
theorem rnS_a (s : Int → Bool) : ∀ (l1 l2 : List Int) (st : List Bool), rnS s (l1 ++ l2) st = rnS s l2 (rnS s l1 st) := by
  intro l1
  induction l1 with
  | nil => exact fun _ _ => rfl
  | cons c l ih => exact fun l2 st => ih l2 (stp s c st)
theorem rn_16 {s : Int → Bool} {l : List Int} {b : Bool} (h : ∀ st, rnS s l st = b :: st) (st : List Bool) : rnS s (l ++ [16]) st = (!b) :: st := by
  rw [rnS_a, h]
  rfl
theorem rn_17 {s : Int → Bool} {l1 l2 : List Int} {a b : Bool} (h : ∀ st, rnS s l1 st = a :: st) (h2 : ∀ st, rnS s l2 st = b :: st) (st : List Bool) : rnS s (l1 ++ l2 ++ [17]) st = (a && b) :: st := by
  rw [rnS_a, rnS_a, h, h2]
  rfl
theorem rn_18 {s : Int → Bool} {l1 l2 : List Int} {a b : Bool} (h : ∀ st, rnS s l1 st = a :: st) (h2 : ∀ st, rnS s l2 st = b :: st) (st : List Bool) : rnS s (l1 ++ l2 ++ [18]) st = (a || b) :: st := by
  rw [rnS_a, rnS_a, h, h2]
  rfl
theorem rn_c {s : Int → Bool} {c : Int} (h : c ≤ 15) (st : List Bool) : rnS s [c] st = s c :: st := by
  show stp s c st = s c :: st
  unfold stp
  rw [if_neg (by omega), if_neg (by omega), if_neg (by omega)]
theorem tr_v {w : MW} {lo : Int} (s : Int → Bool) : ∀ (k : Nat) (x : Int) (l : List Int), TRe w lo k x l → ∃ b, ∀ st, rnS s l st = b :: st := by
  intro k
  induction k with
  | zero => exact fun x l h => False.elim h
  | succ k ih =>
    intro x l h
    rw [TRe_u] at h
    rcases h.2 with ⟨_, b, el⟩ | ⟨_, _, l1, h1, el⟩ | ⟨a, _, _, l1, l2, h1, h2, el⟩
    · rw [el]
      exact ⟨_, rn_c b⟩
    · obtain ⟨b, hb⟩ := ih _ _ h1
      rw [el]
      exact ⟨_, rn_16 hb⟩
    · obtain ⟨b, hb⟩ := ih _ _ h1
      obtain ⟨c, hc⟩ := ih _ _ h2
      rw [el]
      rcases a with a | a
      · rw [a]
        exact ⟨_, rn_17 hb hc⟩
      · rw [a]
        exact ⟨_, rn_18 hb hc⟩
/-- condition c of the state x -/
def sbt (x : Int32) (c : Int) : Bool := decide (((x >>> ((nI c.toNat) &&& 31)) &&& (1 : Int32)).toInt = 1)
theorem vl_x {w : MW} {lo : Int} (m : Nat) : ∀ (k : Nat) (x : Int32) (l : List Int) (Q Q' : Int32 → MW → Prop), TRe w lo k x.toInt l → pn_Mr_value m w x Q → (∀ (b : Bool) (r : Int32), (∀ st, rnS (sbt (w.1 147 24)) l st = b :: st) → r.toInt = (if b = true then 1 else 0) → Q r w → Q' r w) → pn_Mr_value m w x Q' := by
  induction m with
  | zero => exact fun k x l Q Q' _ h _ => False.elim h
  | succ m ih =>
    intro k x l Q Q' ht h hQ
    cases k with
    | zero => exact False.elim ht
    | succ k =>
      rw [TRe_u] at ht
      rw [pe_Mr_value] at h ⊢
      have h := Eq.mp (pb_Mr_value.eq_1 _ _ _ _) h
      refine Eq.mpr (pb_Mr_value.eq_1 _ _ _ _) ⟨h.1, ?_⟩
      rcases ht.2 with ⟨v0, v15, el⟩ | ⟨v16, _, l1, h1, el⟩ | ⟨v, _, _, l1, l2, h1, h2, el⟩
      · rw [el] at hQ
        refine ⟨fun z => by omega, fun z16 => ⟨fun z => by omega, fun z17 => ⟨fun z => by omega, fun z18 => ⟨h.1, fun z => hQ false 0 ?_ i_0 ((((h.2.2 z16).2 z17).2 z18).2.1 z), fun z => hQ true 1 ?_ i_1 ((((h.2.2 z16).2 z17).2 z18).2.2 z)⟩⟩⟩⟩
        · intro st
          rw [rn_c v15]
          unfold sbt
          rw [nI_tn v0, decide_eq_false z]
        · intro st
          rw [rn_c v15]
          unfold sbt
          rw [nI_tn v0, decide_eq_true (Classical.not_not.mp z)]
      · rw [el] at hQ
        refine ⟨fun z => ⟨h.1, ih k _ l1 _ _ h1 (h.2.1 z).2 (fun b r e er hq => ?_)⟩, fun z => absurd v16 z⟩
        cases b with
        | true => exact ⟨fun y => hQ false 0 (rn_16 e) i_0 (hq.1 y), fun y => absurd (show ¬ r.toInt = 0 by rw [er]; decide) y⟩
        | false => exact ⟨fun y => absurd (show r.toInt = 0 from er) y, fun y => hQ true 1 (rn_16 e) i_1 (hq.2 y)⟩
      · rw [el] at hQ
        obtain ⟨c, hc⟩ := tr_v (sbt (w.1 147 24)) _ _ _ h2
        rcases v with v | v
        · rw [v] at hQ
          refine ⟨fun z => by omega, fun z16 => ⟨fun z => ⟨h.1, ih k _ l1 _ _ h1 ((h.2.2 z16).1 z).2 (fun b r e er hq => ?_)⟩, fun z => absurd v z⟩⟩
          cases b with
          | false => exact ⟨fun y => hQ false 0 (fun st => by rw [rn_17 e hc]; rfl) i_0 (hq.1 y), fun y => absurd (show r.toInt = 0 from er) y⟩
          | true =>
            refine ⟨fun y => absurd y (by rw [er]; decide), fun y => ⟨h.1, ih k _ l2 _ _ h2 (hq.2 y).2 (fun b2 r2 e2 er2 hq2 => ?_)⟩⟩
            cases b2 with
            | false => exact ⟨fun y => hQ false 0 (fun st => by rw [rn_17 e e2]; rfl) i_0 (hq2.1 y), fun y => absurd (show r2.toInt = 0 from er2) y⟩
            | true => exact ⟨fun y => absurd y (by rw [er2]; decide), fun y => hQ true 1 (fun st => by rw [rn_17 e e2]; rfl) i_1 (hq2.2 y)⟩
        · rw [v] at hQ
          refine ⟨fun z => by omega, fun z16 => ⟨fun z => by omega, fun z17 => ⟨fun z => ⟨h.1, ih k _ l1 _ _ h1 (((h.2.2 z16).2 z17).1 z).2 (fun b r e er hq => ?_)⟩, fun z => absurd v z⟩⟩⟩
          cases b with
          | true => exact ⟨fun y => hQ true 1 (fun st => by rw [rn_18 e hc]; rfl) i_1 (hq.1 y), fun y => absurd (show ¬ r.toInt = 0 by rw [er]; decide) y⟩
          | false =>
            refine ⟨fun y => absurd (show r.toInt = 0 from er) y, fun y => ⟨h.1, ih k _ l2 _ _ h2 (hq.2 y).2 (fun b2 r2 e2 er2 hq2 => ?_)⟩⟩
            cases b2 with
            | false => exact ⟨fun y => hQ false 0 (fun st => by rw [rn_18 e e2]; rfl) i_0 (hq2.1 y), fun y => absurd (show r2.toInt = 0 from er2) y⟩
            | true => exact ⟨fun y => absurd y (by rw [er2]; decide), fun y => hQ true 1 (fun st => by rw [rn_18 e e2]; rfl) i_1 (hq2.2 y)⟩
