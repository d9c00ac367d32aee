/-! a litre is pushed through a pipe: the class -/
theorem us_n : ∀ n, n < 64 → (((nI n).toInt64.toUInt64 &&& Int64.toUInt64 63).toBitVec % 64).toNat = n := by decide +kernel
theorem lb_ush (v : Int64) {n : Nat} (hn : n < 64) : (lg_cmp (((v.toUInt64 >>> ((nI n).toInt64.toUInt64 &&& Int64.toUInt64 63)).toInt64) &&& (1 : Int64)) (0 : Int64)).toInt = 0 ↔ lb v n = false := by
  rw [lb_and1]
  have e : ((v.toUInt64 >>> ((nI n).toInt64.toUInt64 &&& Int64.toUInt64 63)).toInt64).toBitVec = v.toBitVec >>> (((nI n).toInt64.toUInt64 &&& Int64.toUInt64 63).toBitVec % 64).toNat := rfl
  unfold lb
  rw [e, us_n n hn, BitVec.getLsbD_ushiftRight, Nat.add_zero]
theorem c63 : ∀ n, n < 256 → (nI n &&& (63 : Int32)) = nI (n % 64) := by decide +kernel
theorem c6 : ∀ n, n < 256 → (nI n >>> ((6 : Int32) &&& 31)) = nI (n / 64) := by decide +kernel
theorem c46 {p n : Nat} (hp : p < 24) (hn : n < 256) : ((nI p * (4 : Int32)) + nI (n / 64)).toInt.toNat = 4 * p + n / 64 := by
  have e1 : (nI p).toInt = (p : Int) := nI_toInt (by omega)
  have e2 : (nI (n / 64)).toInt = ((n / 64 : Nat) : Int) := nI_toInt (by omega)
  have m := ti_mul2 e1 (by decide : ((4 : Int32)).toInt = 4) (by omega) (by omega)
  have a := ti_add2 m e2 (by omega) (by omega)
  omega
/-- a ring -/
theorem md {a b n : Nat} (ha : a < n) (hb : b < n) : (a + b) % n = if a + b < n then a + b else a + b - n := by
  by_cases c : a + b < n
  · rw [if_pos c, Nat.mod_eq_of_lt c]
  · rw [if_neg c, Nat.mod_eq_sub_mod (by omega), Nat.mod_eq_of_lt (by omega)]
def rmC (w : MW) (p : Nat) : Nat := (w.1 12 p).toInt.toNat
def stC (w : MW) (p : Nat) : Nat := (w.1 21 p).toInt.toNat
/-- what lies at place j of a pipe, in the order of the way: forth or back -/
def lp (w : MW) (p : Nat) (d : Bool) (j : Nat) : Bool := cel w p ((stC w p + (if d = true then j else rmC w p - 1 - j)) % rmC w p)
/-- rooms and starts are as they must be -/
def RgP (w : MW) (p : Nat) : Prop := (1 ≤ (w.1 12 p).toInt ∧ (w.1 12 p).toInt ≤ 200) ∧ 0 ≤ (w.1 21 p).toInt ∧ (w.1 21 p).toInt < (w.1 12 p).toInt
/-- the cell that is left next -/
def lvc (w : MW) (p : Nat) (d : Bool) : Nat := (stC w p + (if d = true then rmC w p - 1 else 0)) % rmC w p
theorem lvc_lt {w : MW} {p : Nat} (h : RgP w p) (d : Bool) : lvc w p d < rmC w p ∧ rmC w p ≤ 200 := by
  have h1 := h.1
  refine ⟨Nat.mod_lt _ (by unfold rmC; omega), by unfold rmC; omega⟩
theorem lp_last {w : MW} {p : Nat} (h : RgP w p) (d : Bool) : cel w p (lvc w p d) = lp w p d (rmC w p - 1) := by
  unfold lvc lp
  cases d with
  | true => rfl
  | false => rw [if_neg (by decide), if_neg (by decide), show rmC w p - 1 - (rmC w p - 1) = 0 by omega]
def bD (b : Int32) : Bool := decide (¬ b.toInt = 0)
theorem lvn_x {w : MW} {a b : Int32} {Q Q' : Int32 → MW → Prop} (h : p_St_leavingCell w a b Q) (hg : RgP w a.toInt.toNat) (k : Q (nI (lvc w a.toInt.toNat (bD b))) w → Q' (nI (lvc w a.toInt.toNat (bD b))) w) : p_St_leavingCell w a b Q' := by
  obtain ⟨⟨h1, h2⟩, h3, h4⟩ := hg
  have l := lvc_lt (w := w) (p := a.toInt.toNat) ⟨⟨h1, h2⟩, h3, h4⟩ (bD b)
  have st : (w.1 21 a.toInt.toNat) = nI (stC w a.toInt.toNat) := (nI_tn h3).symm
  rw [p_St_leavingCell.eq_1] at h ⊢
  refine ⟨h.1, h.2.1, fun c => ⟨(h.2.2.1 c).1, ?_⟩, fun c => ⟨fun d => by omega, fun d => ?_⟩⟩
  · have e : nI (lvc w a.toInt.toNat (bD b)) = w.1 21 a.toInt.toNat := by
      rw [st]
      unfold lvc bD
      rw [decide_eq_false (fun z => z c), if_neg (by decide), Nat.add_zero, Nat.mod_eq_of_lt (by unfold stC rmC; omega)]
    rw [e] at k
    exact k (h.2.2.1 c).2
  · have G := (h.2.2.2 c).2 d
    refine ⟨G.1, G.2.1, ?_⟩
    have e1 := ti_add2 (Eq.refl (w.1 21 a.toInt.toNat).toInt) (Eq.refl (w.1 12 a.toInt.toNat).toInt) (by omega) (by omega)
    have e2 := ti_sub2 e1 i_1 (by omega) (by omega)
    have e3 := nb_rem (x := ((w.1 21 a.toInt.toNat) + (w.1 12 a.toInt.toNat)) - (1 : Int32)) (y := w.1 12 a.toInt.toNat) (c := (w.1 12 a.toInt.toNat).toInt) (by omega) rfl (by omega)
    have e : nI (lvc w a.toInt.toNat (bD b)) = ((((w.1 21 a.toInt.toNat) + (w.1 12 a.toInt.toNat)) - (1 : Int32)) - (((w.1 21 a.toInt.toNat) + (w.1 12 a.toInt.toNat)) - (1 : Int32)) / (w.1 12 a.toInt.toNat) * (w.1 12 a.toInt.toNat)) := by
      apply ti_inj
      rw [e3, nI_toInt (by omega), e2]
      unfold lvc bD
      rw [decide_eq_true c, if_pos rfl]
      unfold stC rmC
      rw [Int.natCast_emod]
      congr 1 <;> omega
    rw [e] at k
    exact k G.2.2
theorem isf_x {w : MW} {a : Int32} {c : Nat} {Q Q' : Int32 → MW → Prop} (h : p_St_isFull w a (nI c) Q) (a0 : 0 ≤ a.toInt) (a1 : a.toInt < 24) (hc : c < 200) (k : ∀ r : Int32, (r.toInt = 0 ∨ r.toInt = 1) → (r.toInt = 0 ↔ cel w a.toInt.toNat c = false) → Q r w → Q' r w) : p_St_isFull w a (nI c) Q' := by
  have an : nI a.toInt.toNat = a := nI_tn a0
  have ix : ((a * (4 : Int32)) + nI (c / 64)).toInt.toNat = 4 * a.toInt.toNat + c / 64 := by
    have q := c46 (p := a.toInt.toNat) (n := c) (by omega) (by omega)
    rw [an] at q
    exact q
  rw [p_St_isFull.eq_1, c6 c (by omega), c63 c (by omega)] at h ⊢
  rw [ix] at h ⊢
  have q := lb_ush (w.2.1 20 (4 * a.toInt.toNat + c / 64)) (n := c % 64) (Nat.mod_lt _ (by decide))
  refine ⟨h.1, fun d => k 0 (Or.inl i_0) ⟨fun _ => q.mp d, fun _ => i_0⟩ (h.2.1 d), fun d => k 1 (Or.inr i_1) ⟨fun z => absurd z (by decide), fun z => absurd (q.mpr z) d⟩ (h.2.2 d)⟩
theorem wl_x {w : MW} {a b : Int32} {Q Q' : Int32 → MW → Prop} (h : p_St_wouldLeave w a b Q) (a0 : 0 ≤ a.toInt) (a1 : a.toInt < 24) (hg : RgP w a.toInt.toNat) (k : ∀ r : Int32, (r.toInt = 0 ∨ r.toInt = 1) → (r.toInt = 0 ↔ lp w a.toInt.toNat (bD b) (rmC w a.toInt.toNat - 1) = false) → Q r w → Q' r w) : p_St_wouldLeave w a b Q' := by
  have l := lvc_lt hg (bD b)
  have e := lp_last hg (bD b)
  rw [p_St_wouldLeave.eq_1] at h ⊢
  refine lvn_x h hg (fun g => isf_x g a0 a1 (by omega) (fun r r01 hr g2 => k r r01 ?_ g2))
  rw [← e]
  exact hr
/-! spaces get and lose a litre -/
theorem fgc_2 {z : MW} {x : Int32} {E E' Q Q' : MW → Prop} (x0 : 0 ≤ x.toInt) (x1 : x.toInt < 44) (kE : ∀ w, oI 23 z w → (∀ j, w.1 23 j = if 6 * x.toInt.toNat + 1 ≤ j ∧ j < 6 * x.toInt.toNat + 6 then -1 else z.1 23 j) → E w → E' w) : ∀ (m : Nat) (l : Int32) (w : MW), q_St_forgetCleanings_2 x E Q m l w → 1 ≤ l.toInt → l.toInt ≤ 6 → oI 23 z w → (∀ j, w.1 23 j = if 6 * x.toInt.toNat + 1 ≤ j ∧ j < 6 * x.toInt.toNat + l.toInt.toNat then -1 else z.1 23 j) → q_St_forgetCleanings_2 x E' Q' m l w := by
  intro m
  induction m with
  | zero => exact fun _ _ h _ _ _ _ => False.elim h
  | succ m ih =>
    intro l w h l0 l1 o inv
    rw [q_St_forgetCleanings_2.eq_2] at h ⊢
    refine ⟨fun d => kE w o (fun j => ?_) (h.1 d), fun d => ?_⟩
    · rw [inv j, show l.toInt.toNat = 6 by omega]
    have H := h.2 d
    have el := ti_add2 (Eq.refl l.toInt) i_1 (by omega) (by omega)
    have m1 := ti_mul2 (Eq.refl x.toInt) (by decide : ((6 : Int32)).toInt = 6) (by omega) (by omega)
    have m2 := ti_add2 m1 (Eq.refl l.toInt) (by omega) (by omega)
    have m3 : ((x * (6 : Int32)) + l).toInt.toNat = 6 * x.toInt.toNat + l.toInt.toNat := by omega
    rw [m3] at H ⊢
    refine ⟨H.1, ih _ _ H.2 (by omega) (by omega) ⟨o.1, fun k j hk => ?_⟩ (fun j => ?_)⟩
    · rw [sI_oth _ _ _ _ _ _ hk]
      exact o.2 k j hk
    · rw [sI_if, inv j]
      by_cases q : j = 6 * x.toInt.toNat + l.toInt.toNat
      · have c1 : 6 * x.toInt.toNat + 1 ≤ j ∧ j < 6 * x.toInt.toNat + (l + (1 : Int32)).toInt.toNat := ⟨by omega, by omega⟩
        rw [if_pos q, if_pos c1]
      · rw [if_neg q]
        by_cases c1 : 6 * x.toInt.toNat + 1 ≤ j ∧ j < 6 * x.toInt.toNat + l.toInt.toNat
        · have c2 : 6 * x.toInt.toNat + 1 ≤ j ∧ j < 6 * x.toInt.toNat + (l + (1 : Int32)).toInt.toNat := ⟨c1.1, by have := c1.2; omega⟩
          rw [if_pos c1, if_pos c2]
        · have c2 : ¬ (6 * x.toInt.toNat + 1 ≤ j ∧ j < 6 * x.toInt.toNat + (l + (1 : Int32)).toInt.toNat) := fun z2 => c1 ⟨z2.1, by have := z2.2; omega⟩
          rw [if_neg c1, if_neg c2]
/-- the cleanings of space x are forgotten -/
def FgC (z : MW) (x : Nat) (w : MW) : Prop := oI 23 z w ∧ ∀ j, w.1 23 j = if 6 * x + 1 ≤ j ∧ j < 6 * x + 6 then -1 else z.1 23 j
theorem fgc_x {z : MW} {x : Int32} {Q Q' : MW → Prop} (h : p_St_forgetCleanings z x Q) (x0 : 0 ≤ x.toInt) (x1 : x.toInt < 44) (k : ∀ w, FgC z x.toInt.toNat w → Q w → Q' w) : p_St_forgetCleanings z x Q' := by
  rw [p_St_forgetCleanings.eq_1] at h ⊢
  refine fgc_2 x0 x1 (fun w o e g => k w ⟨o, e⟩ g) _ _ _ h (by decide) (by decide) ⟨rfl, fun _ _ _ => rfl⟩ (fun j => ?_)
  have c1 : ¬ (6 * x.toInt.toNat + 1 ≤ j ∧ j < 6 * x.toInt.toNat + (1 : Int32).toInt.toNat) := fun z2 => by
    have h1 : (1 : Int32).toInt.toNat = 1 := by decide
    have := z2.1
    have := z2.2
    omega
  rw [if_neg c1]
def oSp (z w : MW) (x : Nat) : Prop := w.2 = z.2 ∧ (∀ c j, ¬ c = 17 → ¬ c = 18 → ¬ c = 19 → ¬ c = 23 → w.1 c j = z.1 c j) ∧ (∀ c j, c = 17 ∨ c = 18 ∨ c = 19 → ¬ j = x → w.1 c j = z.1 c j) ∧ ∀ j, ¬ (6 * x + 1 ≤ j ∧ j < 6 * x + 6) → w.1 23 j = z.1 23 j
/-- a space that holds liquid has no cleanings -/
def NoC (z : MW) (x : Nat) : Prop := ¬ (z.1 17 x).toInt = 0 → ∀ l, 1 ≤ l → l ≤ 5 → z.1 23 (6 * x + l) = -1
theorem arr_x {z : MW} {x l n : Int32} {Q Q' : MW → Prop} (h : p_St_arrive z x l n Q) (x0 : 0 ≤ x.toInt) (x1 : x.toInt < 44) (nc : NoC z x.toInt.toNat) (k : ∀ w, oSp z w x.toInt.toNat → w.1 17 x.toInt.toNat = l → w.1 18 x.toInt.toNat = z.1 18 x.toInt.toNat + n → w.1 19 x.toInt.toNat = z.1 19 x.toInt.toNat → (∀ i, 1 ≤ i → i ≤ 5 → w.1 23 (6 * x.toInt.toNat + i) = -1) → Q w → Q' w) : p_St_arrive z x l n Q' := by
  rw [p_St_arrive.eq_1] at h ⊢
  have st : ∀ y : MW, (∀ c j, ¬ c = 23 → y.1 c j = z.1 c j) → y.2 = z.2 → (∀ j, ¬ (6 * x.toInt.toNat + 1 ≤ j ∧ j < 6 * x.toInt.toNat + 6) → y.1 23 j = z.1 23 j) → (∀ i, 1 ≤ i → i ≤ 5 → y.1 23 (6 * x.toInt.toNat + i) = -1) → q_St_arrive_14 x l n y Q → q_St_arrive_14 x l n y Q' := fun y o o2 o3 o4 g => by
    rw [q_St_arrive_14.eq_1] at g ⊢
    refine ⟨g.1, g.2.1, g.2.2.1, k _ ⟨o2, fun c j h1 h2 h3 h4 => ?_, fun c j hc hj => ?_, fun j hj => ?_⟩ ?_ ?_ ?_ (fun i i1 i2 => ?_) g.2.2.2⟩
    · rw [sI_oth _ _ _ _ _ _ h2, sI_oth _ _ _ _ _ _ h1]
      exact o c j h4
    · rw [sI_at, if_neg (fun e => hj e.2), sI_at, if_neg (fun e => hj e.2)]
      exact o c j (by omega)
    · rw [sI_oth _ _ _ _ _ _ (by decide), sI_oth _ _ _ _ _ _ (by decide)]
      exact o3 j hj
    · rw [sI_oth _ _ _ _ _ _ (by decide), sI_same]
    · rw [sI_same, o 18 _ (by decide)]
    · rw [sI_oth _ _ _ _ _ _ (by decide), sI_oth _ _ _ _ _ _ (by decide)]
      exact o 19 _ (by decide)
    · rw [sI_oth _ _ _ _ _ _ (by decide), sI_oth _ _ _ _ _ _ (by decide)]
      exact o4 i i1 i2
  refine ⟨h.1, fun c => st z (fun _ _ _ => rfl) rfl (fun _ _ => rfl) (fun i i1 i2 => nc c i i1 i2) (h.2.1 c), fun c => fgc_x (h.2.2 c) x0 x1 (fun w f g => st w (fun c j hc => f.1.2 c j hc) f.1.1 (fun j hj => by rw [f.2 j, if_neg hj]) (fun i i1 i2 => ?_) g)⟩
  have c1 : 6 * x.toInt.toNat + 1 ≤ 6 * x.toInt.toNat + i ∧ 6 * x.toInt.toNat + i < 6 * x.toInt.toNat + 6 := ⟨by omega, by omega⟩
  rw [f.2, if_pos c1]
/-- one litre leaves a space that holds n of them -/
theorem lve_x {z : MW} {x : Int32} {n : Nat} {Q Q' : MW → Prop} (h : p_St_leave z x 1 Q) (x0 : 0 ≤ x.toInt) (x1 : x.toInt < 44) (nz : ¬ (z.1 17 x.toInt.toNat).toInt = 0) (en : (z.1 18 x.toInt.toNat).toInt = n) (n1 : 1 ≤ n) (nb : n ≤ 1000000) (nc : NoC z x.toInt.toNat) (k : ∀ w, oSp z w x.toInt.toNat → (w.1 18 x.toInt.toNat).toInt = (n : Int) - 1 → w.1 17 x.toInt.toNat = (if n = 1 then 0 else z.1 17 x.toInt.toNat) → w.1 19 x.toInt.toNat = (if n = 1 then z.1 17 x.toInt.toNat else z.1 19 x.toInt.toNat) → (∀ i, 1 ≤ i → i ≤ 5 → w.1 23 (6 * x.toInt.toNat + i) = -1) → Q w → Q' w) : p_St_leave z x 1 Q' := by
  have e1 := ti_sub2 en i_1 (by omega) (by omega)
  rw [p_St_leave.eq_1] at h ⊢
  refine ⟨h.1, fun c => ?_, fun c => absurd nz c⟩
  have H := h.2.1 c
  refine ⟨H.1, ?_⟩
  have H2 := H.2
  have fin : ∀ r : Int32, r.toInt = (n : Int) - 1 → ((0 ≤ x.toInt ∧ x.toInt < 44) ∧ ((0 ≤ x.toInt ∧ x.toInt < 44) ∧ ((¬ ((sI z 18 x.toInt.toNat r).1 18 x.toInt.toNat).toInt = 0 → (Q (sI z 18 x.toInt.toNat r))) ∧ (¬ (¬ ((sI z 18 x.toInt.toNat r).1 18 x.toInt.toNat).toInt = 0) → ((0 ≤ x.toInt ∧ x.toInt < 44) ∧ ((0 ≤ x.toInt ∧ x.toInt < 44) ∧ ((0 ≤ x.toInt ∧ x.toInt < 44) ∧ (p_St_forgetCleanings (sI (sI (sI z 18 x.toInt.toNat r) 19 x.toInt.toNat (z.1 17 x.toInt.toNat)) 17 x.toInt.toNat 0) x (fun w11 => (Q w11)))))))))) → ((0 ≤ x.toInt ∧ x.toInt < 44) ∧ ((0 ≤ x.toInt ∧ x.toInt < 44) ∧ ((¬ ((sI z 18 x.toInt.toNat r).1 18 x.toInt.toNat).toInt = 0 → (Q' (sI z 18 x.toInt.toNat r))) ∧ (¬ (¬ ((sI z 18 x.toInt.toNat r).1 18 x.toInt.toNat).toInt = 0) → ((0 ≤ x.toInt ∧ x.toInt < 44) ∧ ((0 ≤ x.toInt ∧ x.toInt < 44) ∧ ((0 ≤ x.toInt ∧ x.toInt < 44) ∧ (p_St_forgetCleanings (sI (sI (sI z 18 x.toInt.toNat r) 19 x.toInt.toNat (z.1 17 x.toInt.toNat)) 17 x.toInt.toNat 0) x (fun w11 => (Q' w11)))))))))) := fun r er g => by
    rw [sI_same] at g ⊢
    refine ⟨g.1, g.2.1, fun d => ?_, fun d => ?_⟩
    · have n2 : ¬ n = 1 := by omega
      refine k _ ⟨rfl, fun c j _ h2 _ _ => sI_oth _ _ _ _ _ _ h2, fun c j _ hj => ?_, fun j _ => sI_oth _ _ _ _ _ _ (by decide)⟩ ?_ ?_ ?_ (fun i i1 i2 => ?_) (g.2.2.1 d)
      · rw [sI_at, if_neg (fun e => hj e.2)]
      · rw [sI_same]
        exact er
      · rw [sI_oth _ _ _ _ _ _ (by decide), if_neg n2]
      · rw [sI_oth _ _ _ _ _ _ (by decide), if_neg n2]
      · rw [sI_oth _ _ _ _ _ _ (by decide)]
        exact nc nz i i1 i2
    · have G := g.2.2.2 d
      have n2 : n = 1 := by have := Classical.not_not.mp d; omega
      refine ⟨G.1, G.2.1, G.2.2.1, fgc_x G.2.2.2 x0 x1 (fun w f g2 => k w ⟨?_, fun c j h1 h2 h3 h4 => ?_, fun c j hc hj => ?_, fun j hj => ?_⟩ ?_ ?_ ?_ (fun i i1 i2 => ?_) g2)⟩
      · rw [f.1.1]
        rfl
      · rw [f.1.2 c j h4, sI_oth _ _ _ _ _ _ h1, sI_oth _ _ _ _ _ _ h3, sI_oth _ _ _ _ _ _ h2]
      · rw [f.1.2 c j (by omega), sI_at, if_neg (fun e => hj e.2), sI_at, if_neg (fun e => hj e.2), sI_at, if_neg (fun e => hj e.2)]
      · rw [f.2 j, if_neg hj, sI_oth _ _ _ _ _ _ (by decide), sI_oth _ _ _ _ _ _ (by decide), sI_oth _ _ _ _ _ _ (by decide)]
      · rw [f.1.2 18 _ (by decide), sI_oth _ _ _ _ _ _ (by decide), sI_oth _ _ _ _ _ _ (by decide), sI_same]
        exact er
      · rw [f.1.2 17 _ (by decide), sI_same, if_pos n2]
      · rw [f.1.2 19 _ (by decide), sI_oth _ _ _ _ _ _ (by decide), sI_same, if_pos n2]
      · have c1 : 6 * x.toInt.toNat + 1 ≤ 6 * x.toInt.toNat + i ∧ 6 * x.toInt.toNat + i < 6 * x.toInt.toNat + 6 := ⟨by omega, by omega⟩
        rw [f.2, if_pos c1]
  rw [p_Ma_max.eq_1] at H2 ⊢
  refine ⟨fun d => fin _ (by rw [e1]) (H2.1 d), fun d => fin 0 ?_ (H2.2 d)⟩
  rw [i_0] at d ⊢
  omega
