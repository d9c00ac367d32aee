/-! a way flows: the reference -/
/-- litres as bytes -/
def bv (ca : Int32) (b : Bool) : Int32 := if b = true then ca else 0
theorem bv_nar {ca : Int32} (h0 : 0 ≤ ca.toInt) (h1 : ca.toInt ≤ 14) (b : Bool) : vp_nar .byte (bv ca b) = bv ca b := by
  apply ti_inj
  refine nb_byteq ?_ ?_
  · unfold bv
    split
    · omega
    · decide
  · unfold bv
    split
    · omega
    · decide
theorem bv_nb {ca : Int32} (h0 : 0 ≤ ca.toInt) (h1 : ca.toInt ≤ 14) (b : Bool) : vp_nar .byte ((Int32.toInt8 (bv ca b)).toInt32) = bv ca b := by
  apply ti_inj
  refine nby ?_ ?_
  · unfold bv
    split
    · omega
    · decide
  · unfold bv
    split
    · omega
    · decide
theorem bv_0 {ca : Int32} (h : ¬ ca.toInt = 0) (b : Bool) : (bv ca b).toInt = 0 ↔ b = false := by
  unfold bv
  cases b with
  | true =>
    rw [if_pos rfl]
    exact ⟨fun q => absurd q h, fun q => by cases q⟩
  | false =>
    rw [if_neg (by decide)]
    exact ⟨fun _ => rfl, fun _ => i_0⟩
/-- where place j of a pipe with s places lies -/
def pos (e s j : Nat) : Nat := if e % 2 = 0 then j else s - 1 - j
def sM (w : MW) (e : Nat) : Nat := (w.1 169 (e / 2)).toInt.toNat
/-- the line of the reference's way k -/
def ofM (w : MW) (en : Nat → Nat) (i : Nat) : Nat := ofs (fun j => sM w (en j)) i
/-- way k, as the reference has it -/
def WmS (w : MW) (k n : Nat) (en : Nat → Nat) (fr to : Nat) (ca : Int32) : Prop := ((w.1 185 k).toInt = n ∧ (1 ≤ n ∧ n ≤ 24) ∧ k < 24) ∧ (∀ i, i < n → w.1 186 (24 * k + i) = nI (en i) ∧ en i < 48 ∧ 1 ≤ (w.1 169 (en i / 2)).toInt ∧ (w.1 169 (en i / 2)).toInt ≤ 200) ∧ ((w.1 181 k).toInt = fr ∧ (w.1 182 k).toInt = to ∧ (fr : Int) < tM w ∧ (to : Int) < tM w ∧ ¬ fr = to) ∧ w.1 183 k = ca ∧ (1 ≤ ca.toInt ∧ ca.toInt ≤ 14) ∧ (0 ≤ tM w ∧ tM w ≤ 20) ∧ ∀ i j, i < n → j < n → en i / 2 = en j / 2 → i = j
/-- what lies in its pipes -/
def LnM (w : MW) (n : Nat) (en : Nat → Nat) (ca : Int32) (B : Nat → Bool) : Prop := ∀ i, i < n → ∀ j, j < sM w (en i) → w.1 172 (200 * (en i / 2) + pos (en i) (sM w (en i)) j) = bv ca (B (ofM w en i + j))
theorem par2 {e : Nat} (h : e < 48) : (nI e - nI e / (2 : Int32) * (2 : Int32)).toInt = ((e % 2 : Nat) : Int) := by
  have en : (nI e).toInt = (e : Int) := nI_toInt (by omega)
  have q := nb_rem (x := nI e) (y := (2 : Int32)) (c := 2) (by omega) (by decide) (by decide)
  rw [q, en]
  omega
theorem div2 {e : Nat} (h : e < 48) : (nI e / (2 : Int32)).toInt = ((e / 2 : Nat) : Int) := by
  have en : (nI e).toInt = (e : Int) := nI_toInt (by omega)
  rw [nb_div (c := 2) (by omega) (by decide) (by decide), en]
  omega
/-- the index of a place -/
theorem ix172 {p x8 s : Int32} {e j : Nat} {S : Nat} (he : e < 48) (ep : p.toInt = ((e / 2 : Nat) : Int)) (es : s.toInt = (S : Int)) (S1 : 1 ≤ S) (S200 : S ≤ 200) (ej : x8.toInt = (j : Int)) (hj : j < S) : (((200 : Int32) * p) + ((s - (1 : Int32)) - x8)).toInt.toNat = 200 * (e / 2) + (S - 1 - j) ∧ (((200 : Int32) * p) + x8).toInt.toNat = 200 * (e / 2) + j := by
  have m := ti_mul2 (by decide : ((200 : Int32)).toInt = 200) ep (by omega) (by omega)
  have s1 := ti_sub2 es i_1 (by omega) (by omega)
  have s2 := ti_sub2 s1 ej (by omega) (by omega)
  have a1 := ti_add2 m s2 (by omega) (by omega)
  have a2 := ti_add2 m ej (by omega) (by omega)
  omega
/-- the line is read -/
theorem flw_54 {z : MW} {n : Nat} {en : Nat → Nat} {ca : Int32} {B : Nat → Bool} {i : Nat} {x1 x2 x3 x5 e6 p7 : Int32} {E E' : Int32 → MW → Prop} {Q Q' : MW → Prop} (c01 : 0 ≤ ca.toInt ∧ ca.toInt ≤ 14) (hi : i < n) (he : en i < 48) (s1 : 1 ≤ sM z (en i) ∧ sM z (en i) ≤ 200) (eS : (z.1 169 (en i / 2)).toInt = (sM z (en i) : Int)) (e6e : e6 = nI (en i)) (p7e : p7.toInt = ((en i / 2 : Nat) : Int)) (o48 : ofM z en (i + 1) ≤ 4800) (ln : LnM z n en ca B) (kE : ∀ (al : Int32) (w : MW), al.toInt = (ofM z en (i + 1) : Int) → oI 193 z w → (∀ x, x < ofM z en (i + 1) → w.1 193 x = bv ca (B x)) → E al w → E' al w) : ∀ (u : Nat) (al x8 : Int32) (j : Nat) (w : MW), q_Mo_flow_54 x1 x2 x3 x5 e6 p7 E Q u al x8 w → x8.toInt = j → j ≤ sM z (en i) → al.toInt = ((ofM z en i + j : Nat) : Int) → oI 193 z w → (∀ x, x < ofM z en i + j → w.1 193 x = bv ca (B x)) → q_Mo_flow_54 x1 x2 x3 x5 e6 p7 E' Q' u al x8 w := by
  have os : ofM z en (i + 1) = ofM z en i + sM z (en i) := rfl
  intro u
  induction u with
  | zero => exact fun _ _ _ _ h _ _ _ _ _ => False.elim h
  | succ u ih =>
    intro al x8 j w h ej jS ea o inv
    have p7n : p7.toInt.toNat = en i / 2 := by omega
    have w169 : w.1 169 p7.toInt.toNat = z.1 169 (en i / 2) := by rw [p7n]; exact o.2 169 _ (by decide)
    rw [q_Mo_flow_54.eq_2, w169, e6e, par2 he] at h
    rw [q_Mo_flow_54.eq_2, w169, e6e, par2 he]
    refine ⟨h.1, fun d => kE al w (by rw [ea, os]; omega) o (fun x hx => inv x (by rw [os] at hx; omega)) (h.2.1 d), fun d => ?_⟩
    have H := h.2.2 d
    have hj : j < sM z (en i) := by omega
    have ix := ix172 (p := p7) (x8 := x8) (s := z.1 169 (en i / 2)) he p7e eS s1.1 s1.2 ej hj
    have a1 : (al + (1 : Int32)).toInt = ((ofM z en i + (j + 1) : Nat) : Int) := by
      have q := ti_add2 ea i_1 (by omega) (by omega)
      omega
    have b1 : (x8 + (1 : Int32)).toInt = ((j + 1 : Nat) : Int) := by
      have q := ti_add2 ej i_1 (by omega) (by omega)
      omega
    have an : al.toInt.toNat = ofM z en i + j := by omega
    have L := ln i hi j hj
    have st : ∀ y : Int32, y = bv ca (B (ofM z en i + j)) → q_Mo_flow_54 x1 x2 x3 x5 (nI (en i)) p7 E Q u (al + (1 : Int32)) (x8 + (1 : Int32)) (sI w 193 (ofM z en i + j) y) → q_Mo_flow_54 x1 x2 x3 x5 (nI (en i)) p7 E' Q' u (al + (1 : Int32)) (x8 + (1 : Int32)) (sI w 193 (ofM z en i + j) y) := fun y ey g => by
      rw [e6e] at ih
      refine ih _ _ (j + 1) _ g b1 hj a1 ⟨o.1, fun c k hc => ?_⟩ (fun x hx => ?_)
      · rw [sI_oth _ _ _ _ _ _ hc]
        exact o.2 c k hc
      · rw [sI_if]
        by_cases q : x = ofM z en i + j
        · rw [if_pos q, q]
          exact ey
        · rw [if_neg q]
          exact inv x (by omega)
    rw [ix.1, ix.2, an] at H ⊢
    refine ⟨fun d2 => ⟨(H.1 d2).1, (H.1 d2).2.1, (H.1 d2).2.2.1, st _ ?_ (H.1 d2).2.2.2⟩, fun d2 => ⟨(H.2 d2).1, (H.2 d2).2.1, st _ ?_ (H.2 d2).2.2⟩⟩
    · unfold pos at L
      rw [if_neg (by omega)] at L
      rw [o.2 172 _ (by decide), L]
      exact bv_nar c01.1 c01.2 _
    · unfold pos at L
      rw [if_pos (by omega)] at L
      rw [o.2 172 _ (by decide), L]
      exact bv_nar c01.1 c01.2 _
theorem ofM_le {z : MW} {en : Nat → Nat} {n : Nat} (h : ∀ i, i < n → sM z (en i) ≤ 200) : ∀ i, i ≤ n → ofM z en i ≤ 200 * i := by
  intro i
  induction i with
  | zero => exact fun _ => Nat.le_refl _
  | succ i ih =>
    intro hi
    have e : ofM z en (i + 1) = ofM z en i + sM z (en i) := rfl
    have a := ih (by omega)
    have b := h i (by omega)
    omega
theorem flw_20 {z : MW} {k n : Nat} {en : Nat → Nat} {fr to : Nat} {ca : Int32} {B : Nat → Bool} {x1 x2 x3 : Int32} {E E' : Int32 → MW → Prop} {Q Q' : MW → Prop} (ka : x1.toInt = k) (W : WmS z k n en fr to ca) (ln : LnM z n en ca B) (kE : ∀ (al : Int32) (w : MW), al.toInt = (ofM z en n : Int) → oI 193 z w → (∀ x, x < ofM z en n → w.1 193 x = bv ca (B x)) → E al w → E' al w) : ∀ (u : Nat) (al x5 : Int32) (i : Nat) (w : MW), q_Mo_flow_20 x1 x2 x3 E Q u al x5 w → x5.toInt = i → i ≤ n → al.toInt = (ofM z en i : Int) → oI 193 z w → (∀ x, x < ofM z en i → w.1 193 x = bv ca (B x)) → q_Mo_flow_20 x1 x2 x3 E' Q' u al x5 w := by
  have n24 := W.1.2.1
  have k24 := W.1.2.2
  have ca1 := W.2.2.2.2.1
  have sb : ∀ i, i < n → (1 ≤ sM z (en i) ∧ sM z (en i) ≤ 200) ∧ (z.1 169 (en i / 2)).toInt = (sM z (en i) : Int) := fun i hi => by
    have q := (W.2.1 i hi).2.2
    unfold sM
    omega
  have ol := ofM_le (fun i hi => (sb i hi).1.2)
  intro u
  induction u with
  | zero => exact fun _ _ _ _ h _ _ _ _ _ => False.elim h
  | succ u ih =>
    intro al x5 i w h ex iN ea o inv
    have kn : x1.toInt.toNat = k := by omega
    have w185 : (w.1 185 x1.toInt.toNat).toInt = n := by rw [kn, o.2 185 _ (by decide)]; exact W.1.1
    rw [q_Mo_flow_20.eq_2, w185] at h ⊢
    refine ⟨h.1, fun d => ?_, fun d => ?_⟩
    · have e : i = n := by omega
      rw [e] at ea inv
      exact kE al w ea o inv (h.2.1 d)
    have hi : i < n := by omega
    have H := h.2.2 d
    have Wi := W.2.1 i hi
    have m1 := ti_mul2 (by decide : ((24 : Int32)).toInt = 24) ka (by omega) (by omega)
    have m2 := ti_add2 m1 ex (by omega) (by omega)
    have m3 : (((24 : Int32) * x1) + x5).toInt.toNat = 24 * k + i := by omega
    have w186 : w.1 186 (24 * k + i) = nI (en i) := by rw [o.2 186 _ (by decide)]; exact Wi.1
    rw [m3, w186] at H ⊢
    have x1' : (x5 + (1 : Int32)).toInt = ((i + 1 : Nat) : Int) := by
      have q := ti_add2 ex i_1 (by omega) (by omega)
      omega
    exact ⟨H.1, flw_54 (z := z) (i := i) ⟨by omega, ca1.2⟩ hi Wi.2.1 (sb i hi).1 (sb i hi).2 rfl (div2 Wi.2.1) (by have := ol (i + 1) (by omega); omega) ln (fun al' w' ea' o' inv' g => ih _ _ (i + 1) _ g x1' hi ea' o' inv') _ _ _ 0 _ H.2 i_0 (Nat.zero_le _) ea o inv⟩
/-! how many litres go: the reference -/
theorem fgm_2 {z : MW} {x : Int32} {E E' Q Q' : MW → Prop} (x0 : 0 ≤ x.toInt) (x1 : x.toInt < 44) (kE : ∀ w, oI 174 z w → (∀ j, w.1 174 j = if 6 * x.toInt.toNat ≤ j ∧ j < 6 * x.toInt.toNat + 6 then -1 else z.1 174 j) → E w → E' w) : ∀ (m : Nat) (l : Int32) (w : MW), q_Mo_forget_2 x E Q m l w → 0 ≤ l.toInt → l.toInt ≤ 6 → oI 174 z w → (∀ j, w.1 174 j = if 6 * x.toInt.toNat ≤ j ∧ j < 6 * x.toInt.toNat + l.toInt.toNat then -1 else z.1 174 j) → q_Mo_forget_2 x E' Q' m l w := by
  intro m
  induction m with
  | zero => exact fun _ _ h _ _ _ _ => False.elim h
  | succ m ih =>
    intro l w h l0 l1 o inv
    rw [q_Mo_forget_2.eq_2] at h ⊢
    refine ⟨fun d => kE w o (fun j => ?_) (h.1 d), fun d => ?_⟩
    · rw [inv j, show l.toInt.toNat = 6 by omega]
    have H := h.2 d
    have el := ti_add2 (Eq.refl l.toInt) i_1 (by omega) (by omega)
    have m1 := ti_mul2 (by decide : ((6 : Int32)).toInt = 6) (Eq.refl x.toInt) (by omega) (by omega)
    have m2 := ti_add2 m1 (Eq.refl l.toInt) (by omega) (by omega)
    have m3 : (((6 : Int32) * x) + l).toInt.toNat = 6 * x.toInt.toNat + l.toInt.toNat := by omega
    rw [m3] at H ⊢
    refine ⟨H.1, ih _ _ H.2 (by omega) (by omega) ⟨o.1, fun k j hk => ?_⟩ (fun j => ?_)⟩
    · rw [sI_oth _ _ _ _ _ _ hk]
      exact o.2 k j hk
    · rw [sI_if, inv j]
      by_cases q : j = 6 * x.toInt.toNat + l.toInt.toNat
      · have c1 : 6 * x.toInt.toNat ≤ j ∧ j < 6 * x.toInt.toNat + (l + (1 : Int32)).toInt.toNat := ⟨by omega, by omega⟩
        rw [if_pos q, if_pos c1]
      · rw [if_neg q]
        by_cases c1 : 6 * x.toInt.toNat ≤ j ∧ j < 6 * x.toInt.toNat + l.toInt.toNat
        · have c2 : 6 * x.toInt.toNat ≤ j ∧ j < 6 * x.toInt.toNat + (l + (1 : Int32)).toInt.toNat := ⟨c1.1, by have := c1.2; omega⟩
          rw [if_pos c1, if_pos c2]
        · have c2 : ¬ (6 * x.toInt.toNat ≤ j ∧ j < 6 * x.toInt.toNat + (l + (1 : Int32)).toInt.toNat) := fun z2 => c1 ⟨z2.1, by have := z2.2; omega⟩
          rw [if_neg c1, if_neg c2]
def FgM (z : MW) (x : Nat) (w : MW) : Prop := oI 174 z w ∧ ∀ j, w.1 174 j = if 6 * x ≤ j ∧ j < 6 * x + 6 then -1 else z.1 174 j
theorem fgm_x {z : MW} {x : Int32} {Q Q' : MW → Prop} (h : p_Mo_forget z x Q) (x0 : 0 ≤ x.toInt) (x1 : x.toInt < 44) (k : ∀ w, FgM z x.toInt.toNat w → Q w → Q' w) : p_Mo_forget z x Q' := by
  rw [p_Mo_forget.eq_1] at h ⊢
  refine fgm_2 x0 x1 (fun w o e g => k w ⟨o, e⟩ g) _ _ _ h (by decide) (by decide) ⟨rfl, fun _ _ _ => rfl⟩ (fun j => ?_)
  have c1 : ¬ (6 * x.toInt.toNat ≤ j ∧ j < 6 * x.toInt.toNat + (0 : Int32).toInt.toNat) := fun z2 => by
    have h1 : (0 : Int32).toInt.toNat = 0 := by decide
    have := z2.1
    have := z2.2
    omega
  rw [if_neg c1]
/-- the tanks of the reference behind m litres, c of them out -/
def TMf (z w : MW) (fr to m c : Nat) (ca : Int32) : Prop := (∀ k j, ¬ k = 165 → ¬ k = 166 → ¬ k = 173 → ¬ k = 174 → w.1 k j = z.1 k j) ∧ (∀ j, ¬ j = fr → ¬ j = to → w.1 165 j = z.1 165 j) ∧ (∀ j, ¬ j = to → w.1 166 j = z.1 166 j ∧ w.1 173 j = z.1 173 j) ∧ (∀ j, ¬ (6 * to ≤ j ∧ j < 6 * to + 6) → w.1 174 j = z.1 174 j) ∧ ((w.1 165 fr).toInt + m = (z.1 165 fr).toInt ∧ (w.1 165 to).toInt = (z.1 165 to).toInt + c) ∧ w.1 166 to = (if 0 < c then ca else z.1 166 to) ∧ w.1 173 to = (if 0 < c then ca else z.1 173 to) ∧ ∀ i, i < 6 → w.1 174 (6 * to + i) = (if 0 < c then -1 else z.1 174 (6 * to + i))
/-- the class's tanks, as a world that goes with it -/
def yTk (v : MW) (fr to c : Nat) (ca : Int32) (a0 : Int) : MW := (fun k j => if k = 17 ∧ j = to ∧ 0 < c then ca else if k = 17 ∧ j = fr ∧ a0 ≤ 0 then 0 else if k = 23 ∧ 6 * to ≤ j ∧ j < 6 * to + 6 ∧ 0 < c then -1 else v.1 k j, v.2)
theorem yt_17 (v : MW) {fr to : Nat} (c : Nat) (ca : Int32) (a0 : Int) (j : Nat) : (yTk v fr to c ca a0).1 17 j = if j = to ∧ 0 < c then ca else if j = fr ∧ a0 ≤ 0 then 0 else v.1 17 j := by
  show (if 17 = 17 ∧ j = to ∧ 0 < c then ca else if 17 = 17 ∧ j = fr ∧ a0 ≤ 0 then 0 else if 17 = 23 ∧ 6 * to ≤ j ∧ j < 6 * to + 6 ∧ 0 < c then -1 else v.1 17 j) = _
  have d : ¬ (17 = 23 ∧ 6 * to ≤ j ∧ j < 6 * to + 6 ∧ 0 < c) := fun q => absurd q.1 (by decide)
  rw [if_neg d]
  by_cases c1 : j = to ∧ 0 < c
  · rw [if_pos ⟨rfl, c1⟩, if_pos c1]
  · rw [if_neg (fun q => c1 q.2), if_neg c1]
    by_cases c2 : j = fr ∧ a0 ≤ 0
    · rw [if_pos ⟨rfl, c2⟩, if_pos c2]
    · rw [if_neg (fun q => c2 q.2), if_neg c2]
theorem yt_23 (v : MW) {fr to : Nat} (c : Nat) (ca : Int32) (a0 : Int) (j : Nat) : (yTk v fr to c ca a0).1 23 j = if 6 * to ≤ j ∧ j < 6 * to + 6 ∧ 0 < c then -1 else v.1 23 j := by
  show (if 23 = 17 ∧ j = to ∧ 0 < c then ca else if 23 = 17 ∧ j = fr ∧ a0 ≤ 0 then 0 else if 23 = 23 ∧ 6 * to ≤ j ∧ j < 6 * to + 6 ∧ 0 < c then -1 else v.1 23 j) = _
  have d1 : ¬ (23 = 17 ∧ j = to ∧ 0 < c) := fun q => absurd q.1 (by decide)
  have d2 : ¬ (23 = 17 ∧ j = fr ∧ a0 ≤ 0) := fun q => absurd q.1 (by decide)
  rw [if_neg d1, if_neg d2]
  by_cases c1 : 6 * to ≤ j ∧ j < 6 * to + 6 ∧ 0 < c
  · rw [if_pos ⟨rfl, c1⟩, if_pos c1]
  · rw [if_neg (fun q => c1 q.2), if_neg c1]
theorem yt_o (v : MW) {fr to : Nat} (c : Nat) (ca : Int32) (a0 : Int) {k : Nat} (h1 : ¬ k = 17) (h2 : ¬ k = 23) (j : Nat) : (yTk v fr to c ca a0).1 k j = v.1 k j := by
  show (if k = 17 ∧ j = to ∧ 0 < c then ca else if k = 17 ∧ j = fr ∧ a0 ≤ 0 then 0 else if k = 23 ∧ 6 * to ≤ j ∧ j < 6 * to + 6 ∧ 0 < c then -1 else v.1 k j) = _
  rw [if_neg (fun q => h1 q.1), if_neg (fun q => h1 q.1), if_neg (fun q => h2 q.1)]
