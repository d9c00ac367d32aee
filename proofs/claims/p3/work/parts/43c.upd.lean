/-! facts of the world behind writes -/
theorem nb_i2l (x : Int32) : (Int32.toInt64 x).toInt = x.toInt := Int32.toInt_toInt64 x
theorem nb_l2i {x : Int64} (h1 : -2147483648 ≤ x.toInt) (h2 : x.toInt ≤ 2147483647) : (Int64.toInt32 x).toInt = x.toInt := by
  rw [Int64.toInt_toInt32, Int.bmod_eq_of_le (by omega) (by omega)]
theorem nb_boolq {x : Int32} (h1 : 0 ≤ x.toInt) (h2 : x.toInt ≤ 1) : (vp_nar .boolean x).toInt = x.toInt := by
  by_cases c : x.toInt = 0
  · have e : x = 0 := Int32.toInt_inj.mp (by rw [c]; decide)
    subst e
    decide
  · have e : x = 1 := Int32.toInt_inj.mp (by have : (1 : Int32).toInt = 1 := by decide
                                             omega)
    subst e
    decide
theorem ti_dec (x : Int32) (h : -2147483648 < x.toInt) : (x + (-1 : Int32)).toInt = x.toInt - 1 := by
  have h1 := ti_add2 (Eq.refl x.toInt) (by decide : ((-1) : Int32).toInt = -1) (by omega) (by have := ti_hi x; omega)
  omega
theorem st_1001a : ∀ n : Nat, n < 100 → 0 ≤ ((stT 1001).getD n 0).toInt ∧ ((stT 1001).getD n 0).toInt ≤ 31710 := by decide
theorem st_1001 (i : Int32) (h : 0 ≤ i.toInt ∧ i.toInt < 100) : 0 ≤ ((stT 1001).getD i.toInt.toNat 0).toInt ∧ ((stT 1001).getD i.toInt.toNat 0).toInt ≤ 31710 := st_1001a i.toInt.toNat (by omega)
theorem st_1002a : ∀ n : Nat, n < 5 → 0 ≤ ((stT 1002).getD n 0).toInt ∧ ((stT 1002).getD n 0).toInt ≤ 31710 := by decide
theorem st_1002 (i : Int32) (h : 0 ≤ i.toInt ∧ i.toInt < 5) : 0 ≤ ((stT 1002).getD i.toInt.toNat 0).toInt ∧ ((stT 1002).getD i.toInt.toNat 0).toInt ≤ 31710 := st_1002a i.toInt.toNat (by omega)
theorem sI_case (w : MW) (k i j : Nat) (v : Int32) : (i = j ∧ ((sI w k j v).1 k i).toInt = v.toInt) ∨ (i ≠ j ∧ ((sI w k j v).1 k i).toInt = (w.1 k i).toInt) := by
  rw [sI_at]
  by_cases h : i = j
  · left; exact ⟨h, by rw [if_pos ⟨rfl, h⟩]⟩
  · right; exact ⟨h, by rw [if_neg (fun e => h e.2)]⟩
theorem pl9_zero {w : MW} {v : Int32} (hv : v.toInt = 0) : PL9 (sI w 91 1 v) := by
  intro e h0 h1
  have a1 : (sI w 91 1 v).1 91 1 = v := rfl
  rw [a1] at h1
  omega
theorem pl9_things {w : MW} {v : Int32} (h : PL9 w) (hv : (w.1 91 0).toInt ≤ v.toInt) : PL9 (sI w 91 0 v) := by
  intro e h0 h1
  have a0 : (sI w 91 0 v).1 91 0 = v := rfl
  have a1 : (sI w 91 0 v).1 91 1 = w.1 91 1 := rfl
  have a2 : (sI w 91 0 v).1 96 e.toInt.toNat = w.1 96 e.toInt.toNat := rfl
  rw [a1] at h1
  rw [a0, a2]
  have := h e h0 h1
  omega
theorem pl9_96 {w : MW} {i v : Int32} (h : PL9 w) (hi : 2 * (w.1 91 1).toInt ≤ i.toInt) : PL9 (sI w 96 i.toInt.toNat v) := by
  intro e h0 h1
  have a0 : (sI w 96 i.toInt.toNat v).1 91 0 = w.1 91 0 := rfl
  have a1 : (sI w 96 i.toInt.toNat v).1 91 1 = w.1 91 1 := rfl
  rw [a1] at h1
  rw [a0]
  have h2 := h e h0 h1
  have h3 := sI_case w 96 e.toInt.toNat i.toInt.toNat v
  omega
theorem pls_pl9 {w : MW} {a : Int32} (h : PL9 w) (ha : a.toInt ≤ 2 * (w.1 91 1).toInt) : PLs a w := fun e h0 h1 => h e h0 (by omega)
theorem pls_pls1 {w : MW} {a b : Int32} (h : PLs1 b w) (ha : a.toInt ≤ b.toInt + 1) : PLs a w := fun e h0 h1 => h e h0 (by omega)
theorem pls1_96 {w : MW} {a i v : Int32} (h : PLs a w) (hi : i.toInt = a.toInt) (h0 : 0 ≤ i.toInt) (hv : v.toInt < (w.1 91 0).toInt) : PLs1 a (sI w 96 i.toInt.toNat v) := by
  intro e h1 h2
  have a0 : (sI w 96 i.toInt.toNat v).1 91 0 = w.1 91 0 := rfl
  rw [a0]
  have h3 := sI_case w 96 e.toInt.toNat i.toInt.toNat v
  by_cases c : e.toInt < a.toInt
  · have := h e h1 c
    omega
  · omega
theorem pl9_pipes {w : MW} {a v : Int32} (h : PLs1 a w) (hv : 2 * v.toInt ≤ a.toInt + 1) : PL9 (sI w 91 1 v) := by
  intro e h2 h3
  have a0 : (sI w 91 1 v).1 91 0 = w.1 91 0 := rfl
  have a1 : (sI w 91 1 v).1 91 1 = v := rfl
  have a2 : (sI w 91 1 v).1 96 e.toInt.toNat = w.1 96 e.toInt.toNat := rfl
  rw [a1] at h3
  rw [a0, a2]
  exact h e h2 (by omega)
theorem pes_pe9 {w : MW} {a : Int32} (h : PE9 w) (ha : 2 * (w.1 91 1).toInt ≤ a.toInt) : PEs a w := fun e h0 h1 => by have := h e h0 h1; omega
theorem pes_pes1 {w : MW} {a b : Int32} (h : PEs1 b w) (ha : b.toInt + 1 ≤ a.toInt) : PEs a w := fun e h0 h1 => by have := h e h0 h1; omega
theorem pes1_pes {w : MW} {a b : Int32} (h : PEs b w) (ha : b.toInt ≤ a.toInt) : PEs1 a w := fun e h0 h1 => by have := h e h0 h1; omega
theorem pes1_98 {w : MW} {a i v : Int32} (h : PEs a w) (hv : v.toInt ≤ a.toInt) : PEs1 a (sI w 98 i.toInt.toNat v) := by
  intro e h0 h1
  have a0 : (sI w 98 i.toInt.toNat v).1 91 0 = w.1 91 0 := rfl
  rw [a0] at h1
  have h2 := h e h0 h1
  have h3 := sI_case w 98 e.toInt.toNat i.toInt.toNat v
  omega
theorem pe9_pipes {w : MW} {a v : Int32} (h : PEs1 a w) (hv : a.toInt + 1 ≤ 2 * v.toInt) : PE9 (sI w 91 1 v) := by
  intro i h0 h1
  have a0 : (sI w 91 1 v).1 91 0 = w.1 91 0 := rfl
  have a1 : (sI w 91 1 v).1 91 1 = v := rfl
  have a2 : (sI w 91 1 v).1 98 i.toInt.toNat = w.1 98 i.toInt.toNat := rfl
  rw [a0] at h1
  rw [a1, a2]
  have := h i h0 h1
  omega
theorem pe9_zero {w : MW} {v : Int32} (ht : (w.1 91 0).toInt = 0) : PE9 (sI w 91 1 v) := by
  intro i h0 h1
  have a0 : (sI w 91 1 v).1 91 0 = w.1 91 0 := rfl
  rw [a0] at h1
  omega
theorem p9_four (w : MW) (i1 i2 i3 i4 v1 v2 v3 v4 v5 i : Int32) (e1 : i1.toInt = 4 * (w.1 91 0).toInt) (e2 : i2.toInt = 4 * (w.1 91 0).toInt + 1) (e3 : i3.toInt = 4 * (w.1 91 0).toInt + 2) (e4 : i4.toInt = 4 * (w.1 91 0).toInt + 3) (q1 : v1.toInt = -1) (q2 : v2.toInt = -1) (q3 : v3.toInt = -1) (q4 : v4.toInt = -1) (hv : v5.toInt = (w.1 91 0).toInt + 1) (h0 : 0 ≤ i.toInt) (h1 : i.toInt < 4 * v5.toInt) :
    (i.toInt < 4 * (w.1 91 0).toInt ∧ (sI (sI (sI (sI (sI w 98 i1.toInt.toNat v1) 98 i2.toInt.toNat v2) 98 i3.toInt.toNat v3) 98 i4.toInt.toNat v4) 91 0 v5).1 98 i.toInt.toNat = w.1 98 i.toInt.toNat) ∨ ((sI (sI (sI (sI (sI w 98 i1.toInt.toNat v1) 98 i2.toInt.toNat v2) 98 i3.toInt.toNat v3) 98 i4.toInt.toNat v4) 91 0 v5).1 98 i.toInt.toNat).toInt = -1 := by
  rw [sI_at (w := sI (sI (sI (sI w 98 i1.toInt.toNat v1) 98 i2.toInt.toNat v2) 98 i3.toInt.toNat v3) 98 i4.toInt.toNat v4), if_neg (fun e => absurd e.1 (by decide))]
  rw [sI_at (w := sI (sI (sI w 98 i1.toInt.toNat v1) 98 i2.toInt.toNat v2) 98 i3.toInt.toNat v3)]
  by_cases c4 : i.toInt.toNat = i4.toInt.toNat
  · right; rw [if_pos ⟨rfl, c4⟩]; exact q4
  · rw [if_neg (fun e => c4 e.2), sI_at (w := sI (sI w 98 i1.toInt.toNat v1) 98 i2.toInt.toNat v2)]
    by_cases c3 : i.toInt.toNat = i3.toInt.toNat
    · right; rw [if_pos ⟨rfl, c3⟩]; exact q3
    · rw [if_neg (fun e => c3 e.2), sI_at (w := sI w 98 i1.toInt.toNat v1)]
      by_cases c2 : i.toInt.toNat = i2.toInt.toNat
      · right; rw [if_pos ⟨rfl, c2⟩]; exact q2
      · rw [if_neg (fun e => c2 e.2), sI_at (w := w)]
        by_cases c1 : i.toInt.toNat = i1.toInt.toNat
        · right; rw [if_pos ⟨rfl, c1⟩]; exact q1
        · rw [if_neg (fun e => c1 e.2)]
          left
          exact ⟨by omega, rfl⟩
theorem pe9_add {w : MW} {i1 i2 i3 i4 v1 v2 v3 v4 v5 : Int32} (h : PE9 w) (hp : 0 ≤ (w.1 91 1).toInt) (e1 : i1.toInt = 4 * (w.1 91 0).toInt) (e2 : i2.toInt = 4 * (w.1 91 0).toInt + 1) (e3 : i3.toInt = 4 * (w.1 91 0).toInt + 2) (e4 : i4.toInt = 4 * (w.1 91 0).toInt + 3) (q1 : v1.toInt = -1) (q2 : v2.toInt = -1) (q3 : v3.toInt = -1) (q4 : v4.toInt = -1) (hv : v5.toInt = (w.1 91 0).toInt + 1) : PE9 (sI (sI (sI (sI (sI w 98 i1.toInt.toNat v1) 98 i2.toInt.toNat v2) 98 i3.toInt.toNat v3) 98 i4.toInt.toNat v4) 91 0 v5) := by
  intro i h0 h1
  have a0 : (sI (sI (sI (sI (sI w 98 i1.toInt.toNat v1) 98 i2.toInt.toNat v2) 98 i3.toInt.toNat v3) 98 i4.toInt.toNat v4) 91 0 v5).1 91 0 = v5 := rfl
  have a1 : (sI (sI (sI (sI (sI w 98 i1.toInt.toNat v1) 98 i2.toInt.toNat v2) 98 i3.toInt.toNat v3) 98 i4.toInt.toNat v4) 91 0 v5).1 91 1 = w.1 91 1 := rfl
  rw [a0] at h1
  rw [a1]
  rcases p9_four w i1 i2 i3 i4 v1 v2 v3 v4 v5 i e1 e2 e3 e4 q1 q2 q3 q4 hv h0 h1 with ⟨h2, h3⟩ | h2
  · rw [h3]; exact h i h0 h2
  · rw [h2]; omega
theorem pj9_zero {w : MW} {v : Int32} (hv : v.toInt = 0) : PJ9 (sI w 91 0 v) := by
  intro i h0 h1
  have a0 : (sI w 91 0 v).1 91 0 = v := rfl
  rw [a0] at h1
  omega
theorem pj9_add {w : MW} {i1 i2 i3 i4 v1 v2 v3 v4 v5 : Int32} (h : PJ9 w) (e1 : i1.toInt = 4 * (w.1 91 0).toInt) (e2 : i2.toInt = 4 * (w.1 91 0).toInt + 1) (e3 : i3.toInt = 4 * (w.1 91 0).toInt + 2) (e4 : i4.toInt = 4 * (w.1 91 0).toInt + 3) (q1 : v1.toInt = -1) (q2 : v2.toInt = -1) (q3 : v3.toInt = -1) (q4 : v4.toInt = -1) (hv : v5.toInt = (w.1 91 0).toInt + 1) : PJ9 (sI (sI (sI (sI (sI w 98 i1.toInt.toNat v1) 98 i2.toInt.toNat v2) 98 i3.toInt.toNat v3) 98 i4.toInt.toNat v4) 91 0 v5) := by
  intro i h0 h1 hn
  have a0 : (sI (sI (sI (sI (sI w 98 i1.toInt.toNat v1) 98 i2.toInt.toNat v2) 98 i3.toInt.toNat v3) 98 i4.toInt.toNat v4) 91 0 v5).1 91 0 = v5 := rfl
  have a1 : ∀ j, (sI (sI (sI (sI (sI w 98 i1.toInt.toNat v1) 98 i2.toInt.toNat v2) 98 i3.toInt.toNat v3) 98 i4.toInt.toNat v4) 91 0 v5).1 97 j = w.1 97 j := fun _ => rfl
  rw [a0] at h1
  rcases p9_four w i1 i2 i3 i4 v1 v2 v3 v4 v5 i e1 e2 e3 e4 q1 q2 q3 q4 hv h0 h1 with ⟨h2, h3⟩ | h2
  · rw [h3] at hn ⊢
    rw [a1]
    exact h i h0 h2 hn
  · omega
theorem pj9_97 {w : MW} {a i v : Int32} (h : PJ9 w) (h2 : PEs a w) (hi : a.toInt ≤ i.toInt) : PJ9 (sI w 97 i.toInt.toNat v) := by
  intro e h0 h1 hn
  have a0 : (sI w 97 i.toInt.toNat v).1 91 0 = w.1 91 0 := rfl
  have a1 : (sI w 97 i.toInt.toNat v).1 98 e.toInt.toNat = w.1 98 e.toInt.toNat := rfl
  rw [a0] at h1
  rw [a1] at hn ⊢
  have h3 := h e h0 h1 hn
  have h4 := h2 e h0 h1
  have h5 := sI_case w 97 (w.1 98 e.toInt.toNat).toInt.toNat i.toInt.toNat v
  omega
theorem pj9_98 {w : MW} {i v : Int32} (h : PJ9 w) (hi : 0 ≤ i.toInt) (hv : (w.1 97 v.toInt.toNat).toInt = i.toInt % 4) : PJ9 (sI w 98 i.toInt.toNat v) := by
  intro e h0 h1 hn
  have a0 : (sI w 98 i.toInt.toNat v).1 91 0 = w.1 91 0 := rfl
  have a1 : ∀ j, (sI w 98 i.toInt.toNat v).1 97 j = w.1 97 j := fun _ => rfl
  rw [a0] at h1
  rw [a1]
  by_cases c : e.toInt.toNat = i.toInt.toNat
  · have a2 : (sI w 98 i.toInt.toNat v).1 98 e.toInt.toNat = v := by rw [sI_at, if_pos ⟨rfl, c⟩]
    rw [a2, hv]
    omega
  · have a2 : (sI w 98 i.toInt.toNat v).1 98 e.toInt.toNat = w.1 98 e.toInt.toNat := by rw [sI_at, if_neg (fun q => c q.2)]
    rw [a2] at hn ⊢
    exact h e h0 h1 hn
theorem zp_none {w : MW} : ZP (-1) w := ⟨by decide, fun h => absurd h (by decide)⟩
theorem zp_first {w : MW} {i : Int32} (h : RF w) (hz : ZL i w) : ZP (w.1 78 i.toInt.toNat) w := (h i hz).1
theorem rf_use {w : MW} {i : Int32} (h : RF w) (hz : ZL i w) : ¬ (w.1 78 i.toInt.toNat).toInt = 0 ∧ ((w.1 78 i.toInt.toNat).toInt < 0 ∨ i.toInt < (w.1 78 i.toInt.toNat).toInt) := ⟨(h i hz).1.1, (h i hz).2⟩
theorem zp_next {w : MW} {i : Int32} (h : RX w) (hz : ZL i w) : ZP (w.1 79 i.toInt.toNat) w := (h i hz).1
theorem rx_use {w : MW} {i : Int32} (h : RX w) (hz : ZL i w) : ¬ (w.1 79 i.toInt.toNat).toInt = 0 ∧ ((w.1 79 i.toInt.toNat).toInt < 0 ∨ i.toInt < (w.1 79 i.toInt.toNat).toInt) := ⟨(h i hz).1.1, (h i hz).2⟩
theorem zp_cur {w : MW} {i : Int32} (h : RC w) (hz : ZL i w) (hs : ¬ (w.1 80 i.toInt.toNat).toInt = 0) : ZP (w.1 81 i.toInt.toNat) w := (h i hz hs).1
theorem rc_use {w : MW} {i : Int32} (h : RC w) (hz : ZL i w) (hs : ¬ (w.1 80 i.toInt.toNat).toInt = 0) : ¬ (w.1 81 i.toInt.toNat).toInt = 0 ∧ ((w.1 81 i.toInt.toNat).toInt < 0 ∨ i.toInt < (w.1 81 i.toInt.toNat).toInt) := ⟨(h i hz hs).1.1, (h i hz hs).2⟩
theorem zl_zp {w : MW} {a : Int32} (h : ZP a w) (ha : 0 ≤ a.toInt) : ZL a w := ⟨ha, h.2 (by have := h.1; omega)⟩
theorem zp_zl {w : MW} {a : Int32} (h : ZL a w) (ha : 1 ≤ a.toInt) : ZP a w := ⟨by omega, fun _ => h.2⟩
theorem zp_ne {w : MW} {a : Int32} (h : ZP a w) : ¬ a.toInt = 0 := h.1
theorem rk_use {w : MW} {i : Int32} (h : RK w) (hz : ZL i w) (hi : 1 ≤ i.toInt) : 0 ≤ (w.1 77 i.toInt.toNat).toInt ∧ (w.1 77 i.toInt.toNat).toInt < (w.1 62 1).toInt ∧ ((w.1 63 (w.1 77 i.toInt.toNat).toInt.toNat).toInt = 17 ∨ (w.1 63 (w.1 77 i.toInt.toNat).toInt.toNat).toInt = 19 ∨ (w.1 63 (w.1 77 i.toInt.toNat).toInt.toNat).toInt = 20 → 1 ≤ (w.1 78 i.toInt.toNat).toInt) := h i hz hi
theorem rc_st0 {w : MW} {i v : Int32} (h : RC w) (hv : v.toInt = 0) : RC (sI w 80 i.toInt.toNat v) := by
  intro e hz h3
  have h4 := sI_case w 80 e.toInt.toNat i.toInt.toNat v
  exact h e hz (by omega)
theorem rc_st {w : MW} {i v : Int32} (h : RC w) (hi : 0 ≤ i.toInt) (hv : ¬ (w.1 80 i.toInt.toNat).toInt = 0) : RC (sI w 80 i.toInt.toNat v) := by
  intro e hz h3
  by_cases c : e.toInt.toNat = i.toInt.toNat
  · exact h e hz (by rw [c]; exact hv)
  · have h4 := sI_case w 80 e.toInt.toNat i.toInt.toNat v
    exact h e hz (by omega)
theorem rc_cur {w : MW} {i v : Int32} (h : RC w) (h5 : ZP v w) (hi : 0 ≤ i.toInt) (hv : v.toInt < 0 ∨ i.toInt < v.toInt) : RC (sI w 81 i.toInt.toNat v) := by
  intro e hz h3
  by_cases c : e.toInt.toNat = i.toInt.toNat
  · have a2 : (sI w 81 i.toInt.toNat v).1 81 e.toInt.toNat = v := by rw [sI_at, if_pos ⟨rfl, c⟩]
    rw [a2]
    exact ⟨h5, by have := hz.1; omega⟩
  · have a2 : (sI w 81 i.toInt.toNat v).1 81 e.toInt.toNat = w.1 81 e.toInt.toNat := by rw [sI_at, if_neg (fun q => c q.2)]
    rw [a2]
    exact h e hz h3
theorem rc_both {w : MW} {i v j u : Int32} (h : RC w) (h5 : ZP u w) (hj : j.toInt = i.toInt) (hi : 0 ≤ i.toInt) (hv : u.toInt < 0 ∨ j.toInt < u.toInt) : RC (sI (sI w 80 i.toInt.toNat v) 81 j.toInt.toNat u) := by
  intro e hz h3
  by_cases c : e.toInt.toNat = j.toInt.toNat
  · have a2 : (sI (sI w 80 i.toInt.toNat v) 81 j.toInt.toNat u).1 81 e.toInt.toNat = u := by rw [sI_at, if_pos ⟨rfl, c⟩]
    rw [a2]
    exact ⟨h5, by have := hz.1; omega⟩
  · have a2 : (sI (sI w 80 i.toInt.toNat v) 81 j.toInt.toNat u).1 81 e.toInt.toNat = w.1 81 e.toInt.toNat := by rw [sI_at, if_neg (fun q => c q.2)]; rfl
    rw [a2]
    have a0 : (sI (sI w 80 i.toInt.toNat v) 81 j.toInt.toNat u).1 80 e.toInt.toNat = (sI w 80 i.toInt.toNat v).1 80 e.toInt.toNat := rfl
    rw [a0] at h3
    have h4 := sI_case w 80 e.toInt.toNat i.toInt.toNat v
    rw [hj] at c
    exact h e hz (by omega)
theorem zl_ro {w : MW} (h : RO w) (h0 : 0 ≤ (w.1 62 2).toInt) : ZL 0 w := h h0
/-- below a no stage has changed -/
def SK (a : Int32) (w w' : MW) : Prop := ∀ j : Int32, 0 ≤ j.toInt → j.toInt < a.toInt → w'.1 80 j.toInt.toNat = w.1 80 j.toInt.toNat
theorem sk_refl (a : Int32) (w : MW) : SK a w w := fun _ _ _ => rfl
theorem sk_put {a i v : Int32} {w W : MW} (h : SK a w W) (hi : a.toInt ≤ i.toInt) : SK a w (sI W 80 i.toInt.toNat v) := by
  intro j h0 h1
  rw [sI_at, if_neg (fun q => by have := q.2; omega)]
  exact h j h0 h1
theorem sk_fr {a : Int32} {l : Pl} {w W W' : MW} (h : SK a w W) (hF : FR l W W') (ho : off l [(80, none)] = true) : SK a w W' := fun j h0 h1 => (hF 80 _ (off_hit ho (by rfl))).1.trans (h j h0 h1)
theorem sk_tr {a b : Int32} {w W W' : MW} (h : SK a w W) (h2 : SK b W W') (hab : a.toInt ≤ b.toInt) : SK a w W' := fun j h0 h1 => (h2 j h0 (by omega)).trans (h j h0 h1)
theorem sk_use {a : Int32} {w W : MW} (h : SK a w W) (j : Int32) (h0 : 0 ≤ j.toInt) (h1 : j.toInt < a.toInt) : (W.1 80 j.toInt.toNat).toInt = (w.1 80 j.toInt.toNat).toInt := congrArg Int32.toInt (h j h0 h1)
def SKs (a : Int32) (w w' : MW) : Prop := ∀ j : Int32, 0 ≤ j.toInt → (a.toInt < 0 ∨ j.toInt < a.toInt) → w'.1 80 j.toInt.toNat = w.1 80 j.toInt.toNat
theorem sks_refl (a : Int32) (w : MW) : SKs a w w := fun _ _ _ => rfl
theorem sks_sk {a : Int32} {w W : MW} (h : SK a w W) (ha : 0 ≤ a.toInt) : SKs a w W := fun j h0 h1 => h j h0 (by omega)
theorem sks_tr {a b : Int32} {w W W' : MW} (h : SK a w W) (ha : 0 ≤ a.toInt) (h2 : SKs b W W') (hb : b.toInt < 0 ∨ a.toInt ≤ b.toInt) : SKs a w W' := fun j h0 h1 => (h2 j h0 (by omega)).trans (h j h0 (by omega))
theorem sk_trs {a b : Int32} {w W W' : MW} (h : SK a w W) (h2 : SKs b W W') (hb : b.toInt < 0 ∨ a.toInt ≤ b.toInt) : SK a w W' := fun j h0 h1 => (h2 j h0 (by omega)).trans (h j h0 h1)
theorem sks_use {a : Int32} {w W : MW} (h : SKs a w W) (j : Int32) (h0 : 0 ≤ j.toInt) (h1 : a.toInt < 0 ∨ j.toInt < a.toInt) : (W.1 80 j.toInt.toNat).toInt = (w.1 80 j.toInt.toNat).toInt := congrArg Int32.toInt (h j h0 h1)
theorem nb_nat64 {x : Int64} (h : 0 ≤ x.toInt) : (x.toBitVec.toNat : Int) = x.toInt := by
  have h1 := x.toBitVec.isLt
  have h2 : x.toInt = x.toBitVec.toInt := rfl
  rw [BitVec.toInt_eq_toNat_cond] at h2
  split at h2 <;> omega
theorem nb_lushr8 (x : Int64) (hx : 0 ≤ x.toInt) : ((x.toUInt64 >>> ((8 : Int32).toInt64.toUInt64 &&& Int64.toUInt64 63)).toInt64).toInt = x.toInt / 256 := by
  have h1 : ((8 : Int32).toInt64.toUInt64 &&& Int64.toUInt64 63) = (8 : UInt64) := by decide
  rw [h1]
  have h2 : (x.toUInt64 >>> (8 : UInt64)).toBitVec.toNat = x.toBitVec.toNat / 256 := by
    have h3 : (x.toUInt64 >>> (8 : UInt64)).toNat = x.toUInt64.toNat >>> 8 := by rw [UInt64.toNat_shiftRight]; rfl
    rw [Nat.shiftRight_eq_div_pow] at h3
    exact h3
  have h4 := nb_nat64 hx
  have h5 := x.toBitVec.isLt
  have h6 := Int64.toInt_lt x
  have h7 : ((x.toUInt64 >>> (8 : UInt64)).toInt64).toInt = (x.toUInt64 >>> (8 : UInt64)).toBitVec.toInt := rfl
  rw [h7, BitVec.toInt_eq_toNat_of_lt (by omega), h2]
  omega
theorem nb_l255 (x : Int64) (hx : 0 ≤ x.toInt) : (Int64.toInt32 (x &&& (255 : Int64))).toInt = x.toInt % 256 := by
  have h4 := nb_nat64 hx
  have hy : (x &&& (255 : Int64)).toBitVec.toNat = x.toBitVec.toNat % 256 := by
    rw [Int64.toBitVec_and, BitVec.toNat_and]
    exact Nat.and_two_pow_sub_one_eq_mod _ 8
  have h5 : (x &&& (255 : Int64)).toInt = ((x.toBitVec.toNat % 256 : Nat) : Int) := by
    have h6 : (x &&& (255 : Int64)).toInt = (x &&& (255 : Int64)).toBitVec.toInt := rfl
    rw [h6, BitVec.toInt_eq_toNat_of_lt (by omega), hy]
  rw [Int64.toInt_toInt32, h5, Int.bmod_eq_of_le (by omega) (by omega)]
  omega
def nzb : Nat → Int → Bool
  | 0, l => l == 0
  | n + 1, l => l == 0 || (l % 256 != 0 && nzb n (l / 256))
/-- no byte is 0 before the last -/
def NZB (l : Int64) (_ : MW) : Prop := ∃ n, nzb n l.toInt = true
theorem NZB_fr {l : Pl} {w w' : MW} {a : Int64} (_ : FR l w w') (_ : off l [] = true) (h : NZB a w) : NZB a w' := h
theorem nzb_of {w : MW} {a : Int64} (h : nzb 8 a.toInt = true) : NZB a w := ⟨8, h⟩
theorem nzb_two {n : Nat} {l : Int} (h : nzb n l = true) : l = 0 ∨ (¬ l % 256 = 0 ∧ ∃ m, nzb m (l / 256) = true) := by
  cases n with
  | zero => left; exact of_decide_eq_true h
  | succ n =>
    unfold nzb at h
    rcases Bool.or_eq_true _ _ ▸ h with h1 | h1
    · left; exact of_decide_eq_true h1
    · right
      have h2 := Bool.and_eq_true _ _ ▸ h1
      refine ⟨fun h3 => ?_, n, h2.2⟩
      rw [h3] at h2
      exact absurd h2.1 (by decide)
theorem nzb_low {w : MW} {a : Int64} (h : NZB a w) : a.toInt = 0 ∨ ¬ a.toInt % 256 = 0 := by
  obtain ⟨n, hn⟩ := h
  rcases nzb_two hn with h1 | h1
  · exact Or.inl h1
  · exact Or.inr h1.1
theorem nzb_shr {w : MW} {x : Int64} (h : NZB x w) (hx : 0 ≤ x.toInt) : NZB ((x.toUInt64 >>> ((8 : Int32).toInt64.toUInt64 &&& Int64.toUInt64 63)).toInt64) w := by
  obtain ⟨n, hn⟩ := h
  unfold NZB
  rw [nb_lushr8 x hx]
  rcases nzb_two hn with h1 | h1
  · exact ⟨0, by rw [h1]; rfl⟩
  · exact h1.2
/-! the reference's ways -/
theorem ft_zero {w : MW} {v : Int32} (hv : v.toInt = 0) : FT (sI w 127 26 v) := by
  intro k h0 h1
  have a1 : (sI w 127 26 v).1 127 26 = v := rfl
  rw [a1] at h1
  omega
theorem ft_less {w : MW} {v : Int32} (h : FT w) (hv : v.toInt ≤ (w.1 127 26).toInt) : FT (sI w 127 26 v) := by
  intro k h0 h1
  have a1 : (sI w 127 26 v).1 127 26 = v := rfl
  rw [a1] at h1
  exact h k h0 (by omega)
theorem ft_more {w : MW} {v : Int32} (h : FT w) (h9 : FT1 w) (hv : v.toInt = (w.1 127 26).toInt + 1) : FT (sI w 127 26 v) := by
  intro k h0 h1
  have a1 : (sI w 127 26 v).1 127 26 = v := rfl
  have a2 : (sI w 127 26 v).1 182 k.toInt.toNat = w.1 182 k.toInt.toNat := rfl
  have a3 : (sI w 127 26 v).1 127 4 = w.1 127 4 := rfl
  rw [a1] at h1
  rw [a2, a3]
  by_cases c : k.toInt < (w.1 127 26).toInt
  · exact h k h0 c
  · have e : k.toInt = (w.1 127 26).toInt := by omega
    rw [e]
    exact h9
theorem ft_things {w : MW} {v : Int32} (h : FT w) (hv : (w.1 127 4).toInt ≤ v.toInt) : FT (sI w 127 4 v) := by
  intro k h0 h1
  have a1 : (sI w 127 4 v).1 127 4 = v := rfl
  have a2 : (sI w 127 4 v).1 182 k.toInt.toNat = w.1 182 k.toInt.toNat := rfl
  rw [a1, a2]
  have := h k h0 h1
  omega
theorem ft_182 {w : MW} {i v : Int32} (h : FT w) (hv : v.toInt < (w.1 127 4).toInt) : FT (sI w 182 i.toInt.toNat v) := by
  intro k h0 h1
  have a3 : (sI w 182 i.toInt.toNat v).1 127 4 = w.1 127 4 := rfl
  rw [a3]
  have h2 := h k h0 h1
  have h3 := sI_case w 182 k.toInt.toNat i.toInt.toNat v
  omega
theorem ft1_182 {w : MW} {i v : Int32} (hi : i.toInt = (w.1 127 26).toInt) (hv : v.toInt < (w.1 127 4).toInt) : FT1 (sI w 182 i.toInt.toNat v) := by
  have a1 : (sI w 182 i.toInt.toNat v).1 127 26 = w.1 127 26 := rfl
  have a3 : (sI w 182 i.toInt.toNat v).1 127 4 = w.1 127 4 := rfl
  unfold FT1
  rw [a1, a3]
  have h3 := sI_case w 182 (w.1 127 26).toInt.toNat i.toInt.toNat v
  rw [hi] at h3 ⊢
  omega
/-! sets as numbers -/
theorem or_same (a : Int64) : a ||| a = a := Int64.or_self
theorem or_sub {a b e : Int64} (h : (a ||| b) ||| e = e) : a ||| e = e := by
  rw [← h, ← Int64.or_assoc, ← Int64.or_assoc, Int64.or_self]
theorem or_le {a e : Int64} (h : a ||| e = e) : a.toUInt64.toNat ≤ e.toUInt64.toNat := by
  have h1 : a.toUInt64.toNat ||| e.toUInt64.toNat = e.toUInt64.toNat := by
    have h2 : (a ||| e).toUInt64.toNat = a.toUInt64.toNat ||| e.toUInt64.toNat := rfl
    rw [← h2, h]
  rw [← h1]
  exact Nat.left_le_or
theorem or_lt {a e : Int64} (h : a ||| e = e) (hn : ¬ a = e) : a.toUInt64.toNat < e.toUInt64.toNat := by
  have h3 := or_le h
  rcases Nat.lt_or_ge a.toUInt64.toNat e.toUInt64.toNat with h4 | h4
  · exact h4
  · exfalso
    apply hn
    have h5 : a.toUInt64.toNat = e.toUInt64.toNat := by omega
    have h6 : a.toUInt64 = e.toUInt64 := UInt64.toNat_inj.mp h5
    exact congrArg Int64.ofUInt64 h6

theorem nk_add {w : MW} {i1 v1 i2 v2 i3 v3 : Int32} (h : NK w) (hi : i1.toInt = i3.toInt) (hv : ¬ v1.toInt = 10 ∨ 0 ≤ v3.toInt) : NK (sI (sI (sI w 117 i1.toInt.toNat v1) 118 i2.toInt.toNat v2) 119 i3.toInt.toNat v3) := by
  intro e h1
  have a1 : (sI (sI (sI w 117 i1.toInt.toNat v1) 118 i2.toInt.toNat v2) 119 i3.toInt.toNat v3).1 117 e.toInt.toNat = (sI w 117 i1.toInt.toNat v1).1 117 e.toInt.toNat := by
    rw [sI_at, if_neg (fun q => absurd q.1 (by decide)), sI_at, if_neg (fun q => absurd q.1 (by decide))]
  rw [a1] at h1
  have h2 := sI_case w 117 e.toInt.toNat i1.toInt.toNat v1
  have h3 := sI_case (sI (sI w 117 i1.toInt.toNat v1) 118 i2.toInt.toNat v2) 119 e.toInt.toNat i3.toInt.toNat v3
  have a2 : (sI (sI w 117 i1.toInt.toNat v1) 118 i2.toInt.toNat v2).1 119 e.toInt.toNat = w.1 119 e.toInt.toNat := by
    rw [sI_at, if_neg (fun q => absurd q.1 (by decide)), sI_at, if_neg (fun q => absurd q.1 (by decide))]
  rw [a2] at h3
  have h4 := h e
  omega
