/-! the rows that stand, in the class's canonical world -/
def RsR (w : MW) (r b : Nat) (x : Rw) : Prop := BtS (w.1 52 r) x.1 ∧ (w.1 53 r).toInt = x.2.2.1 ∧ (w.1 54 r).toInt = (if x.2.2.2 = true then 1 else 0) ∧ (w.1 55 r).toInt = (b : Int) ∧ (w.1 55 (r + 1)).toInt = ((b + x.2.1.length : Nat) : Int)
def RsC (w : MW) (rs : List Rw) : Prop := (w.1 48 0).toInt = (rs.length : Int) ∧ (∀ (j : Nat) (y : Int), (cds rs)[j]? = some y → (w.1 56 j).toInt = y) ∧ ∀ (r : Nat) (x : Rw), rs[r]? = some x → RsR w r (cds (rs.take r)).length x
/-- what holds of rows that were read -/
def GrS (rs : List Rw) : Prop := rs.length ≤ 40 ∧ (cds rs).length ≤ 1400 ∧ (∀ y ∈ cds rs, 0 ≤ y ∧ y ≤ 18) ∧ ∀ x ∈ rs, hgo 43 x.2.1 0 1
theorem rsc_of {u : MW} {rs : List Rw} (h : RosC u rs) : RsC (sw sQ u) rs :=
  ⟨h.1, fun j y hy => by
    have t := h.2.1.2 j y hy
    rw [Nat.zero_add] at t
    exact t, fun r x hx => by
    have t := h.2.2.2 r x hx
    exact ⟨t.2.2.2.1, t.2.2.2.2.1, t.2.2.2.2.2.1, t.2.2.2.2.2.2.1, t.2.2.2.2.2.2.2⟩⟩
theorem rsc_fr {l : Pl} {w w' : MW} {rs : List Rw} (h : RsC w rs) (hF : FR l w w') (ho : off l [(48, some 0), (52, none), (53, none), (54, none), (55, none), (56, none)] = true) : RsC w' rs := by
  refine ⟨by rw [(hF 48 0 (off_hit ho rfl)).1]; exact h.1, fun j y hy => by rw [(hF 56 j (off_hit ho rfl)).1]; exact h.2.1 j y hy, fun r x hx => ?_⟩
  have t := h.2.2 r x hx
  unfold RsR at t ⊢
  rw [(hF 52 r (off_hit ho rfl)).1, (hF 53 r (off_hit ho rfl)).1, (hF 54 r (off_hit ho rfl)).1, (hF 55 r (off_hit ho rfl)).1, (hF 55 (r + 1) (off_hit ho rfl)).1]
  exact t
theorem rwT_c {f : Int → Int} {n : Int} {as c : List Int} {v : Int} {j : Nat} (h : (rwT f n as c v j).1 = true) : (rwT f n as c v j).2.1.2.1 = c := by
  unfold rwT at h ⊢
  by_cases a : wq f n j (ltr 14 7) = true
  · rw [if_pos a] at h ⊢
    by_cases b : wq f n (j + 1) (ltr 15 1) = true
    · rw [if_pos b]
    · rw [if_neg b] at h
      exact absurd (show false = true from h) (by decide)
  · rw [if_neg a] at h ⊢
    by_cases b : wq f n j (ltr 15 1) = true
    · rw [if_pos b]
    · rw [if_neg b] at h
      exact absurd (show false = true from h) (by decide)
theorem tlS_c {f : Int → Int} {n : Int} {as c : List Int} {j : Nat} (h : (tlS f n as c j).1 = true) : (tlS f n as c j).2.1.2.1 = c := by
  unfold tlS at h ⊢
  by_cases a : wq f n j (ltr 13 3) = true
  · rw [if_pos a] at h ⊢
    by_cases b : nbv f n (j + 1) 0 3600 < 0
    · rw [if_pos b] at h
      exact absurd (show false = true from h) (by decide)
    · rw [if_neg b] at h ⊢
      exact rwT_c h
  · rw [if_neg a] at h ⊢
    exact rwT_c h
theorem row_g {f : Int → Int} {n : Int} {i : Nat} {q : Bool × Rw × Nat} (h : RowS f n i q) (hq : q.1 = true) : hgo 43 q.2.1.2.1 0 1 := by
  unfold RowS at h
  have no : ∀ j, q = rwF j → hgo 43 q.2.1.2.1 0 1 := fun j e => by
    rw [e] at hq
    exact absurd (show false = true from hq) (by decide)
  by_cases c : wq f n i (ltr 6 3) = true
  · rw [if_pos c] at h
    by_cases d : (acF f n 10 [] (i + 1)).1 = true
    · rw [if_pos d] at h
      obtain ⟨r, ⟨k, hk⟩, e⟩ := h
      by_cases b : r.1 = true
      · rw [if_pos b] at e
        rw [e] at hq ⊢
        rw [tlS_c hq]
        exact sp_43 hk b
      · rw [if_neg b] at e
        exact no _ e
    · rw [if_neg d] at h
      exact no _ h
  · rw [if_neg c] at h
    exact no _ h
theorem rdq_g {f : Int → Int} {n : Int} : ∀ (k : Nat) (rs : List Rw) (i : Nat) (r : Int) (rs' : List Rw), RdQ f n k rs i r rs' → (∀ x ∈ rs, hgo 43 x.2.1 0 1) → rs.length ≤ 40 → rs'.length ≤ 40 ∧ ∀ x ∈ rs', hgo 43 x.2.1 0 1 := by
  intro k
  induction k with
  | zero => exact fun rs i r rs' h => False.elim h
  | succ k ih =>
    intro rs i r rs' h hg h4
    have nil : rs' = [] → rs'.length ≤ 40 ∧ ∀ x ∈ rs', hgo 43 x.2.1 0 1 := fun e => by
      rw [e]
      exact ⟨Nat.zero_le _, fun x hx => (by cases hx)⟩
    rcases h with ⟨_, _, e⟩ | ⟨_, _, _, e⟩ | ⟨_, l4, q, hq, h⟩
    · rw [e]
      exact ⟨h4, hg⟩
    · exact nil e
    · rcases h with ⟨_, _, e⟩ | ⟨q1, hk⟩
      · exact nil e
      · refine ih _ _ _ _ hk (fun x hx => ?_) (by rw [List.length_append, List.length_singleton]; omega)
        rcases List.mem_append.mp hx with m | m
        · exact hg x m
        · rw [List.mem_singleton.mp m]
          exact row_g hq q1
theorem gr_read {f : Int → Int} {n : Int} {k : Nat} {r : Int} {rs : List Rw} {u : MW} (h : RdQ f n k [] 0 r rs) (hC : RosC u rs) (hB : BND u) : GrS rs := by
  have t := rdq_g k [] 0 r rs h (fun x hx => (by cases hx)) (Nat.zero_le _)
  refine ⟨t.1, ?_, fun y hy => ?_, t.2⟩
  · have a := hC.2.1.1
    have b := (bd_99_10 hB).2
    omega
  · obtain ⟨j, hj, e⟩ := List.mem_iff_getElem.mp hy
    have a := hC.2.1.2 j y (by rw [← e]; exact List.getElem?_eq_getElem hj)
    have b := bd_107 hB (0 + j)
    omega
theorem gr_nil : GrS [] := ⟨Nat.zero_le _, Nat.zero_le _, fun y hy => absurd hy (List.not_mem_nil (a := y)), fun x hx => absurd hx (List.not_mem_nil (a := x))⟩
/-- where a row's codes lie in all codes -/
theorem cds_at : ∀ (rs : List Rw) (r : Nat) (x : Rw), rs[r]? = some x → ∃ t, cds rs = cds (rs.take r) ++ (x.2.1 ++ t) := by
  intro rs
  induction rs with
  | nil => exact fun r x h => (by cases h)
  | cons a rs ih =>
    intro r x h
    cases r with
    | zero =>
      have e : a = x := Option.some.inj h
      rw [← e]
      exact ⟨cds rs, rfl⟩
    | succ r =>
      obtain ⟨t, e⟩ := ih r x h
      refine ⟨t, ?_⟩
      show a.2.1 ++ cds rs = (a.2.1 ++ cds (rs.take r)) ++ (x.2.1 ++ t)
      rw [e, List.append_assoc]
/-- a row's value in a state -/
def vS (s : Int → Bool) (l : List Int) : Bool := (rnS s l []).headD false
theorem vS_1 {s : Int → Bool} {l : List Int} {v : Bool} (h : rnS s l [] = [v]) : v = vS s l := by
  unfold vS
  rw [h]
  rfl
theorem rs_isOn {w : MW} {rs : List Rw} {r : Nat} {x : Rw} {RI : Int32} {Q : Int32 → MW → Prop} (h : RsC w rs) (hg : GrS rs) (hx : rs[r]? = some x) (hr : RI.toInt = (r : Int)) (hQ : ∀ y : Int32, y.toInt = (if vS (sbt (w.1 48 1)) x.2.1 = true then 1 else 0) → Q y w) : p_Ro_isOn w RI Q := by
  have lt := rs_lt hx
  have h4 := hg.1
  have t := h.2.2 r x hx
  obtain ⟨z, e⟩ := cds_at rs r x hx
  have el : (cds rs).length = (cds (rs.take r)).length + (x.2.1.length + z.length) := by rw [e, List.length_append, List.length_append]
  have l14 := hg.2.1
  refine co_isOn (b := (cds (rs.take r)).length) (l := x.2.1) hr (by omega) t.2.2.2.1 t.2.2.2.2 (by omega) (fun j y hy => ?_) (fun y hy => ?_) (hg.2.2.2 x (List.mem_of_getElem? hx)) (fun v y hv ey => hQ y (by rw [← vS_1 hv]; exact ey))
  · refine h.2.1 _ y ?_
    have lj : j < x.2.1.length := (List.getElem?_eq_some_iff.mp hy).1
    rw [e, List.getElem?_append_right (Nat.le_add_right _ _), Nat.add_sub_cancel_left, List.getElem?_append_left lj]
    exact hy
  · refine hg.2.2.1 y ?_
    rw [e]
    exact List.mem_append_right _ (List.mem_append_left _ hy)
theorem rm_isOn {w : MW} {g : Nat} {rs : List Rw} {r : Nat} {x : Rw} {RI : Int32} {Q : Int32 → MW → Prop} (hI : BND w) (hD : DR w) (h : RoM w g rs) (hx : rs[r]? = some x) (hr : RI.toInt = (r : Int)) (hQ : ∀ y : Int32, y.toInt = (if vS (sbt (w.1 147 24)) x.2.1 = true then 1 else 0) → Q y w) : p_Mr_isOn w RI Q := by
  have lt := rs_lt hx
  have h4 := h.2.2.2.1
  have g1 := h.1
  have e40 := ti_mul2 (show (40 : Int32).toInt = 40 by decide) h.2.1 (by omega) (by omega)
  have e := ti_add2 e40 hr (by omega) (by omega)
  have en : (((40 : Int32) * (w.1 147 12)) + RI).toInt.toNat = 40 * g + r := by rw [e]; omega
  have t := h.2.2.2.2 r x hx
  obtain ⟨k, hk⟩ := t.1.2.2.2.1
  have b154 := bd_154 hI (40 * g + r)
  have dv := hD RI (by omega) (by rw [h.2.2.1]; omega)
  rw [h.2.1, hr, show (40 * (g : Int) + (r : Int)).toNat = 40 * g + r by omega] at dv
  refine Eq.mpr (p_Mr_isOn.eq_1 _ _ _) ⟨by rw [e]; omega, ?_⟩
  rw [en]
  have hv : p_Mr_value w (w.1 154 (40 * g + r)) (fun _ _ => True) := h_Mr_value hI hD b154.1 b154.2 dv (fun _ _ _ _ _ _ => trivial)
  exact vl_x _ k _ x.2.1 _ _ hk hv (fun b y hb ey _ => hQ y (by rw [← vS_1 (hb [])]; exact ey))
