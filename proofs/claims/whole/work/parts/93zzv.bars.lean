/-! bars, reset and row, on both sides -/
/-- the row x bars the act a; c its count, l latched, p its pass -/
def BrP (s : Int → Bool) (a c l p : Int) (x : Rw) : Prop := a ∈ x.1 ∧ p = 0 ∧ (¬ l = 0 ∨ (x.2.2.1 ≤ c ∧ vS s x.2.1 = true))
/-- y is one more than the first place of which P holds, or 0 -/
def FsB (P : Nat → Rw → Prop) (rs : List Rw) (y : Int) : Prop := (∃ (r : Nat) (x : Rw), rs[r]? = some x ∧ P r x ∧ (∀ (r' : Nat) (x' : Rw), r' < r → rs[r']? = some x' → ¬ P r' x') ∧ y = (r : Int) + 1) ∨ ((∀ (r : Nat) (x : Rw), rs[r]? = some x → ¬ P r x) ∧ y = 0)
theorem fsb_eq {P P' : Nat → Rw → Prop} {rs : List Rw} {y y' : Int} (e : ∀ (r : Nat) (x : Rw), rs[r]? = some x → (P r x ↔ P' r x)) (h : FsB P rs y) (h' : FsB P' rs y') : y = y' := by
  rcases h with ⟨r, x, hx, p, n, ey⟩ | ⟨n, ey⟩
  · rcases h' with ⟨r', x', hx', p', n', ey'⟩ | ⟨n', _⟩
    · by_cases c : r < r'
      · exact absurd ((e r x hx).mp p) (n' r x c hx)
      · by_cases d : r' < r
        · exact absurd ((e r' x' hx').mpr p') (n r' x' d hx')
        · omega
    · exact absurd ((e r x hx).mp p) (n' r x hx)
  · rcases h' with ⟨r', x', hx', p', _, _⟩ | ⟨_, ey'⟩
    · exact absurd ((e r' x' hx').mpr p') (n r' x' hx')
    · rw [ey, ey']
/-- the rows' part of bars; a, b, c the cells of counts, latched, passes -/
def BrW (ka kb kc : Nat) (s : Int → Bool) (a : Int) (w : MW) (r : Nat) (x : Rw) : Prop := BrP s a (w.1 ka r).toInt (w.1 kb r).toInt (w.1 kc r).toInt x
theorem cb_2 {w : MW} {rs : List Rw} {a : Nat} {E : MW → Prop} {Q : Int32 → MW → Prop} (a32 : a < 32) (hS : RsC w rs) (hg : GrS rs) (hE : (∀ (r : Nat) (x : Rw), rs[r]? = some x → ¬ BrW 49 50 51 (sbt (w.1 48 1)) (a : Int) w r x) → E w) (hQ : ∀ (r : Nat) (x : Rw), rs[r]? = some x → BrW 49 50 51 (sbt (w.1 48 1)) (a : Int) w r x → (∀ (r' : Nat) (x' : Rw), r' < r → rs[r']? = some x' → ¬ BrW 49 50 51 (sbt (w.1 48 1)) (a : Int) w r' x') → Q (nI (r + 1)) w) (n : Nat) : ∀ i : Nat, i ≤ rs.length → (∀ (r : Nat) (x : Rw), r < i → rs[r]? = some x → ¬ BrW 49 50 51 (sbt (w.1 48 1)) (a : Int) w r x) → rs.length - i < n → q_Ro_barring_2 (nI a) E Q n (nI i) w := by
  induction n with
  | zero => intros; omega
  | succ n ih =>
    intro i hi hN hm
    have h4 := hg.1
    have ti : (nI i).toInt = (i : Int) := nI_toInt (by omega)
    have tn : (nI i).toInt.toNat = i := by omega
    have l0 := hS.1
    rw [q_Ro_barring_2.eq_2]
    refine ⟨fun c => hE (fun r x hx => hN r x (by have := rs_lt hx; omega) hx), fun c => ?_⟩
    have il : i < rs.length := by omega
    obtain ⟨x, hx⟩ : ∃ x, rs[i]? = some x := ⟨_, List.getElem?_eq_getElem il⟩
    have t := hS.2.2 i x hx
    have bi : 0 ≤ (nI i).toInt ∧ (nI i).toInt < 40 := by omega
    have sk : ¬ BrW 49 50 51 (sbt (w.1 48 1)) (a : Int) w i x → q_Ro_barring_2 (nI a) E Q n (nI (i + 1)) w := fun np => ih (i + 1) il (fun r y hr hy => by
      by_cases q : r = i
      · rw [q] at hy ⊢
        rw [Option.some.inj (hy.symm.trans hx)]
        exact np
      · exact hN r y (by omega) hy) (by omega)
    have q0 : ¬ BrW 49 50 51 (sbt (w.1 48 1)) (a : Int) w i x → q_Ro_barring_37 (nI a) (nI i) 0 w (fun (x2_2 : Int32) (w : MW) => q_Ro_barring_2 (nI a) E Q n x2_2 w) E Q := fun np => Eq.mpr (q_Ro_barring_37.eq_1 _ _ _ _ _ _ _) ⟨fun _ => by rw [nI_1]; exact sk np, fun z => absurd i_0 z⟩
    rw [tn]
    have mb1 := mb_ubit (w.1 52 i) a32
    have mb2 := t.1.1 a a32
    refine ⟨bi, fun z => q0 (fun p => ?_), fun z => ⟨bi, fun d => q0 (fun p => d p.2.1), fun d => ?_⟩⟩
    · have m1 := mb1.mp z
      have m2 := mb2.mpr p.1
      rw [m1] at m2
      exact absurd m2 (by decide)
    · have ma : (a : Int) ∈ x.1 := by
        refine mb2.mp ?_
        cases hb : mb (w.1 52 i) a with
        | true => rfl
        | false => exact absurd (mb1.mpr hb) z
      have d0 := Classical.not_not.mp d
      refine Eq.mpr (q_Ro_barring_37.eq_1 _ _ _ _ _ _ _) ⟨fun z => absurd z i1n, fun _ => ⟨bi, ?_⟩⟩
      rw [tn, nI_1]
      refine ⟨fun l => hQ i x hx ⟨ma, d0, Or.inl l⟩ hN, fun l => ⟨bi, bi, fun u => sk (fun p => ?_), fun u => ?_⟩⟩
      · rcases p.2.2 with k | k
        · exact l k
        · have := k.1
          have := t.2.1
          omega
      · refine rs_isOn hS hg hx ti (fun y hy => ⟨fun z => sk (fun p => ?_), fun z => hQ i x hx ⟨ma, d0, Or.inr ⟨by have := t.2.1; omega, vt_1 hy z⟩⟩ hN⟩)
        rcases p.2.2 with k | k
        · exact l k
        · exact absurd (k.2.symm.trans (vf_0 hy z)) (by decide)
theorem cb_bar {w : MW} {rs : List Rw} {A : Int32} {Q : Int32 → MW → Prop} (a0 : 0 ≤ A.toInt) (a1 : A.toInt < 32) (hS : RsC w rs) (hg : GrS rs) (hQ : ∀ y, FsB (BrW 49 50 51 (sbt (w.1 48 1)) A.toInt w) rs y.toInt → Q y w) : p_Ro_barring w A Q := by
  have eA : A = nI A.toInt.toNat := (nI_tn a0).symm
  have eI : ((A.toInt.toNat : Nat) : Int) = A.toInt := by omega
  have h4 := hg.1
  have t := cb_2 (E := fun w14 => Q 0 w14) (Q := Q) (n := FU) (show A.toInt.toNat < 32 by omega) hS hg (fun no => hQ 0 (Or.inr ⟨by rw [← eI]; exact no, i_0⟩)) (fun r x hx p np => hQ _ (Or.inl ⟨r, x, hx, by rw [← eI]; exact p, by rw [← eI]; exact np, by
    have := rs_lt hx
    rw [nI_toInt (by omega)]
    omega⟩)) 0 (Nat.zero_le _) (fun r x h => absurd h (Nat.not_lt_zero _)) (Nat.lt_of_le_of_lt (show _ ≤ 40 by omega) (fu_lt (by decide)))
  rw [← eA] at t
  exact Eq.mpr (p_Ro_barring.eq_1 _ _ _) t
/-- the class's bars -/
theorem cb_bars {w : MW} {rs : List Rw} {A : Int32} {Q : Int32 → MW → Prop} (h4 : w.2.2 47 3 = some 48) (hS : RsC w rs) (hg : GrS rs) (h1 : (A.toInt < 0 ∨ 32 ≤ A.toInt) → Q (-1) w) (h2 : 0 ≤ A.toInt → A.toInt < 32 → ∀ y, FsB (BrW 49 50 51 (sbt (w.1 48 1)) A.toInt w) rs y.toInt → Q y w) : p_Bh_bars w A Q :=
  Eq.mpr (p_Bh_bars.eq_1 _ _ _) (Eq.mpr (p_Ac_isAct.eq_1 _ _ _) ⟨fun c => ⟨fun _ => h1 (Or.inl c), fun z => absurd i_0 z⟩, fun c => ⟨fun d => ⟨fun _ => h1 (Or.inr d), fun z => absurd i_0 z⟩, fun d => ⟨fun z => absurd z i1n, fun _ => ⟨h4, cb_bar (by omega) (by omega) hS hg (h2 (by omega) (by omega))⟩⟩⟩⟩)
theorem ha_16 {w : MW} {g r : Nat} {as c : List Int} {v a : Int} {RI A : Int32} {E : Int32 → MW → Prop} {Q : Int32 → MW → Prop} (t : RwP w g r 3000 as c v) (g1 : g ≤ 1) (r4 : r < 40) (hR : RI.toInt = ((40 * g + r : Nat) : Int)) (hA : A.toInt = a) (hE : ∀ h : Int32, ((h.toInt = 1 ∧ a ∈ as) ∨ (h.toInt = 0 ∧ ¬ a ∈ as)) → E h w) (n : Nat) : ∀ (j : Nat) (h : Int32), j ≤ as.length → ((h.toInt = 1 ∧ ∃ k : Nat, k < j ∧ as[k]? = some a) ∨ (h.toInt = 0 ∧ ∀ k : Nat, k < j → ¬ as[k]? = some a)) → as.length - j < n → q_Mr_hasAct_16 A RI E Q n h (nI j) w := by
  induction n with
  | zero => intros; omega
  | succ n ih =>
    intro j h hj hh hm
    have l8 := t.2.2.1
    have tj : (nI j).toInt = (j : Int) := nI_toInt (by omega)
    have tR : RI.toInt.toNat = 40 * g + r := by omega
    have e5 := t.1
    rw [q_Mr_hasAct_16.eq_2, tR, nI_1]
    refine ⟨by omega, fun c => hE h ?_, fun c => ?_⟩
    · rcases hh with ⟨h1, k, _, hk⟩ | ⟨h0, hk⟩
      · exact Or.inl ⟨h1, List.mem_of_getElem? hk⟩
      · refine Or.inr ⟨h0, fun m => ?_⟩
        obtain ⟨k, hk2⟩ := List.mem_iff_getElem?.mp m
        have : k < as.length := (List.getElem?_eq_some_iff.mp hk2).1
        exact hk k (by omega) hk2
    · have jl : j < as.length := by omega
      obtain ⟨b, hb⟩ : ∃ b, as[j]? = some b := ⟨_, List.getElem?_eq_getElem jl⟩
      have e6 := t.2.1 j b hb
      refine ⟨fun z => ih (j + 1) 1 jl (Or.inl ⟨i_1, ?_⟩) (by omega), fun z => ?_⟩
      · rcases hh with ⟨_, k, k1, hk⟩ | ⟨h0, _⟩
        · exact ⟨k, by omega, hk⟩
        · exact absurd h0 z
      · have e8 := ti_mul2 (show (8 : Int32).toInt = 8 by decide) hR (by omega) (by omega)
        have e := ti_add2 e8 tj (by omega) (by omega)
        have en : (((8 : Int32) * RI) + nI j).toInt.toNat = 8 * (40 * g + r) + j := by rw [e]; omega
        rw [en]
        have old : ∀ k : Nat, k < j → ¬ as[k]? = some a := by
          rcases hh with ⟨h1, _⟩ | ⟨_, q⟩
          · have := Classical.not_not.mp z
            omega
          · exact q
        refine ⟨by rw [e]; omega, fun y => ih (j + 1) 0 jl (Or.inr ⟨i_0, fun k hk => ?_⟩) (by omega), fun y => ih (j + 1) 1 jl (Or.inl ⟨i_1, j, by omega, ?_⟩) (by omega)⟩
        · by_cases q : k = j
          · intro z2
            rw [q, hb] at z2
            have := Option.some.inj z2
            omega
          · exact old k (by omega)
        · rw [hb]
          have := Classical.not_not.mp y
          congr 1
          omega
theorem ha_x {w : MW} {g r : Nat} {rs : List Rw} {x : Rw} {RI A : Int32} {Q : Int32 → MW → Prop} (h : RoM w g rs) (hx : rs[r]? = some x) (hr : RI.toInt = (r : Int)) (h1 : A.toInt ∈ x.1 → ∀ y : Int32, ¬ y.toInt = 0 → Q y w) (h0 : ¬ A.toInt ∈ x.1 → ∀ y : Int32, y.toInt = 0 → Q y w) : p_Mr_hasAct w RI A Q := by
  have lt := rs_lt hx
  have l4 := h.2.2.2.1
  have g1 := h.1
  have e40 := ti_mul2 (show (40 : Int32).toInt = 40 by decide) h.2.1 (by omega) (by omega)
  have e := ti_add2 e40 hr (by omega) (by omega)
  have t := (h.2.2.2.2 r x hx).1
  have l8 := t.2.2.1
  refine Eq.mpr (p_Mr_hasAct.eq_1 _ _ _ _) (ha_16 (n := FU) t g1 (by omega) (by rw [e]; omega) (Eq.refl A.toInt) (fun y hy => ?_) 0 0 (Nat.zero_le _) (Or.inr ⟨i_0, fun k hk => absurd hk (Nat.not_lt_zero _)⟩) (Nat.lt_of_le_of_lt (show _ ≤ 8 by omega) (fu_lt (by decide))))
  rcases hy with ⟨y1, m⟩ | ⟨y0, m⟩
  · exact ⟨Or.inr y1, h1 m y (by omega)⟩
  · exact ⟨Or.inl y0, h0 m y y0⟩
theorem mb_14 {w : MW} {g : Nat} {rs : List Rw} {A : Int32} {E : MW → Prop} {Q : Int32 → MW → Prop} (hI : BND w) (hD : DR w) (hR : RoM w g rs) (hE : (∀ (r : Nat) (x : Rw), rs[r]? = some x → ¬ BrW 160 161 162 (sbt (w.1 147 24)) A.toInt w r x) → E w) (hQ : ∀ (r : Nat) (x : Rw), rs[r]? = some x → BrW 160 161 162 (sbt (w.1 147 24)) A.toInt w r x → (∀ (r' : Nat) (x' : Rw), r' < r → rs[r']? = some x' → ¬ BrW 160 161 162 (sbt (w.1 147 24)) A.toInt w r' x') → Q (nI (r + 1)) w) (n : Nat) : ∀ i : Nat, i ≤ rs.length → (∀ (r : Nat) (x : Rw), r < i → rs[r]? = some x → ¬ BrW 160 161 162 (sbt (w.1 147 24)) A.toInt w r x) → rs.length - i < n → q_Mr_act1_14 A E Q n (nI i) w := by
  induction n with
  | zero => intros; omega
  | succ n ih =>
    intro i hi hN hm
    have h4 := hR.2.2.2.1
    have g1 := hR.1
    have ti : (nI i).toInt = (i : Int) := nI_toInt (by omega)
    have tn : (nI i).toInt.toNat = i := by omega
    have l0 := hR.2.2.1
    rw [q_Mr_act1_14.eq_2]
    refine ⟨fun c => hE (fun r x hx => hN r x (by have := rs_lt hx; omega) hx), fun c => ?_⟩
    have il : i < rs.length := by omega
    obtain ⟨x, hx⟩ : ∃ x, rs[i]? = some x := ⟨_, List.getElem?_eq_getElem il⟩
    have t := hR.2.2.2.2 i x hx
    have t57 := t.1.2.2.2.2.2
    have bi : 0 ≤ (nI i).toInt ∧ (nI i).toInt < 40 := by omega
    have sk : ¬ BrW 160 161 162 (sbt (w.1 147 24)) A.toInt w i x → q_Mr_act1_14 A E Q n (nI (i + 1)) w := fun np => ih (i + 1) il (fun r y hr hy => by
      by_cases q : r = i
      · rw [q] at hy ⊢
        rw [Option.some.inj (hy.symm.trans hx)]
        exact np
      · exact hN r y (by omega) hy) (by omega)
    have q0 : ¬ BrW 160 161 162 (sbt (w.1 147 24)) A.toInt w i x → q_Mr_act1_76 A (nI i) 0 w (fun (x14_2 : Int32) (w : MW) => q_Mr_act1_14 A E Q n x14_2 w) E Q := fun np => Eq.mpr (q_Mr_act1_76.eq_1 _ _ _ _ _ _ _) ⟨fun _ => by rw [nI_1]; exact sk np, fun z => absurd i_0 z⟩
    have q1 : (A.toInt ∈ x.1 → BrW 160 161 162 (sbt (w.1 147 24)) A.toInt w i x) → q_Mr_act1_76 A (nI i) 1 w (fun (x14_2 : Int32) (w : MW) => q_Mr_act1_14 A E Q n x14_2 w) E Q := fun p => by
      refine Eq.mpr (q_Mr_act1_76.eq_1 _ _ _ _ _ _ _) ⟨fun z => absurd z i1n, fun _ => ?_⟩
      rw [nI_1]
      exact ha_x hR hx ti (fun m y hy => ⟨fun z => absurd z hy, fun _ => hQ i x hx (p m) hN⟩) (fun m y hy => ⟨fun _ => sk (fun z => m z.1), fun z => absurd hy z⟩)
    have e40 := ti_mul2 (show (40 : Int32).toInt = 40 by decide) hR.2.1 (by omega) (by omega)
    have e := ti_add2 e40 ti (by omega) (by omega)
    have en : (((40 : Int32) * (w.1 147 12)) + nI i).toInt.toNat = 40 * g + i := by rw [e]; omega
    rw [tn]
    refine ⟨bi, fun d => q0 (fun p => d p.2.1), fun d => ⟨bi, fun l => q1 (fun m => ⟨m, Classical.not_not.mp d, Or.inl l⟩), fun l => rm_isOn hI hD hR hx ti (fun y hy => ⟨fun z => q0 (fun p => ?_), fun z => ⟨bi, by rw [e]; omega, ?_⟩⟩)⟩⟩
    · rcases p.2.2 with k | k
      · exact l k
      · exact absurd (k.2.symm.trans (vf_0 hy z)) (by decide)
    · rw [en]
      refine ⟨fun u => q0 (fun p => ?_), fun u => q1 (fun m => ⟨m, Classical.not_not.mp d, Or.inr ⟨by omega, vt_1 hy z⟩⟩)⟩
      rcases p.2.2 with k | k
      · exact l k
      · have := k.1
        omega
/-- the reference's bars -/
theorem mb_bars {w : MW} {g : Nat} {rs : List Rw} {A : Int32} {Q : Int32 → MW → Prop} (hI : BND w) (hD : DR w) (hR : RoM w g rs) (h1 : (A.toInt < 0 ∨ 32 ≤ A.toInt) → Q (-1) w) (h2 : 0 ≤ A.toInt → A.toInt < 32 → ∀ y, FsB (BrW 160 161 162 (sbt (w.1 147 24)) A.toInt w) rs y.toInt → Q y w) : p_Mr_act1 w A Q := by
  have h4 := hR.2.2.2.1
  refine Eq.mpr (p_Mr_act1.eq_1 _ _ _) ⟨fun c => h1 (Or.inl c), fun c => ⟨fun d => ?_, fun d => h1 (Or.inr (by omega))⟩⟩
  exact mb_14 (n := FU) hI hD hR (fun no => h2 (by omega) (by omega) 0 (Or.inr ⟨no, i_0⟩)) (fun r x hx p np => h2 (by omega) (by omega) _ (Or.inl ⟨r, x, hx, p, np, by
    have := rs_lt hx
    rw [nI_toInt (by omega)]
    omega⟩)) 0 (Nat.zero_le _) (fun r x h => absurd h (Nat.not_lt_zero _)) (Nat.lt_of_le_of_lt (show _ ≤ 40 by omega) (fu_lt (by decide)))
/-- row r - 1 may be reset; kb the cell of latched -/
def RsT (kb : Nat) (s : Int → Bool) (rs : List Rw) (w : MW) (a : Int) : Prop := ∃ (r : Nat) (x : Rw), a = (r : Int) + 1 ∧ rs[r]? = some x ∧ ¬ (w.1 kb r).toInt = 0 ∧ vS s x.2.1 = false
def RsP (kb : Nat) (s : Int → Bool) (rs : List Rw) (w : MW) (a : Int32) (y : Int32) (w' : MW) : Prop := (RsT kb s rs w a.toInt ∧ y = 1 ∧ w' = sI w kb (a - (1 : Int32)).toInt.toNat 0) ∨ (¬ RsT kb s rs w a.toInt ∧ y = 0 ∧ w' = w)
theorem rt_i {a : Int32} {n : Nat} (h1 : ¬ a.toInt < 1) (h2 : ¬ (n : Int) < a.toInt) (n4 : n ≤ 40) : ∃ r : Nat, r < n ∧ a.toInt = (r : Int) + 1 ∧ (a - (1 : Int32)).toInt = (r : Int) ∧ (a - (1 : Int32)).toInt.toNat = r := by
  have e := ti_sub2 (Eq.refl a.toInt) i_1 (by omega) (by omega)
  exact ⟨(a.toInt - 1).toNat, by omega, by omega, by omega, by omega⟩
theorem rt_no {kb : Nat} {s : Int → Bool} {rs : List Rw} {w : MW} {a : Int} (h : a < 1 ∨ (rs.length : Int) < a) : ¬ RsT kb s rs w a := fun ⟨r, x, e, hx, _⟩ => by
  have := rs_lt hx
  omega
theorem rt_r {kb : Nat} {s : Int → Bool} {rs : List Rw} {w : MW} {a : Int} {r : Nat} {x : Rw} (e : a = (r : Int) + 1) (hx : rs[r]? = some x) (h : RsT kb s rs w a) : ¬ (w.1 kb r).toInt = 0 ∧ vS s x.2.1 = false := by
  obtain ⟨r', x', e', hx', h1, h2⟩ := h
  have : r' = r := by omega
  rw [this] at hx' h1
  rw [Option.some.inj (hx'.symm.trans hx)] at h2
  exact ⟨h1, h2⟩
theorem cb_reset {w : MW} {rs : List Rw} {a : Int32} {Q : Int32 → MW → Prop} (h4 : w.2.2 47 3 = some 48) (hS : RsC w rs) (hg : GrS rs) (hQ : ∀ y w', RsP 50 (sbt (w.1 48 1)) rs w a y w' → Q y w') : p_Bh_reset w a Q := by
  have l0 := hS.1
  have l4 := hg.1
  have no : ¬ RsT 50 (sbt (w.1 48 1)) rs w a.toInt → Q 0 w := fun n => hQ 0 w (Or.inr ⟨n, rfl, rfl⟩)
  refine Eq.mpr (p_Bh_reset.eq_1 _ _ _) ⟨h4, Eq.mpr (p_Ro_has.eq_1 _ _ _) ⟨fun c => ⟨fun _ => no (rt_no (Or.inl c)), fun z => absurd i_0 z⟩, fun c => ⟨fun d => ⟨fun _ => no (rt_no (Or.inr (by omega))), fun z => absurd i_0 z⟩, fun d => ⟨fun z => absurd z i1n, fun _ => ?_⟩⟩⟩⟩
  obtain ⟨r, rl, ea, er, en⟩ := rt_i (n := rs.length) c (by omega) l4
  obtain ⟨x, hx⟩ : ∃ x, rs[r]? = some x := ⟨_, List.getElem?_eq_getElem rl⟩
  have bi : 0 ≤ (a - (1 : Int32)).toInt ∧ (a - (1 : Int32)).toInt < 40 := by omega
  refine ⟨bi, ?_⟩
  rw [nar0z]
  refine ⟨fun z => no (fun t => (rt_r ea hx t).1 (by rw [en] at z; exact z)), fun z => rs_isOn hS hg hx er (fun y hy => ⟨fun v => ⟨bi, hQ 1 _ (Or.inl ⟨⟨r, x, ea, hx, by rw [en] at z; exact z, vf_0 hy v⟩, rfl, rfl⟩)⟩, fun v => no (fun t => ?_)⟩)⟩
  exact absurd ((rt_r ea hx t).2.symm.trans (vt_1 hy v)) (by decide)
theorem mb_reset {w : MW} {g : Nat} {rs : List Rw} {a : Int32} {Q : Int32 → MW → Prop} (hI : BND w) (hD : DR w) (hR : RoM w g rs) (hQ : ∀ y w', RsP 161 (sbt (w.1 147 24)) rs w a y w' → Q y w') : p_Mo_reset w a Q := by
  have l0 := hR.2.2.1
  have l4 := hR.2.2.2.1
  have no : ¬ RsT 161 (sbt (w.1 147 24)) rs w a.toInt → Q 0 w := fun n => hQ 0 w (Or.inr ⟨n, rfl, rfl⟩)
  refine Eq.mpr (p_Mo_reset.eq_1 _ _ _) (Eq.mpr (p_Mr_reset.eq_1 _ _ _) (Eq.mpr (p_Mr_isRow.eq_1 _ _ _) ⟨fun c => ⟨fun _ => no (rt_no (Or.inl c)), fun z => absurd i_0 z⟩, fun c => ⟨fun d => ⟨fun _ => no (rt_no (Or.inr (by omega))), fun z => absurd i_0 z⟩, fun d => ⟨fun z => absurd z i1n, fun _ => ?_⟩⟩⟩))
  obtain ⟨r, rl, ea, er, en⟩ := rt_i (n := rs.length) c (by omega) l4
  obtain ⟨x, hx⟩ : ∃ x, rs[r]? = some x := ⟨_, List.getElem?_eq_getElem rl⟩
  have bi : 0 ≤ (a - (1 : Int32)).toInt ∧ (a - (1 : Int32)).toInt < 40 := by omega
  refine ⟨bi, ?_⟩
  rw [nar0z]
  refine ⟨fun z => no (fun t => (rt_r ea hx t).1 (by rw [en] at z; exact z)), fun z => rm_isOn hI hD hR hx er (fun y hy => ⟨fun v => ⟨bi, hQ 1 _ (Or.inl ⟨⟨r, x, ea, hx, by rw [en] at z; exact z, vf_0 hy v⟩, rfl, rfl⟩)⟩, fun v => no (fun t => ?_)⟩)⟩
  exact absurd ((rt_r ea hx t).2.symm.trans (vt_1 hy v)) (by decide)
/-- what row tells -/
def rwv (b c l p : Int) (v : Bool) : Int := if b = 0 then c else if b = 1 then (if l = 0 then 0 else 1) else if b = 2 then p else if b = 3 then (if v = true then 1 else 0) else -1
def RwV (ka kb kc : Nat) (s : Int → Bool) (rs : List Rw) (w : MW) (a b y : Int) : Prop := (∃ (r : Nat) (x : Rw), a = (r : Int) + 1 ∧ rs[r]? = some x ∧ y = rwv b (w.1 ka r).toInt (w.1 kb r).toInt (w.1 kc r).toInt (vS s x.2.1)) ∨ ((a < 1 ∨ (rs.length : Int) < a) ∧ y = -1)
theorem rwv_0 {b c l p : Int} {v : Bool} (h : b = 0) : rwv b c l p v = c := by
  unfold rwv
  rw [if_pos h]
theorem rwv_1 {b c l p : Int} {v : Bool} (h : b = 1) : rwv b c l p v = if l = 0 then 0 else 1 := by
  unfold rwv
  rw [if_neg (by omega), if_pos h]
theorem rwv_2 {b c l p : Int} {v : Bool} (h : b = 2) : rwv b c l p v = p := by
  unfold rwv
  rw [if_neg (by omega), if_neg (by omega), if_pos h]
theorem rwv_3 {b c l p : Int} {v : Bool} (h : b = 3) : rwv b c l p v = if v = true then 1 else 0 := by
  unfold rwv
  rw [if_neg (by omega), if_neg (by omega), if_neg (by omega), if_pos h]
theorem rwv_4 {b c l p : Int} {v : Bool} (h : b < 0 ∨ 3 < b) : rwv b c l p v = -1 := by
  unfold rwv
  rw [if_neg (by omega), if_neg (by omega), if_neg (by omega), if_neg (by omega)]
theorem in1 : (-1 : Int32).toInt = -1 := by decide
theorem cb_row {w : MW} {rs : List Rw} {a b : Int32} {Q : Int32 → MW → Prop} (h4 : w.2.2 47 3 = some 48) (hS : RsC w rs) (hg : GrS rs) (hQ : ∀ y : Int32, RwV 49 50 51 (sbt (w.1 48 1)) rs w a.toInt b.toInt y.toInt → Q y w) : p_Bh_row w a b Q := by
  have l0 := hS.1
  have l4 := hg.1
  have no : (a.toInt < 1 ∨ (rs.length : Int) < a.toInt) → Q (-1) w := fun n => hQ _ (Or.inr ⟨n, in1⟩)
  refine Eq.mpr (p_Bh_row.eq_1 _ _ _ _) ⟨h4, Eq.mpr (p_Ro_has.eq_1 _ _ _) ⟨fun c => ⟨fun z => absurd i_0 z, fun _ => no (Or.inl c)⟩, fun c => ⟨fun d => ⟨fun z => absurd i_0 z, fun _ => no (Or.inr (by omega))⟩, fun d => ⟨fun _ => ?_, fun z => absurd i1n z⟩⟩⟩⟩
  obtain ⟨r, rl, ea, er, en⟩ := rt_i (n := rs.length) c (by omega) l4
  obtain ⟨x, hx⟩ : ∃ x, rs[r]? = some x := ⟨_, List.getElem?_eq_getElem rl⟩
  have bi : 0 ≤ (a - (1 : Int32)).toInt ∧ (a - (1 : Int32)).toInt < 40 := by omega
  have ok : ∀ y : Int32, y.toInt = rwv b.toInt (w.1 49 r).toInt (w.1 50 r).toInt (w.1 51 r).toInt (vS (sbt (w.1 48 1)) x.2.1) → Q y w := fun y e => hQ y (Or.inl ⟨r, x, ea, hx, e⟩)
  rw [en]
  refine ⟨fun z => ⟨bi, ok _ (rwv_0 z).symm⟩, fun z0 => ⟨fun z => ⟨bi, fun l => ok 0 ?_, fun l => ok 1 ?_⟩, fun z1 => ⟨fun z => ⟨bi, ok _ (rwv_2 z).symm⟩, fun z2 => ⟨fun z => rs_isOn hS hg hx er (fun y hy => ⟨fun v => ok 0 ?_, fun v => ok 1 ?_⟩), fun z3 => ?_⟩⟩⟩⟩
  · rw [rwv_1 z, if_pos l]
    exact i_0
  · rw [rwv_1 z, if_neg l]
    exact i_1
  · rw [rwv_3 z, vf_0 hy v]
    exact i_0
  · rw [rwv_3 z, vt_1 hy v]
    exact i_1
  · by_cases q : b.toInt < 0 ∨ 3 < b.toInt
    · exact ok (-1) ((in1).trans (rwv_4 q).symm)
    · omega
theorem mb_row {w : MW} {g : Nat} {rs : List Rw} {a b : Int32} {Q : Int32 → MW → Prop} (hI : BND w) (hD : DR w) (hR : RoM w g rs) (hQ : ∀ y : Int32, RwV 160 161 162 (sbt (w.1 147 24)) rs w a.toInt b.toInt y.toInt → Q y w) : p_Mo_row w a b Q := by
  have l0 := hR.2.2.1
  have l4 := hR.2.2.2.1
  have no : (a.toInt < 1 ∨ (rs.length : Int) < a.toInt) → Q (-1) w := fun n => hQ _ (Or.inr ⟨n, in1⟩)
  refine Eq.mpr (p_Mo_row.eq_1 _ _ _ _) ⟨fun c => no (Or.inl c), fun c => ⟨fun d => no (Or.inr (by omega)), fun d => ?_⟩⟩
  obtain ⟨r, rl, ea, er, en⟩ := rt_i (n := rs.length) c (by omega) l4
  obtain ⟨x, hx⟩ : ∃ x, rs[r]? = some x := ⟨_, List.getElem?_eq_getElem rl⟩
  have bi : 0 ≤ (a - (1 : Int32)).toInt ∧ (a - (1 : Int32)).toInt < 40 := by omega
  have ok : ∀ y : Int32, y.toInt = rwv b.toInt (w.1 160 r).toInt (w.1 161 r).toInt (w.1 162 r).toInt (vS (sbt (w.1 147 24)) x.2.1) → Q y w := fun y e => hQ y (Or.inl ⟨r, x, ea, hx, e⟩)
  rw [en]
  refine ⟨fun z => ok (-1) (in1.trans (rwv_4 (Or.inl z)).symm), fun b0 => ⟨fun b3 => ⟨fun z0 => ⟨fun z1 => ⟨fun z2 => rm_isOn hI hD hR hx er (fun y hy => ⟨fun v => ok 0 ?_, fun v => ok 1 ?_⟩), fun z2 => ⟨bi, ok _ (rwv_2 (Classical.not_not.mp z2)).symm⟩⟩, fun z1 => ⟨bi, fun l => ok 0 ?_, fun l => ok 1 ?_⟩⟩, fun z0 => ⟨bi, ok _ (rwv_0 (Classical.not_not.mp z0)).symm⟩⟩, fun b3 => ok (-1) (in1.trans (rwv_4 (Or.inr (by omega))).symm)⟩⟩
  · rw [rwv_3 (by omega), vf_0 hy v]
    exact i_0
  · rw [rwv_3 (by omega), vt_1 hy v]
    exact i_1
  · rw [rwv_1 (Classical.not_not.mp z1), if_pos l]
    exact i_0
  · rw [rwv_1 (Classical.not_not.mp z1), if_neg l]
    exact i_1
