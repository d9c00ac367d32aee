/-! the reference reads the acts of a row -/
theorem rw42 {w : MW} {RI cI x3 : Int32} {R cnt : Nat} {Q : Int32 → MW → Prop} (hR : RI.toInt = (R : Int)) (R8 : R < 80) (hc : cI.toInt = (cnt : Int)) (c8 : cnt ≤ 8) : ∀ (l : List Int) (k : Nat) (b : Int32) (m : Nat) (E : Int32 → MW → Prop), (∀ (j : Nat) (x : Int), l[j]? = some x → (w.1 156 (8 * R + (k + j))).toInt = x) → k + l.length = cnt → l.length < m → (∀ b' : Int32, b'.toInt = (if b.toInt ∈ l then -1 else b.toInt) → E b' w) → q_Mr_readRow_42 RI cI x3 E Q m b (nI k) w := by
  intro l
  induction l with
  | nil =>
    intro k b m E hl hk hm hE
    have hk' : k = cnt := hk
    cases m with
    | zero => exact absurd hm (Nat.not_lt_zero _)
    | succ m =>
      have tk : (nI k).toInt = (k : Int) := nI_toInt (by omega)
      rw [q_Mr_readRow_42.eq_2]
      exact ⟨fun _ => hE b (by rw [if_neg (fun z => by cases z)]), fun z => by omega⟩
  | cons y l ih =>
    intro k b m E hl hk hm hE
    have hk' : k + (l.length + 1) = cnt := hk
    cases m with
    | zero => exact absurd hm (Nat.not_lt_zero _)
    | succ m =>
      have hm' : l.length + 1 < m + 1 := hm
      have tk : (nI k).toInt = (k : Int) := nI_toInt (by omega)
      have e8 := ti_mul2 (by decide : ((8 : Int32)).toInt = 8) hR (by omega) (by omega)
      have ex := ti_add2 e8 tk (by omega) (by omega)
      have en : (((8 : Int32) * RI) + nI k).toInt.toNat = 8 * R + (k + 0) := by rw [ex]; omega
      have ey := hl 0 y rfl
      rw [q_Mr_readRow_42.eq_2]
      refine ⟨fun z => by omega, fun _ => ⟨by rw [ex]; omega, ?_⟩⟩
      rw [en, ey, nI_1]
      have hl' : ∀ (j : Nat) (x : Int), l[j]? = some x → (w.1 156 (8 * R + (k + 1 + j))).toInt = x := fun j x hx => by
        have := hl (j + 1) x hx
        rw [show k + 1 + j = k + (j + 1) by omega]
        exact this
      refine ⟨fun z => ih (k + 1) b m E hl' (by omega) (by omega) (fun b' hb' => hE b' ?_), fun z => ih (k + 1) (-1) m E hl' (by omega) (by omega) (fun b' hb' => hE b' ?_)⟩
      · rw [hb']
        by_cases q : b.toInt ∈ l
        · rw [if_pos q, if_pos (List.mem_cons_of_mem _ q)]
        · rw [if_neg q, if_neg (fun t => by
            rcases List.mem_cons.mp t with t | t
            · exact z t.symm
            · exact q t)]
      · have z' := Classical.not_not.mp z
        rw [hb', if_pos (show b.toInt ∈ y :: l by rw [← z']; exact List.mem_cons_self)]
        by_cases q : (-1 : Int32).toInt ∈ l
        · rw [if_pos q]
        · rw [if_neg q]
          exact i_m1
theorem when_a {f : Int → Int} {n : Int} {i : Nat} (h : wq f n i (ltr 7 4) = true) : actw f n i < 0 := by
  rw [ltw_7] at h
  have t := wq_4.mp h
  have e : f (wat f n i) = 119 := by
    have a := atv_in (f := f) (n := n) (i := i) (a := 0) (by omega)
    rw [Int.add_zero] at a
    rw [← a]
    exact t.2.1
  unfold actw
  rw [if_neg (by rw [e]; decide)]
  decide
def lra : Pl := [(147, some 5), (156, none)]
/-- the acts of row R as they stand -/
def AcM (w : MW) (R : Nat) (as : List Int) : Prop := ∀ (k : Nat) (a : Int), as[k]? = some a → (w.1 156 (8 * R + k)).toInt = a
theorem rw29 {w0 : MW} {RI : Int32} {f : Int → Int} {n : Int} {W R : Nat} {E Q : Int32 → MW → Prop} (hT : TXW f n W) (hR : RI.toInt = (R : Int)) (R8 : R < 80) (m : Nat) : ∀ (w : MW) (as : List Int) (i k : Nat) (y : Bool × List Int × Nat), MS w f n W i → FR lra w0 w → (∀ j : Nat, (j < 8 * R ∨ 8 * R + 8 ≤ j) → w.1 156 j = w0.1 156 j) → AcM w R as → as.length ≤ 8 → 10 ≤ k + as.length → acF f n k as i = y → (∀ (as' : List Int) (i' : Nat) (w' : MW), MS w' f n W i' → FR lra w0 w' → (∀ j : Nat, (j < 8 * R ∨ 8 * R + 8 ≤ j) → w'.1 156 j = w0.1 156 j) → AcM w' R as' → as'.length ≤ 8 → i ≤ i' → y = (if ¬ as' = [] ∧ wq f n i' (ltr 7 4) = true then (true, as', i') else (false, [], i')) → E (nI as'.length) w') → 10 - as.length < m → q_Mr_readRow_29 RI E Q m (nI as.length) 1 w := by
  induction m with
  | zero => intros; omega
  | succ m ih =>
    intro w as i k y hS hF hK hA a8 hk ey hE hm
    have W4 := hS.2.1.2.1
    have tl : (nI as.length).toInt = (as.length : Int) := nI_toInt (by omega)
    obtain ⟨k', ek⟩ : ∃ k', k = k' + 1 := ⟨k - 1, by omega⟩
    rw [ek, acF_u] at ey
    obtain ⟨m', em⟩ : ∃ m', m = m' + 1 := ⟨m - 1, by omega⟩
    have stop : (actw f n i < 0 ∨ as.length = 8 ∨ actw f n i ∈ as) → q_Mr_readRow_29 RI E Q m (nI as.length) 0 w := fun z => by
      rw [em, q_Mr_readRow_29.eq_2]
      refine ⟨fun _ => hE as i w hS hF hK hA a8 (Nat.le_refl _) ?_, fun y => absurd i_0 y⟩
      by_cases q : ¬ as = [] ∧ wq f n i (ltr 7 4) = true
      · rw [if_pos q] at ey ⊢
        exact ey.symm
      · rw [if_neg q] at ey ⊢
        rw [if_pos z] at ey
        exact ey.symm
    rw [q_Mr_readRow_29.eq_2]
    refine ⟨fun z => absurd z i1n, fun _ => mac hT hS (fun r er => ?_)⟩
    refine rw42 hR R8 tl a8 as 0 r FU _ (fun j x hx => by rw [Nat.zero_add]; exact hA j x hx) (Nat.zero_add _) (Nat.lt_of_le_of_lt a8 (fu_lt (by decide))) (fun b hb => ?_)
    rw [er] at hb
    refine ⟨fun z => stop ?_, fun z => ⟨fun z2 => ?_, fun z2 => stop (Or.inr (Or.inl ?_))⟩⟩
    · by_cases q : actw f n i ∈ as
      · exact Or.inr (Or.inr q)
      · rw [if_neg q] at hb
        exact Or.inl (by omega)
    · have q : ¬ actw f n i ∈ as := fun q => by
        rw [if_pos q] at hb
        omega
      rw [if_neg q] at hb
      have e8 := ti_mul2 (by decide : ((8 : Int32)).toInt = 8) hR (by omega) (by omega)
      have ex := ti_add2 e8 tl (by omega) (by omega)
      have en : (((8 : Int32) * RI) + nI as.length).toInt.toNat = 8 * R + as.length := by rw [ex]; omega
      rw [tl] at z2
      have a2 := (actw_b (f := f) (n := n) (i := i)).2 (by omega)
      have iW := lt_W hT (show 0 < wnd f n i - wat f n i by omega)
      have s5 := ti_add2 hS.2.2.1 i_1 (by omega) (by omega)
      refine ⟨by rw [ex]; omega, ?_⟩
      rw [en, nI_1]
      have F1 : FR lra w (sI (sI w 156 (8 * R + as.length) b) 147 5 ((w.1 147 5) + (1 : Int32))) := FR.I (FR.I (FR.refl _ w) rfl) rfl
      have r5 : ((sI (sI w 156 (8 * R + as.length) b) 147 5 ((w.1 147 5) + (1 : Int32))).1 147 5).toInt = ((i + 1 : Nat) : Int) := by
        rw [sI_same, s5]
        omega
      have rb : ((sI (sI w 156 (8 * R + as.length) b) 147 5 ((w.1 147 5) + (1 : Int32))).1 156 (8 * R + as.length)).toInt = actw f n i := by
        rw [sI_oth _ _ _ _ _ _ (by decide), sI_same]
        exact hb
      have rk : ∀ j : Nat, ¬ j = 8 * R + as.length → (sI (sI w 156 (8 * R + as.length) b) 147 5 ((w.1 147 5) + (1 : Int32))).1 156 j = w.1 156 j := fun j hj => by
        rw [sI_oth _ _ _ _ _ _ (by decide), sI_ne _ _ _ _ _ hj]
      generalize (sI (sI w 156 (8 * R + as.length) b) 147 5 ((w.1 147 5) + (1 : Int32))) = w1 at *
      have el : (as ++ [actw f n i]).length = as.length + 1 := by
        rw [List.length_append]
        rfl
      rw [if_neg (fun t => by have := when_a t.2; omega), if_neg (fun t => by
        rcases t with t | t | t
        · omega
        · omega
        · exact q t)] at ey
      rw [← el]
      refine ih w1 (as ++ [actw f n i]) (i + 1) k' y (ms_fr hS F1 rfl r5 (by omega)) (hF.tr F1 rfl) (fun j hj => (rk j (by omega)).trans (hK j hj)) (fun j x hx => ?_) (by omega) (by omega) ey (fun as' i' w' h1 h2 h3 h4 h5 h6 h7 => hE as' i' w' h1 h2 h3 h4 h5 (by omega) h7) (by omega)
      by_cases c : j < as.length
      · rw [List.getElem?_append_left c] at hx
        rw [rk _ (by omega)]
        exact hA j x hx
      · have jl : j < (as ++ [actw f n i]).length := by
          by_cases c2 : j < (as ++ [actw f n i]).length
          · exact c2
          · rw [List.getElem?_eq_none (by omega)] at hx
            exact absurd hx (by intro z; cases z)
        have je : j = as.length := by omega
        rw [je, List.getElem?_append_right (Nat.le_refl _), Nat.sub_self] at hx
        rw [je, rb]
        exact Option.some.inj hx
    · rw [tl] at z2
      have := Classical.not_not.mp z2
      omega
