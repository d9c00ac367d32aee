/-! the reference reads all rows -/
theorem mr26 {w0 : MW} {f : Int → Int} {n : Int} {W : Nat} {H : Int} {g : Nat} {E Q : Int32 → MW → Prop} (hT : TXW f n W) (h01 : H = 0 ∨ H = 1) (hg : (g : Int) = 1 - H) (hE1 : ∀ w' rs' N' j, FR lrz w0 w' → KR (3000 * H) (3000 * H + 3000) (40 * H) (40 * H + 40) w0 w' → GN w' f n W H g rs' N' j → N' ≤ 3000 → rs'.length ≤ 40 → (∃ k, RdQ f n k [] 0 (-1) rs') → E 1 w') (hE0 : ∀ w' (r : Nat), FR lrz w0 w' → KR (3000 * H) (3000 * H + 3000) (40 * H) (40 * H + 40) w0 w' → (∃ k, RdQ f n k [] 0 (r : Int) []) → (w'.1 147 5).toInt = (r : Int) → r ≤ W → E 0 w') (m : Nat) : ∀ (w : MW) (rs : List Rw) (N i : Nat), FR lrz w0 w → KR (3000 * H) (3000 * H + 3000) (40 * H) (40 * H + 40) w0 w → GN w f n W H g rs N i → rs.length ≤ 40 → N ≤ lwn f n i → (∀ r x, (∃ k, RdQ f n k rs i r x) → ∃ k, RdQ f n k [] 0 r x) → 42 - rs.length < m → q_Mr_read_26 E Q m 1 w := by
  induction m with
  | zero => intros; omega
  | succ m ih =>
    intro w rs N i hF hK h c40 hN hc hm
    have mx := lw_max (f := f) hT.1 hT.2.1 i
    have W4 := h.1.2.1.2.1
    obtain ⟨m', em⟩ : ∃ m', m = m' + 1 := ⟨m - 1, by omega⟩
    rw [q_Mr_read_26.eq_2]
    refine ⟨fun z => absurd z i1n, fun _ => ⟨fun z => ?_, fun z => ?_⟩⟩
    · rw [h.1.2.1.1, h.1.2.2.1] at z
      have e := wat_e hT.1 hT.2.2 (i - W)
      rw [show W + (i - W) = i by omega] at e
      exact hE1 w rs N i hF hK h (by omega) c40 (hc _ _ ⟨1, Or.inl ⟨by omega, rfl, rfl⟩⟩)
    rw [h.1.2.1.1, h.1.2.2.1] at z
    have iw := (h.1.2.1.2.2 i (by omega)).2.2
    have fail : ∀ (w' : MW) (r : Nat), FR lrz w w' → KR (3000 * H) (3000 * H + 3000) (40 * H) (40 * H + 40) w w' → (∃ k, RdQ f n k rs i (r : Int) []) → (w'.1 147 5).toInt = (r : Int) → r ≤ W → q_Mr_read_26 E Q m 0 w' := fun w' r F' K' hk e eb => by
      rw [em, q_Mr_read_26.eq_2]
      exact ⟨fun _ => hE0 w' r (hF.tr F' rfl) (hK.tr K') (hc _ _ hk) e eb, fun y => absurd i_0 y⟩
    have K0 : KR (3000 * H) (3000 * H + 3000) (40 * H) (40 * H + 40) w w := ⟨fun _ _ _ _ _ => rfl, fun _ _ _ _ _ => rfl, fun _ _ _ => rfl⟩
    refine mis3 hT h.1 (A := 98) (B := 97) (C := 114) (by decide) (by decide) (by decide) (fun q => ⟨fun y => absurd y i1n, fun _ => ⟨fun y => ?_, fun y => ?_⟩⟩) (fun q => ⟨fun _ => ?_, fun y => absurd i_0 y⟩)
    · rw [h.2.2.2.1] at y
      exact fail w i (FR.refl _ w) K0 ⟨1, Or.inr (Or.inl ⟨iw, by omega, rfl, rfl⟩)⟩ h.1.2.2.1 h.1.2.2.2
    · rw [h.2.2.2.1] at y
      refine mrow hT h01 hg h (by omega) hN (by rw [ltw_6]; exact q) (fun b w' x S' F' K' h1 h0 => ?_)
      cases hx : x.1 with
      | false =>
        have e := h0 hx
        exact ⟨fun _ => fail w' x.2.2 F' K' ⟨1, Or.inr (Or.inr ⟨iw, by omega, x, S', Or.inl ⟨hx, rfl, rfl⟩⟩)⟩ e.2.1 e.2.2, fun t => absurd e.1 t⟩
      | true =>
        obtain ⟨e, N', g', n'⟩ := h1 hx
        have el : (rs ++ [x.2.1]).length = rs.length + 1 := by
          rw [List.length_append]
          rfl
        refine ⟨fun t => absurd (e.symm.trans t) (by decide), fun _ => ih w' (rs ++ [x.2.1]) N' x.2.2 (hF.tr F' rfl) (hK.tr K') g' (by omega) n' (fun r y hk => hc r y ?_) (by omega)⟩
        obtain ⟨k, hk⟩ := hk
        exact ⟨k + 1, Or.inr (Or.inr ⟨iw, by omega, x, S', Or.inr ⟨hx, hk⟩⟩)⟩
    · by_cases l40 : rs.length = 40
      · exact fail w i (FR.refl _ w) K0 ⟨1, Or.inr (Or.inl ⟨iw, l40, rfl, rfl⟩)⟩ h.1.2.2.1 h.1.2.2.2
      · refine fail w i (FR.refl _ w) K0 ⟨1, Or.inr (Or.inr ⟨iw, by omega, rwF i, ?_, Or.inl ⟨rfl, rfl, rfl⟩⟩)⟩ h.1.2.2.1 h.1.2.2.2
        unfold RowS
        rw [ltw_6, if_neg (nt q)]
def lcn : Pl := [(160, none), (161, none), (162, none)]
theorem mr115 {w0 : MW} {L : Nat} {E : MW → Prop} {Q : Int32 → MW → Prop} (hL : (w0.1 147 20).toInt = (L : Int)) (L4 : L ≤ 40) (hE : ∀ w', FR lcn w0 w' → (∀ r : Nat, r < L → w'.1 160 r = 0 ∧ w'.1 161 r = 0 ∧ w'.1 162 r = 0) → E w') (m : Nat) : ∀ (j : Nat) (w : MW), j ≤ L → FR lcn w0 w → (∀ r : Nat, r < j → w.1 160 r = 0 ∧ w.1 161 r = 0 ∧ w.1 162 r = 0) → L - j < m → q_Mr_read_115 E Q m (nI j) w := by
  induction m with
  | zero => intros; omega
  | succ m ih =>
    intro j w hj hF hz hm
    have tj : (nI j).toInt = (j : Int) := nI_toInt (by omega)
    have e20 : (w.1 147 20).toInt = (L : Int) := by rw [(hF 147 20 rfl).1]; exact hL
    rw [q_Mr_read_115.eq_2]
    refine ⟨fun c => hE w hF (fun r hr => hz r (by omega)), fun c => ?_⟩
    have bj : 0 ≤ (nI j).toInt ∧ (nI j).toInt < 40 := by rw [tj]; omega
    refine ⟨bj, bj, bj, ?_⟩
    rw [nI_1, nar0z, show (nI j).toInt.toNat = j by rw [tj]; omega]
    refine ih (j + 1) _ (by omega) (FR.I (FR.I (FR.I hF rfl) rfl) rfl) (fun r hr => ?_) (by omega)
    by_cases q : r = j
    · rw [q]
      refine ⟨?_, ?_, ?_⟩
      · rw [sI_oth _ _ _ _ _ _ (by decide), sI_oth _ _ _ _ _ _ (by decide), sI_same]
      · rw [sI_oth _ _ _ _ _ _ (by decide), sI_same]
      · rw [sI_same]
    · have t := hz r (by omega)
      refine ⟨?_, ?_, ?_⟩
      · rw [sI_oth _ _ _ _ _ _ (by decide), sI_oth _ _ _ _ _ _ (by decide), sI_ne _ _ _ _ _ q]
        exact t.1
      · rw [sI_oth _ _ _ _ _ _ (by decide), sI_ne _ _ _ _ _ q, sI_oth _ _ _ _ _ _ (by decide)]
        exact t.2.1
      · rw [sI_ne _ _ _ _ _ q, sI_oth _ _ _ _ _ _ (by decide), sI_oth _ _ _ _ _ _ (by decide)]
        exact t.2.2
/-- the rows rs stand, in half g -/
def RoM (w : MW) (g : Nat) (rs : List Rw) : Prop := g ≤ 1 ∧ (w.1 147 12).toInt = (g : Int) ∧ (w.1 147 20).toInt = (rs.length : Int) ∧ rs.length ≤ 40 ∧ ∀ (r : Nat) (x : Rw), rs[r]? = some x → RwM w g r 3000 x
theorem rom_k {w w' : MW} {g : Nat} {rs : List Rw} (h : RoM w g rs) (e1 : w'.1 147 12 = w.1 147 12) (e2 : w'.1 147 20 = w.1 147 20) (hK : KR (3000 * (g : Int)) (3000 * (g : Int) + 3000) (40 * (g : Int)) (40 * (g : Int) + 40) w w') : RoM w' g rs :=
  ⟨h.1, by rw [e1]; exact h.2.1, by rw [e2]; exact h.2.2.1, h.2.2.2.1, fun r x hx => by
    have := rs_lt hx
    have l4 := h.2.2.2.1
    exact rwm_k (h.2.2.2.2 r x hx) (hK.mono (Int.le_refl _) (by omega) (Int.le_refl _) (Int.le_refl _)) (by omega) (by omega) (Nat.le_refl _)⟩
def lmq : Pl := [(147, some 1), (147, some 4), (147, some 5), (147, some 6), (147, some 7), (147, some 11), (147, some 12), (147, some 13), (147, some 20), (149, none), (150, none), (151, none), (152, none), (153, none), (154, none), (155, none), (156, none), (157, none), (158, none), (159, none), (160, none), (161, none), (162, none)]
/-- the reference reads interlocks -/
theorem mq_read {w : MW} {f : Int → Int} {n : Int} {g0 : Nat} {rs0 : List Rw} {Q : Int32 → MW → Prop} (n0 : 0 ≤ n) (n4 : n ≤ 4000) (hs : (w.1 147 1).toInt = n) (hM : MT w f n) (h0 : RoM w g0 rs0) (hQ : ∀ (a : Int32) (w' : MW), FR lmq w w' → (w'.1 147 1).toInt = 0 → ((∃ g rs, (∃ k, RdQ f n k [] 0 (-1) rs) ∧ RoM w' g rs ∧ a.toInt = (rs.length : Int) ∧ ∀ r : Nat, r < rs.length → w'.1 160 r = 0 ∧ w'.1 161 r = 0 ∧ w'.1 162 r = 0) ∨ (∃ r : Nat, (∃ k, RdQ f n k [] 0 (r : Int) []) ∧ r ≤ 4000 ∧ a.toInt = -1 - (r : Int) ∧ RoM w' g0 rs0 ∧ (∀ j : Nat, w'.1 160 j = w.1 160 j ∧ w'.1 161 j = w.1 161 j ∧ w'.1 162 j = w.1 162 j))) → Q a w') : p_Mr_read w Q := by
  refine Eq.mpr (p_Mr_read.eq_1 _ _) (mq_cut n0 n4 hs hM (fun w1 W F1 c1 eW => ?_))
  have hT : TXW f n W := ⟨n0, n4, eW⟩
  have gb := h0.1
  obtain ⟨g, hg⟩ : ∃ g : Nat, (g : Int) = 1 - (g0 : Int) := ⟨1 - g0, by omega⟩
  have h01 : (g0 : Int) = 0 ∨ (g0 : Int) = 1 := by omega
  have F2 : FR [(147, some 1), (147, some 5), (147, some 11), (147, some 13)] w1 (sI (sI (sI (sI w1 147 1 0) 147 5 0) 147 11 0) 147 13 0) := FR.I (FR.I (FR.I (FR.I (FR.refl _ w1) rfl) rfl) rfl) rfl
  have r1 : ((sI (sI (sI (sI w1 147 1 0) 147 5 0) 147 11 0) 147 13 0).1 147 1).toInt = 0 := by
    rw [sI_ne _ _ _ _ _ (by decide), sI_ne _ _ _ _ _ (by decide), sI_ne _ _ _ _ _ (by decide), sI_same]
    exact i_0
  have r5 : ((sI (sI (sI (sI w1 147 1 0) 147 5 0) 147 11 0) 147 13 0).1 147 5).toInt = ((0 : Nat) : Int) := by
    rw [sI_ne _ _ _ _ _ (by decide), sI_ne _ _ _ _ _ (by decide), sI_same]
    exact i_0
  have r11 : ((sI (sI (sI (sI w1 147 1 0) 147 5 0) 147 11 0) 147 13 0).1 147 11).toInt = ((0 : Nat) : Int) := by
    rw [sI_ne _ _ _ _ _ (by decide), sI_same]
    exact i_0
  have r13 : ((sI (sI (sI (sI w1 147 1 0) 147 5 0) 147 11 0) 147 13 0).1 147 13).toInt = (([] : List Rw).length : Int) := by
    rw [sI_same]
    exact i_0
  generalize (sI (sI (sI (sI w1 147 1 0) 147 5 0) 147 11 0) 147 13 0) = w2 at *
  have F12 : FR [(147, some 1), (147, some 4), (147, some 5), (147, some 11), (147, some 13), (149, none), (150, none)] w w2 := (FR.tr (FR.refl _ w) F1 rfl).tr F2 rfl
  have M2 : MT w2 f n := fun p hp => by rw [(F12 148 p rfl).1]; exact hM p hp
  have C2 : WC w2 f n W := ⟨by rw [(F2 147 4 rfl).1]; exact c1.1, c1.2.1, fun j hj => by rw [(F2 149 j rfl).1, (F2 150 j rfl).1]; exact c1.2.2 j hj⟩
  have h12 : (w2.1 147 12).toInt = (g0 : Int) := by rw [(F12 147 12 rfl).1]; exact h0.2.1
  refine mr26 (w0 := w2) hT h01 hg (fun w' rs' N' j F' K' G' N3 L4 hk => ?_) (fun w' r F' K' hk e eb => ?_) FU w2 [] 0 0 (FR.refl _ w2) ⟨fun _ _ _ _ _ => rfl, fun _ _ _ _ _ => rfl, fun _ _ _ => rfl⟩ ⟨⟨M2, C2, r5, Nat.zero_le _⟩, h12, r11, r13, fun r x hx => by cases hx⟩ (by decide) (Nat.zero_le _) (fun r x hk => hk) (fu_lt (by decide))
  · refine ⟨fun _ => ?_, fun y => absurd i1n y⟩
    have e12 := ti_sub2 i_1 G'.2.1 (by omega) (by omega)
    have F3 : FR [(147, some 12), (147, some 20)] w' (sI (sI w' 147 12 ((1 : Int32) - (w'.1 147 12))) 147 20 (w'.1 147 13)) := FR.I (FR.I (FR.refl _ w') rfl) rfl
    have v12 : ((sI (sI w' 147 12 ((1 : Int32) - (w'.1 147 12))) 147 20 (w'.1 147 13)).1 147 12).toInt = (g : Int) := by
      rw [sI_ne _ _ _ _ _ (by decide), sI_same, e12]
      omega
    have v20 : ((sI (sI w' 147 12 ((1 : Int32) - (w'.1 147 12))) 147 20 (w'.1 147 13)).1 147 20).toInt = (rs'.length : Int) := by
      rw [sI_same]
      exact G'.2.2.2.1
    generalize (sI (sI w' 147 12 ((1 : Int32) - (w'.1 147 12))) 147 20 (w'.1 147 13)) = w3 at *
    refine mr115 v20 L4 (fun w4 F4 z4 => hQ _ w4 ?_ ?_ (Or.inl ⟨g, rs', hk, ⟨by omega, by rw [(F4 147 12 rfl).1]; exact v12, by rw [(F4 147 20 rfl).1]; exact v20, L4, fun r x hx => ?_⟩, by rw [(F4 147 20 rfl).1]; exact v20, z4⟩)) FU 0 w3 (Nat.zero_le _) (FR.refl _ w3) (fun r hr => absurd hr (Nat.not_lt_zero _)) (Nat.lt_of_le_of_lt (show _ ≤ 40 by omega) (fu_lt (by decide)))
    · exact ((((FR.tr (FR.refl _ w) F12 rfl).tr F' rfl).tr F3 rfl).tr F4 rfl)
    · rw [(F4 147 1 rfl).1, (F3 147 1 rfl).1, (F' 147 1 rfl).1]
      exact r1
    · have := rs_lt hx
      have F34 : FR [(147, some 12), (147, some 20), (160, none), (161, none), (162, none)] w' w4 := (FR.tr (FR.refl _ w') F3 rfl).tr F4 rfl
      exact rwm_k (G'.2.2.2.2 r x hx) (KR.fr F34 rfl) (Int.le_refl _) (show 40 * (g : Int) + (r : Int) < 40 * (g : Int) + (r : Int) + 1 by omega) N3
  · refine ⟨fun y => absurd i_0 y, fun _ => hQ _ w' ((FR.tr (FR.refl _ w) F12 rfl).tr F' rfl) (by rw [(F' 147 1 rfl).1]; exact r1) (Or.inr ⟨r, hk, by have := c1.2.1; omega, ?_, ?_, fun j => ⟨?_, ?_, ?_⟩⟩)⟩
    · have hh := ti_hi (w'.1 147 5)
      rw [ti_sub2 i_m1 e (by omega) (by omega)]
    · exact rom_k h0 (((F' 147 12 rfl).1).trans (F12 147 12 rfl).1) (((F' 147 20 rfl).1).trans (F12 147 20 rfl).1) ((KR.fr F12 rfl).tr K')
    · rw [(F' 160 j rfl).1, (F12 160 j rfl).1]
    · rw [(F' 161 j rfl).1, (F12 161 j rfl).1]
    · rw [(F' 162 j rfl).1, (F12 162 j rfl).1]
