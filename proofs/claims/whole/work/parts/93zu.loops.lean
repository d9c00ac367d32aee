/-! the class reads parts joined by and, and these joined by or -/
theorem sp_i {f : Int → Int} {n : Int} : ∀ (k md o : Nat) (c : List Int) (t i : Nat) (r : Bool × List Int × Nat × Nat), SP f n k md o c t i r → i ≤ r.2.2.2 := by
  intro k
  induction k with
  | zero => intro md o c t i r h; exact absurd h (by cases md <;> exact fun z => z)
  | succ k ih =>
    intro md o c t i r h
    match md with
    | 0 =>
      rw [SP0] at h
      by_cases c1 : wq f n i (ltr 8 3) = true
      · rw [if_pos c1] at h
        by_cases c2 : o = 20
        · rw [if_pos c2] at h
          rw [h]
          exact Nat.le_refl i
        · rw [if_neg c2] at h
          obtain ⟨r1, h1, e⟩ := h
          have q := ih _ _ _ _ _ _ h1
          rw [e]
          by_cases c4 : r1.1 = true
          · rw [if_pos c4]
            exact Nat.le_of_succ_le q
          · rw [if_neg c4]
            exact Nat.le_of_succ_le q
      · rw [if_neg c1] at h
        by_cases c3 : wq f n i (ltr 9 1) = true
        · rw [if_pos c3] at h
          by_cases c2 : o = 20
          · rw [if_pos c2] at h
            rw [h]
            exact Nat.le_refl i
          · rw [if_neg c2] at h
            obtain ⟨r1, h1, e⟩ := h
            have q := ih _ _ _ _ _ _ h1
            rw [e]
            by_cases c4 : r1.1 = true
            · rw [if_pos c4]
              by_cases c5 : wq f n r1.2.2.2 (ltr 10 1) = true
              · rw [if_pos c5]
                exact Nat.le_succ_of_le (Nat.le_of_succ_le q)
              · rw [if_neg c5]
                exact Nat.le_of_succ_le q
            · rw [if_neg c4]
              exact Nat.le_of_succ_le q
        · rw [if_neg c3] at h
          rw [h]
          by_cases c4 : cnw f n i < 0 ∨ t = 32
          · rw [if_pos c4]
            exact Nat.le_refl i
          · rw [if_neg c4]
            exact Nat.le_succ i
    | 1 =>
      rw [SP1] at h
      obtain ⟨r1, h1, e⟩ := h
      have q := ih _ _ _ _ _ _ h1
      by_cases c1 : r1.1 = true
      · rw [if_pos c1] at e
        exact Nat.le_trans q (ih _ _ _ _ _ _ e)
      · rw [if_neg c1] at e
        rw [e]
        exact q
    | 2 =>
      rw [SP2] at h
      obtain ⟨r1, h1, e⟩ := h
      have q := ih _ _ _ _ _ _ h1
      by_cases c1 : r1.1 = true
      · rw [if_pos c1] at e
        exact Nat.le_trans q (ih _ _ _ _ _ _ e)
      · rw [if_neg c1] at e
        rw [e]
        exact q
    | 3 =>
      rw [SP3] at h
      by_cases c0 : wq f n i (ltr 11 3) = true
      · rw [if_pos c0] at h
        obtain ⟨r1, h1, e⟩ := h
        have q := ih _ _ _ _ _ _ h1
        by_cases c1 : r1.1 = true
        · rw [if_pos c1] at e
          exact Nat.le_trans (Nat.le_of_succ_le q) (ih _ _ _ _ _ _ e)
        · rw [if_neg c1] at e
          rw [e]
          exact Nat.le_of_succ_le q
      · rw [if_neg c0] at h
        rw [h]
        exact Nat.le_refl i
    | m + 4 =>
      rw [SP4] at h
      by_cases c0 : wq f n i (ltr 12 2) = true
      · rw [if_pos c0] at h
        obtain ⟨r1, h1, e⟩ := h
        have q := ih _ _ _ _ _ _ h1
        by_cases c1 : r1.1 = true
        · rw [if_pos c1] at e
          exact Nat.le_trans (Nat.le_of_succ_le q) (ih _ _ _ _ _ _ e)
        · rw [if_neg c1] at e
          rw [e]
          exact Nat.le_of_succ_le q
      · rw [if_neg c0] at h
        rw [h]
        exact Nat.le_refl i
theorem ou_ok {w : MW} {b o pd t i : Nat} {c : List Int} (h : CSt w b o c t i) (t2 : t ≤ 32) (i5 : i ≤ 5000) (hl : b + c.length + pd ≤ lwn (cf w) (w.1 1 2).toInt i) : OuC w b o pd (true, c, t, i) := ⟨h.1, h.2.2.1, i5, Or.inl ⟨rfl, h, t2, hl⟩⟩
theorem ou_up {w : MW} {b o pd : Nat} {r : Bool × List Int × Nat × Nat} (h : OuC w b o (pd + 1) r) (nk : r.1 = false) : OuC w b o pd r := ⟨h.1, h.2.1, h.2.2.1, Or.inr ⟨nk, by
  rcases h.2.2.2 with ⟨ok, _⟩ | ⟨_, e⟩
  · rw [ok] at nk
    exact absurd nk (by decide)
  · exact e⟩⟩
theorem ou_fr {l : Pl} {w w' : MW} {b o pd : Nat} {r : Bool × List Int × Nat × Nat} (h : OuC w b o pd r) (nk : r.1 = false) (hF : FR l w w') (ho : off l [(99, some 11), (99, some 12), (99, some 13), (99, some 14), (99, some 15), (99, some 17), (1, some 2), (2, none)] = true) : OuC w' b o pd r := ⟨wst_fr h.1 hF (off_mono ho (by decide)), by rw [(hF 99 15 (off_hit ho rfl)).1]; exact h.2.1, h.2.2.1, Or.inr ⟨nk, by
  rcases h.2.2.2 with ⟨ok, _⟩ | ⟨_, e⟩
  · rw [ok] at nk
    exact absurd nk (by decide)
  · rw [(hF 99 17 (off_hit ho rfl)).1]
    exact e⟩⟩
theorem la_b {rA rO rP : MW → (MW → Prop) → Prop} {w : MW} {E Q : MW → Prop} {b o pd : Nat} {r : Bool × List Int × Nat × Nat} (hI : BND w) (h : OuC w b o pd r) (nk : r.1 = false) (hE : E w) (m : Nat) (j : Int32) : q_Ro_readAnds99_6 rA rO rP E Q (m + 1) j w := by
  have e17 : 0 ≤ (w.1 99 17).toInt := by
    rcases h.2.2.2 with ⟨ok, _⟩ | ⟨_, e⟩
    · rw [ok] at nk
      exact absurd nk (by decide)
    · omega
  rw [q_Ro_readAnds99_6.eq_2]
  exact ⟨fun _ => hE, fun _ => iss_11 hI h.1 (fun c => by omega) (fun c => by omega) (fun _ => ⟨fun _ => hE, fun z => absurd i_0 z⟩)⟩
theorem la_6 {rA rO rP : MW → (MW → Prop) → Prop} {d : Nat} (hX : PQr 0 rP 1 d) {w0 : MW} {b o pd t0 i0 : Nat} {c0 : List Int} {E Q : MW → Prop} (o2 : o ≤ 20) (hd : 3 * (20 - o) + 1 ≤ d) (hE : ∀ w' r, BND w' → FR lpt w0 w' → (∃ k, SP (cf w0) (w0.1 1 2).toInt k 3 o c0 t0 i0 r) → OuC w' b o pd r → E w') (m : Nat) : ∀ (j : Nat) (w : MW) (c : List Int) (t i : Nat), BND w → FR lpt w0 w → CSt w b o c t i → t ≤ 32 → i ≤ 5000 → j ≤ i → b + c.length + pd ≤ lwn (cf w0) (w0.1 1 2).toInt i → (∀ r, (∃ k, SP (cf w0) (w0.1 1 2).toInt k 3 o c t i r) → ∃ k, SP (cf w0) (w0.1 1 2).toInt k 3 o c0 t0 i0 r) → 5001 - j < m → q_Ro_readAnds99_6 rA rO rP E Q m (nI j) w := by
  induction m with
  | zero => intros; omega
  | succ m ih =>
    intro j w c t i hI hF h t2 i5 ji hl hc hm
    have cn := cf_n hF rfl
    have b2 := bd_1_2 hI
    have ti : (nI j).toInt = (j : Int) := nI_toInt (by omega)
    have stop : wq (cf w0) (w0.1 1 2).toInt i (ltr 11 3) = false → E w := fun q => hE w (true, c, t, i) hI hF (hc _ ⟨1, by rw [SP3]; rw [if_neg (by rw [q]; decide)]⟩) (ou_ok h t2 i5 (by rw [cn.1, cn.2]; exact hl))
    rw [q_Ro_readAnds99_6.eq_2]
    refine ⟨fun z => stop ?_, fun z => iss_11 hI h.1 (fun _ q => ⟨fun y => absurd y (by decide), fun _ => ?_⟩) (fun _ q => ⟨fun _ => stop (by rw [cn.1, cn.2] at q; exact q), fun y => absurd i_0 y⟩) (fun y => by have := h.2.1; omega)⟩
    · cases hq : wq (cf w0) (w0.1 1 2).toInt i (ltr 11 3) with
      | false => rfl
      | true =>
        have ln := wq_len hq
        rw [ltln] at ln
        rw [← cn.1, ← cn.2] at ln
        have := i_le hI (i := i) (by omega)
        omega
    · have ln := wq_len q
      rw [ltln] at ln
      have i4 := i_le hI (i := i) (by omega)
      rw [cn.1, cn.2] at q ln
      have le := lw_l (f := cf w0) (n := (w0.1 1 2).toInt) (i := i) (by omega)
      refine nws hI h.1 (by omega) (fun w5 B5 F5 S5 => ?_)
      have G5 : FR lpt w0 w5 := hF.tr F5 rfl
      have cn5 := cf_n G5 rfl
      have C5 : CSt w5 b o c t (i + 1) := ⟨S5, by rw [(F5 99 17 rfl).1]; exact h.2.1, by rw [(F5 99 15 rfl).1]; exact h.2.2.1, by rw [(F5 99 16 rfl).1]; exact h.2.2.2.1, cod_fr h.2.2.2.2 F5 rfl⟩
      refine hX w5 b o c t (i + 1) (pd + 1) _ B5 C5 o2 t2 (by omega) (by rw [cn5.1, cn5.2, le]; omega) hd (fun w6 r1 B6 F6 S6 U6 => ?_)
      rw [cn5.1, cn5.2] at S6
      obtain ⟨k, hk⟩ := S6
      have G6 : FR lpt w0 w6 := G5.tr F6 rfl
      have cn6 := cf_n G6 rfl
      have ri := sp_i _ _ _ _ _ _ _ hk
      have i6 := U6.2.2.1
      rcases U6.2.2.2 with ⟨ok, C6, t6, l6⟩ | ⟨nk, e17⟩
      · rw [cn6.1, cn6.2] at l6
        have b20 := bd_1_2 (w := w5) B5
        rw [cn5.2] at b20
        have mx := lw_max (f := cf w0) b20.1 b20.2 r1.2.2.2
        refine pu_x B6 C6.2.2.2.2 (by omega) b17 (by decide) (by decide) (fun w7 B7 F7 C7 => ?_)
        rw [nI_1]
        refine ih (j + 1) w7 (r1.2.1 ++ [17]) r1.2.2.1 r1.2.2.2 B7 (G6.tr F7 rfl) ⟨wst_fr C6.1 F7 rfl, by rw [(F7 99 17 rfl).1]; exact C6.2.1, by rw [(F7 99 15 rfl).1]; exact C6.2.2.1, by rw [(F7 99 16 rfl).1]; exact C6.2.2.2.1, C7⟩ t6 i6 (by omega) ?_ (fun r hr => hc r ?_) (by omega)
        · rw [List.length_append]
          show b + (r1.2.1.length + 1) + pd ≤ _
          omega
        · obtain ⟨k2, hk2⟩ := hr
          refine ⟨k + k2 + 1, ?_⟩
          rw [SP3]
          rw [if_pos q]
          refine ⟨r1, sp_le hk (by omega), ?_⟩
          rw [if_pos ok]
          exact sp_le hk2 (by omega)
      · refine pu_b B6 (by decide) (by decide) (fun w7 B7 F7 => ?_)
        have U7 := ou_fr (ou_up U6 nk) nk F7 rfl
        obtain ⟨m', em⟩ : ∃ m', m = m' + 1 := ⟨m - 1, by omega⟩
        rw [em]
        refine la_b B7 U7 nk (hE w7 r1 B7 (G6.tr F7 rfl) (hc _ ⟨k + 1, ?_⟩) U7) m' _
        rw [SP3]
        rw [if_pos q]
        refine ⟨r1, hk, ?_⟩
        rw [if_neg (by rw [nk]; decide)]
theorem pq_And {rA rO rP : MW → (MW → Prop) → Prop} {d : Nat} (hX : PQr 0 rP 1 d) : PQr 1 (pb_Ro_readAnds99 rA rO rP) 2 (d + 1) := by
  intro w b o c t i pd Q hI h o2 t2 i5 hl hd hQ
  refine Eq.mpr (pb_Ro_readAnds99.eq_1 _ _ _ _ _) (hX w b o c t i pd _ hI h o2 t2 i5 hl (by omega) (fun w1 r1 B1 F1 S1 U1 => ?_))
  obtain ⟨k, hk⟩ := S1
  have cn1 := cf_n F1 rfl
  have i6 := U1.2.2.1
  rcases U1.2.2.2 with ⟨ok, C1, t1, l1⟩ | ⟨nk, e17⟩
  · refine la_6 (j := 0) hX (w0 := w1) (c0 := r1.2.1) (t0 := r1.2.2.1) (i0 := r1.2.2.2) o2 (by omega) (fun w' r B' F' S' U' => hQ w' r B' (F1.tr F' rfl) ?_ U') FU w1 r1.2.1 r1.2.2.1 r1.2.2.2 B1 (FR.refl _ w1) C1 t1 i6 (Nat.zero_le _) l1 (fun r q => q) (fu_lt (by decide))
    rw [cn1.1, cn1.2] at S'
    obtain ⟨k2, hk2⟩ := S'
    refine ⟨k + k2 + 1, ?_⟩
    rw [SP1]
    refine ⟨r1, sp_le hk (by omega), ?_⟩
    rw [if_pos ok]
    exact sp_le hk2 (by omega)
  · refine la_b B1 U1 nk (hQ w1 r1 B1 F1 ⟨k + 1, ?_⟩ U1) 99999999999999999999 _
    rw [SP1]
    refine ⟨r1, hk, ?_⟩
    rw [if_neg (by rw [nk]; decide)]
theorem lo_b {rA rO rP : MW → (MW → Prop) → Prop} {w : MW} {E Q : MW → Prop} {b o pd : Nat} {r : Bool × List Int × Nat × Nat} (hI : BND w) (h : OuC w b o pd r) (nk : r.1 = false) (hE : E w) (m : Nat) (j : Int32) : q_Ro_readOrs99_6 rA rO rP E Q (m + 1) j w := by
  have e17 : 0 ≤ (w.1 99 17).toInt := by
    rcases h.2.2.2 with ⟨ok, _⟩ | ⟨_, e⟩
    · rw [ok] at nk
      exact absurd nk (by decide)
    · omega
  rw [q_Ro_readOrs99_6.eq_2]
  exact ⟨fun _ => hE, fun _ => iss_12 hI h.1 (fun c => by omega) (fun c => by omega) (fun _ => ⟨fun _ => hE, fun z => absurd i_0 z⟩)⟩
theorem lo_6 {rA rO rP : MW → (MW → Prop) → Prop} {d : Nat} (hX : PQr 1 rA 2 d) {w0 : MW} {b o pd t0 i0 : Nat} {c0 : List Int} {E Q : MW → Prop} (o2 : o ≤ 20) (hd : 3 * (20 - o) + 2 ≤ d) (hE : ∀ w' r, BND w' → FR lpt w0 w' → (∃ k, SP (cf w0) (w0.1 1 2).toInt k 4 o c0 t0 i0 r) → OuC w' b o pd r → E w') (m : Nat) : ∀ (j : Nat) (w : MW) (c : List Int) (t i : Nat), BND w → FR lpt w0 w → CSt w b o c t i → t ≤ 32 → i ≤ 5000 → j ≤ i → b + c.length + pd ≤ lwn (cf w0) (w0.1 1 2).toInt i → (∀ r, (∃ k, SP (cf w0) (w0.1 1 2).toInt k 4 o c t i r) → ∃ k, SP (cf w0) (w0.1 1 2).toInt k 4 o c0 t0 i0 r) → 5001 - j < m → q_Ro_readOrs99_6 rA rO rP E Q m (nI j) w := by
  induction m with
  | zero => intros; omega
  | succ m ih =>
    intro j w c t i hI hF h t2 i5 ji hl hc hm
    have cn := cf_n hF rfl
    have b2 := bd_1_2 hI
    have ti : (nI j).toInt = (j : Int) := nI_toInt (by omega)
    have stop : wq (cf w0) (w0.1 1 2).toInt i (ltr 12 2) = false → E w := fun q => hE w (true, c, t, i) hI hF (hc _ ⟨1, by rw [SP4]; rw [if_neg (by rw [q]; decide)]⟩) (ou_ok h t2 i5 (by rw [cn.1, cn.2]; exact hl))
    rw [q_Ro_readOrs99_6.eq_2]
    refine ⟨fun z => stop ?_, fun z => iss_12 hI h.1 (fun _ q => ⟨fun y => absurd y (by decide), fun _ => ?_⟩) (fun _ q => ⟨fun _ => stop (by rw [cn.1, cn.2] at q; exact q), fun y => absurd i_0 y⟩) (fun y => by have := h.2.1; omega)⟩
    · cases hq : wq (cf w0) (w0.1 1 2).toInt i (ltr 12 2) with
      | false => rfl
      | true =>
        have ln := wq_len hq
        rw [ltln] at ln
        rw [← cn.1, ← cn.2] at ln
        have := i_le hI (i := i) (by omega)
        omega
    · have ln := wq_len q
      rw [ltln] at ln
      have i4 := i_le hI (i := i) (by omega)
      rw [cn.1, cn.2] at q ln
      have le := lw_l (f := cf w0) (n := (w0.1 1 2).toInt) (i := i) (by omega)
      refine nws hI h.1 (by omega) (fun w5 B5 F5 S5 => ?_)
      have G5 : FR lpt w0 w5 := hF.tr F5 rfl
      have cn5 := cf_n G5 rfl
      have C5 : CSt w5 b o c t (i + 1) := ⟨S5, by rw [(F5 99 17 rfl).1]; exact h.2.1, by rw [(F5 99 15 rfl).1]; exact h.2.2.1, by rw [(F5 99 16 rfl).1]; exact h.2.2.2.1, cod_fr h.2.2.2.2 F5 rfl⟩
      refine hX w5 b o c t (i + 1) (pd + 1) _ B5 C5 o2 t2 (by omega) (by rw [cn5.1, cn5.2, le]; omega) hd (fun w6 r1 B6 F6 S6 U6 => ?_)
      rw [cn5.1, cn5.2] at S6
      obtain ⟨k, hk⟩ := S6
      have G6 : FR lpt w0 w6 := G5.tr F6 rfl
      have cn6 := cf_n G6 rfl
      have ri := sp_i _ _ _ _ _ _ _ hk
      have i6 := U6.2.2.1
      rcases U6.2.2.2 with ⟨ok, C6, t6, l6⟩ | ⟨nk, e17⟩
      · rw [cn6.1, cn6.2] at l6
        have b20 := bd_1_2 (w := w5) B5
        rw [cn5.2] at b20
        have mx := lw_max (f := cf w0) b20.1 b20.2 r1.2.2.2
        refine pu_x B6 C6.2.2.2.2 (by omega) b18 (by decide) (by decide) (fun w7 B7 F7 C7 => ?_)
        rw [nI_1]
        refine ih (j + 1) w7 (r1.2.1 ++ [18]) r1.2.2.1 r1.2.2.2 B7 (G6.tr F7 rfl) ⟨wst_fr C6.1 F7 rfl, by rw [(F7 99 17 rfl).1]; exact C6.2.1, by rw [(F7 99 15 rfl).1]; exact C6.2.2.1, by rw [(F7 99 16 rfl).1]; exact C6.2.2.2.1, C7⟩ t6 i6 (by omega) ?_ (fun r hr => hc r ?_) (by omega)
        · rw [List.length_append]
          show b + (r1.2.1.length + 1) + pd ≤ _
          omega
        · obtain ⟨k2, hk2⟩ := hr
          refine ⟨k + k2 + 1, ?_⟩
          rw [SP4]
          rw [if_pos q]
          refine ⟨r1, sp_le hk (by omega), ?_⟩
          rw [if_pos ok]
          exact sp_le hk2 (by omega)
      · refine pu_b B6 (by decide) (by decide) (fun w7 B7 F7 => ?_)
        have U7 := ou_fr (ou_up U6 nk) nk F7 rfl
        obtain ⟨m', em⟩ : ∃ m', m = m' + 1 := ⟨m - 1, by omega⟩
        rw [em]
        refine lo_b B7 U7 nk (hE w7 r1 B7 (G6.tr F7 rfl) (hc _ ⟨k + 1, ?_⟩) U7) m' _
        rw [SP4]
        rw [if_pos q]
        refine ⟨r1, hk, ?_⟩
        rw [if_neg (by rw [nk]; decide)]
theorem pq_Or {rA rO rP : MW → (MW → Prop) → Prop} {d : Nat} (hX : PQr 1 rA 2 d) : PQr 2 (pb_Ro_readOrs99 rA rO rP) 3 (d + 1) := by
  intro w b o c t i pd Q hI h o2 t2 i5 hl hd hQ
  refine Eq.mpr (pb_Ro_readOrs99.eq_1 _ _ _ _ _) (hX w b o c t i pd _ hI h o2 t2 i5 hl (by omega) (fun w1 r1 B1 F1 S1 U1 => ?_))
  obtain ⟨k, hk⟩ := S1
  have cn1 := cf_n F1 rfl
  have i6 := U1.2.2.1
  rcases U1.2.2.2 with ⟨ok, C1, t1, l1⟩ | ⟨nk, e17⟩
  · refine lo_6 (j := 0) hX (w0 := w1) (c0 := r1.2.1) (t0 := r1.2.2.1) (i0 := r1.2.2.2) o2 (by omega) (fun w' r B' F' S' U' => hQ w' r B' (F1.tr F' rfl) ?_ U') FU w1 r1.2.1 r1.2.2.1 r1.2.2.2 B1 (FR.refl _ w1) C1 t1 i6 (Nat.zero_le _) l1 (fun r q => q) (fu_lt (by decide))
    rw [cn1.1, cn1.2] at S'
    obtain ⟨k2, hk2⟩ := S'
    refine ⟨k + k2 + 1, ?_⟩
    rw [SP2]
    refine ⟨r1, sp_le hk (by omega), ?_⟩
    rw [if_pos ok]
    exact sp_le hk2 (by omega)
  · refine lo_b B1 U1 nk (hQ w1 r1 B1 F1 ⟨k + 1, ?_⟩ U1) 99999999999999999999 _
    rw [SP2]
    refine ⟨r1, hk, ?_⟩
    rw [if_neg (by rw [nk]; decide)]
theorem pq_all : ∀ d : Nat, PQr 0 (pn_Ro_readParts99 d) 1 d ∧ PQr 1 (pn_Ro_readAnds99 d) 2 d ∧ PQr 2 (pn_Ro_readOrs99 d) 3 d := by
  intro d
  induction d with
  | zero => exact ⟨fun w b o c t i pd Q _ _ _ _ _ _ hd => by omega, fun w b o c t i pd Q _ _ _ _ _ _ hd => by omega, fun w b o c t i pd Q _ _ _ _ _ _ hd => by omega⟩
  | succ d ih =>
    refine ⟨fun w b o c t i pd Q h1 h2 h3 h4 h5 h6 h7 h8 => ?_, fun w b o c t i pd Q h1 h2 h3 h4 h5 h6 h7 h8 => ?_, fun w b o c t i pd Q h1 h2 h3 h4 h5 h6 h7 h8 => ?_⟩
    · rw [pe_Ro_readParts99]
      exact pq_part ih.2.2 ih.1 w b o c t i pd Q h1 h2 h3 h4 h5 h6 h7 h8
    · rw [pe_Ro_readAnds99]
      exact pq_And ih.1 w b o c t i pd Q h1 h2 h3 h4 h5 h6 h7 h8
    · rw [pe_Ro_readOrs99]
      exact pq_Or ih.2.1 w b o c t i pd Q h1 h2 h3 h4 h5 h6 h7 h8
/-- a row's condition -/
theorem ror {w : MW} {b t i : Nat} {c : List Int} {Q : MW → Prop} (hI : BND w) (h : CSt w b 0 c t i) (t2 : t ≤ 32) (i5 : i ≤ 5000) (hl : b + c.length ≤ lwn (cf w) (w.1 1 2).toInt i) (hQ : ∀ w' r, BND w' → FR lpt w w' → (∃ k, SP (cf w) (w.1 1 2).toInt k 2 0 c t i r) → OuC w' b 0 0 r → Q w') : p_Ro_readOrs99 w Q := (pq_all 400).2.2 w b 0 c t i 0 Q hI h (by omega) t2 i5 (by omega) (by omega) hQ
/-- with something wrong, nothing is done -/
theorem ror_b {w : MW} {i : Nat} {Q : MW → Prop} (hI : BND w) (h : WSt w i) (h17 : 0 ≤ (w.1 99 17).toInt) (hQ : Q w) : p_Ro_readOrs99 w Q := by
  have P : ∀ (rA rO rP : MW → (MW → Prop) → Prop) (R : MW → Prop), R w → pb_Ro_readParts99 rA rO rP w R := fun rA rO rP R hR => by
    have k114 : ∀ v : Int32, q_Ro_readParts99_114 rA rO rP v w R := fun v => Eq.mpr (q_Ro_readParts99_114.eq_1 _ _ _ _ _ _) ⟨fun _ => flr_b h17 hR, fun z => absurd h17 z⟩
    exact Eq.mpr (pb_Ro_readParts99.eq_1 _ _ _ _ _) (iss_8 hI h (fun z => by omega) (fun z => by omega) (fun _ => ⟨fun z => absurd i_0 z, fun _ => iss_9 hI h (fun z => by omega) (fun z => by omega) (fun _ => ⟨fun _ => ⟨h.2.2.2, at_x hI ⟨fun _ => k114 _, fun _ => nbh hI h i_1 (by decide) (by decide) (by decide : ((15 : Int32)).toInt = 15) (by decide) (fun r _ => k114 r)⟩⟩, fun z => absurd i_0 z⟩)⟩))
  have A : ∀ (rA rO rP : MW → (MW → Prop) → Prop) (E R : MW → Prop) (m : Nat) (j : Int32), E w → q_Ro_readAnds99_6 rA rO rP E R (m + 1) j w := fun rA rO rP E R m j hE => by
    rw [q_Ro_readAnds99_6.eq_2]
    exact ⟨fun _ => hE, fun _ => iss_11 hI h (fun z => by omega) (fun z => by omega) (fun _ => ⟨fun _ => hE, fun z => absurd i_0 z⟩)⟩
  have O : ∀ (rA rO rP : MW → (MW → Prop) → Prop) (E R : MW → Prop) (m : Nat) (j : Int32), E w → q_Ro_readOrs99_6 rA rO rP E R (m + 1) j w := fun rA rO rP E R m j hE => by
    rw [q_Ro_readOrs99_6.eq_2]
    exact ⟨fun _ => hE, fun _ => iss_12 hI h (fun z => by omega) (fun z => by omega) (fun _ => ⟨fun _ => hE, fun z => absurd i_0 z⟩)⟩
  show pn_Ro_readOrs99 (399 + 1) w Q
  rw [pe_Ro_readOrs99]
  refine Eq.mpr (pb_Ro_readOrs99.eq_1 _ _ _ _ _) ?_
  show pn_Ro_readAnds99 (398 + 1) w _
  rw [pe_Ro_readAnds99]
  refine Eq.mpr (pb_Ro_readAnds99.eq_1 _ _ _ _ _) ?_
  show pn_Ro_readParts99 (397 + 1) w _
  rw [pe_Ro_readParts99]
  exact P _ _ _ _ (A _ _ _ _ _ 99999999999999999999 _ (O _ _ _ _ _ 99999999999999999999 _ hQ))
