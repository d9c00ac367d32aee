/-! the invariant of both sides, in the world as it lies (the twins where they are) -/
def swb (σ : Nat → Nat) (b : Bool) (w : MW) : MW := bif b then sw σ w else w
def S3 (a b c : Bool) (w : MW) : MW := swb sN c (swb sQ b (swb sP a w))
theorem swb_cm {σ τ : Nat → Nat} (h : ∀ k, σ (τ k) = τ (σ k)) (b : Bool) (w : MW) : sw σ (swb τ b w) = swb τ b (sw σ w) := by
  cases b
  · rfl
  · exact sw_cm h w
theorem swb_nt {σ : Nat → Nat} (hσ : ∀ k, σ (σ k) = k) (b : Bool) (w : MW) : sw σ (swb σ b w) = swb σ (!b) w := by
  cases b
  · rfl
  · exact sw_iv2 hσ w
theorem S3_P (a b c : Bool) (w : MW) : sw sP (S3 a b c w) = S3 (!a) b c w := by
  unfold S3
  rw [swb_cm (fun k => (tw_cm2 k).2.1), swb_cm (fun k => (tw_cm2 k).1), swb_nt sP_sy.1]
theorem S3_Q (a b c : Bool) (w : MW) : sw sQ (S3 a b c w) = S3 a (!b) c w := by
  unfold S3
  rw [swb_cm (fun k => (tw_cm2 k).2.2), swb_nt sQ_sy.1]
theorem S3_N (a b c : Bool) (w : MW) : sw sN (S3 a b c w) = S3 a b (!c) w := by
  unfold S3
  rw [swb_nt sN_sy.1]
def INV (w : MW) : Prop := ∃ a b c, CI (S3 a b c w)
theorem cis_inv {a b c : Bool} {w : MW} (h : CIs (S3 a b c w)) : INV w := by
  rcases h with h | h | h | h
  · exact ⟨a, b, c, h⟩
  · rw [S3_P] at h
    exact ⟨_, _, _, h⟩
  · rw [S3_Q] at h
    exact ⟨_, _, _, h⟩
  · rw [S3_N] at h
    exact ⟨_, _, _, h⟩
theorem bnd_swb {σ : Nat → Nat} (hs : ∀ k j, bt (σ k) j = bt k j) {b : Bool} {w : MW} (h : BND w) : BND (swb σ b w) := by
  cases b
  · exact h
  · exact bnd_sw hs h
theorem swb_iv {σ : Nat → Nat} (hσ : ∀ k, σ (σ k) = k) (b : Bool) (w : MW) : swb σ b (swb σ b w) = w := by
  cases b
  · rfl
  · exact sw_iv2 hσ w
theorem swb_cm2 {σ τ : Nat → Nat} (h : ∀ k, σ (τ k) = τ (σ k)) (a b : Bool) (w : MW) : swb σ a (swb τ b w) = swb τ b (swb σ a w) := by
  cases a
  · rfl
  · exact swb_cm h b w
theorem S3_iv (a b c : Bool) (w : MW) : S3 a b c (S3 a b c w) = w := by
  unfold S3
  rw [swb_cm2 (σ := sP) (τ := sN) (fun k => (tw_cm2 k).2.1), swb_cm2 (σ := sP) (τ := sQ) (fun k => (tw_cm2 k).1), swb_iv sP_sy.1, swb_cm2 (σ := sQ) (τ := sN) (fun k => (tw_cm2 k).2.2), swb_iv sQ_sy.1, swb_iv sN_sy.1]
theorem bnd_S3 {a b c : Bool} {w : MW} (h : BND (S3 a b c w)) : BND w := by
  have := bnd_swb (b := c) bt_sN (bnd_swb (b := b) bt_sQ (bnd_swb (b := a) bt_sP h))
  have e : swb sN c (swb sQ b (swb sP a (S3 a b c w))) = S3 a b c (S3 a b c w) := rfl
  rw [e, S3_iv] at this
  exact this
/-! a call in the world as it lies -/
theorem tc_b {σ : Nat → Nat} (hσ : Sy σ) (b : Bool) {d μ : Nat} {as : List Value} (has : as.map (rv σ) = as) {w : MW} {Q : Option Value → MW → Prop} (hn : ∀ v w, Q v w → Option.map (rv σ) v = v) (h : Tc d μ as (swb σ b w) Q) : Tc d μ as w (fun v w1 => Q v (swb σ b w1)) := by
  cases b
  · exact h
  · have t := Tc.sy hσ h
    rw [has] at t
    have e : sw σ (swb σ true w) = w := sw_iv2 hσ.1 w
    rw [e] at t
    obtain ⟨v, w', hv, v0, e0, hq⟩ := t
    refine ⟨v, w', hv, ?_⟩
    rw [e0, hn _ _ hq]
    exact hq
theorem tc_3 {a b c : Bool} {d μ : Nat} {as : List Value} (h1 : as.map (rv sP) = as) (h2 : as.map (rv sQ) = as) (h3 : as.map (rv sN) = as) {w : MW} {Q : Option Value → MW → Prop} (hn : ∀ v w, Q v w → ∀ σ, Option.map (rv σ) v = v) (h : Tc d μ as (S3 a b c w) Q) : Tc d μ as w (fun v w1 => Q v (S3 a b c w1)) := by
  have t1 := tc_b (Q := Q) (w := swb sQ b (swb sP a w)) sN_sy c h3 (fun v w q => hn _ _ q _) h
  have t2 := tc_b (Q := fun v w1 => Q v (swb sN c w1)) (w := swb sP a w) sQ_sy b h2 (fun v w q => hn _ _ q _) t1
  exact tc_b (Q := fun v w1 => Q v (swb sN c (swb sQ b w1))) (w := w) sP_sy a h1 (fun v w q => hn _ _ q _) t2
theorem ri_n {Q : Int32 → MW → Prop} (v : Option Value) (w : MW) (h : RI Q v w) (σ : Nat → Nat) : Option.map (rv σ) v = v := by
  obtain ⟨r, e, _⟩ := h
  rw [e]
  rfl
theorem rz_n {Q : Int32 → MW → Prop} (v : Option Value) (w : MW) (h : RZ Q v w) (σ : Nat → Nat) : Option.map (rv σ) v = v := by
  obtain ⟨r, e, _⟩ := h
  rw [e]
  rfl
theorem rj_n {Q : Int64 → MW → Prop} (v : Option Value) (w : MW) (h : RJ Q v w) (σ : Nat → Nat) : Option.map (rv σ) v = v := by
  obtain ⟨r, e, _⟩ := h
  rw [e]
  rfl
/-! frames -/
theorem lC_in : ∀ k, k < 127 → (lC.any fun c => c.1 == k) = true := by decide +kernel
theorem lC_ge {k j : Nat} (h : hit lC k j = false) : 127 ≤ k := by
  have := hit_any (l := lC) (by decide) h
  by_cases c : k < 127
  · rw [lC_in k c] at this
    exact absurd this (by decide)
  · omega
theorem fr_lC {σ : Nat → Nat} (hb : ∀ k, 127 ≤ k → σ k = k) {b : Bool} {w w' : MW} (h : FR lC w w') : FR lC (swb σ b w) (swb σ b w') := by
  cases b
  · exact h
  · intro k j q
    have g := lC_ge q
    have r := h k j q
    refine ⟨?_, ?_, ?_⟩
    · show w'.1 (σ k) j = w.1 (σ k) j
      rw [hb k g]
      exact r.1
    · show w'.2.1 (σ k) j = w.2.1 (σ k) j
      rw [hb k g]
      exact r.2.1
    · show Option.map σ (w'.2.2 (σ k) j) = Option.map σ (w.2.2 (σ k) j)
      rw [hb k g, r.2.2]
theorem fr_S3 {a b c : Bool} {w w' : MW} (h : FR lC (S3 a b c w) (S3 a b c w')) : FR lC w w' := by
  have t := fr_lC (σ := sN) (b := c) (fun k g => sN_big (by omega)) (fr_lC (σ := sQ) (b := b) (fun k g => sQ_big (by omega)) (fr_lC (σ := sP) (b := a) (fun k g => sP_big (by omega)) h))
  have e : ∀ w, swb sN c (swb sQ b (swb sP a (S3 a b c w))) = w := fun w => S3_iv a b c w
  rw [e, e] at t
  exact t
theorem fr_swb {σ : Nat → Nat} (hσ : ∀ k, σ (σ k) = k) {b : Bool} {l : Pl} {w w' : MW} (hF : FR l w w') (hl : (l.all fun e => σ e.1 == e.1) = true) : FR l (swb σ b w) (swb σ b w') := by
  cases b
  · exact hF
  · exact fr_sw hσ hF hl
theorem fr_R {a b c : Bool} {w w' : MW} (h : FR lR w w') : FR lR (S3 a b c w) (S3 a b c w') :=
  fr_swb sN_sy.1 (fr_swb sQ_sy.1 (fr_swb sP_sy.1 h (by decide +kernel)) (by decide +kernel)) (by decide +kernel)
/-- places that no twin has, and that are not in l, stand -/
def FX (l : Pl) (w w' : MW) : Prop := ∀ k j, sP k = k → sQ k = k → sN k = k → hit l k j = false → w'.1 k j = w.1 k j ∧ w'.2.1 k j = w.2.1 k j
theorem swb_at {σ : Nat → Nat} {b : Bool} {w : MW} {k : Nat} (h : σ k = k) : (swb σ b w).1 k = w.1 k ∧ (swb σ b w).2.1 k = w.2.1 k := by
  cases b
  · exact ⟨rfl, rfl⟩
  · refine ⟨?_, ?_⟩
    · show w.1 (σ k) = _
      rw [h]
    · show w.2.1 (σ k) = _
      rw [h]
theorem S3_at {a b c : Bool} {w : MW} {k : Nat} (h1 : sP k = k) (h2 : sQ k = k) (h3 : sN k = k) : (S3 a b c w).1 k = w.1 k ∧ (S3 a b c w).2.1 k = w.2.1 k := by
  have x := swb_at (b := c) (w := swb sQ b (swb sP a w)) h3
  have y := swb_at (b := b) (w := swb sP a w) h2
  have z := swb_at (b := a) (w := w) h1
  exact ⟨x.1.trans (y.1.trans z.1), x.2.trans (y.2.trans z.2)⟩
theorem fx_of {a b c : Bool} {l : Pl} {w w' : MW} (h : FR l (S3 a b c w) (S3 a b c w')) : FX l w w' := fun k j h1 h2 h3 q => by
  have r := h k j q
  have x := S3_at (a := a) (b := b) (c := c) (w := w) h1 h2 h3
  have y := S3_at (a := a) (b := b) (c := c) (w := w') h1 h2 h3
  rw [x.1, y.1] at r
  rw [x.2, y.2] at r
  exact ⟨r.1, r.2.1⟩
/-- both sides between two calls of the law -/
def LI (w : MW) : Prop := INV w ∧ MdJ w
theorem cis_bnd {w : MW} (h : CIs w) : BND w := by
  rcases h with h | h | h | h
  · exact h.1
  · have := bnd_sw bt_sP h.1
    rw [sw_iv2 sP_sy.1] at this
    exact this
  · have := bnd_sw bt_sQ h.1
    rw [sw_iv2 sQ_sy.1] at this
    exact this
  · have := bnd_sw bt_sN h.1
    rw [sw_iv2 sN_sy.1] at this
    exact this
theorem li_cls {a b c : Bool} {l : Pl} {w w' : MW} (hM : MdJ w) (h : CIs (S3 a b c w')) (hF : FR l (S3 a b c w) (S3 a b c w')) (hs : sub l lC = true) : LI w' :=
  ⟨cis_inv h, MdJ_fr (fr_S3 (FR.tr (FR.refl lC _) hF hs)) (bnd_S3 (cis_bnd h)) (by decide +kernel) hM⟩
theorem li_ref {l : Pl} {w w' : MW} (h : INV w) (hM : MdJ w') (hF : FR l w w') (hs : sub l lR = true) : LI w' := by
  obtain ⟨a, b, c, h⟩ := h
  have F : FR lR w w' := FR.tr (FR.refl lR _) hF hs
  have hB : BND (S3 a b c w') := bnd_swb bt_sN (bnd_swb bt_sQ (bnd_swb bt_sP hM.1.1))
  exact ⟨⟨a, b, c, ci_fr h (fr_R F) hB (by decide +kernel)⟩, hM⟩
