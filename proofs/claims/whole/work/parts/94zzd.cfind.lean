/-! the class finds: the legs -/
def frC (w : MW) (g : Nat) : Prop := (w.1 36 (g / 2)).toInt = 0
def szC (w : MW) (e : Nat) : Int := (w.1 12 (e / 2)).toInt
/-- only the legs, the path and its length differ -/
def oF (z w : MW) : Prop := w.2 = z.2 ∧ (∀ k j, ¬ k = 38 → ¬ k = 39 → ¬ k = 26 → w.1 k j = z.1 k j) ∧ ∀ j, ¬ j = 15 → w.1 26 j = z.1 26 j
theorem oF_r (w : MW) : oF w w := ⟨rfl, fun _ _ _ _ _ => rfl, fun _ _ => rfl⟩
theorem oF_38 {z w : MW} (h : oF z w) (j : Nat) (v : Int32) : oF z (sI w 38 j v) := ⟨h.1, fun k i h1 h2 h3 => by
  rw [sI_oth _ _ _ _ _ _ h1]
  exact h.2.1 k i h1 h2 h3, fun i hi => by
  rw [sI_oth _ _ _ _ _ _ (by decide)]
  exact h.2.2 i hi⟩
theorem oF_39 {z w : MW} (h : oF z w) (j : Nat) (v : Int32) : oF z (sI w 39 j v) := ⟨h.1, fun k i h1 h2 h3 => by
  rw [sI_oth _ _ _ _ _ _ h2]
  exact h.2.1 k i h1 h2 h3, fun i hi => by
  rw [sI_oth _ _ _ _ _ _ (by decide)]
  exact h.2.2 i hi⟩
theorem oF_26 {z w : MW} (h : oF z w) (v : Int32) : oF z (sI w 26 15 v) := ⟨h.1, fun k i h1 h2 h3 => by
  rw [sI_oth _ _ _ _ _ _ h3]
  exact h.2.1 k i h1 h2 h3, fun i hi => by
  rw [sI_ne _ _ _ _ _ hi]
  exact h.2.2 i hi⟩
theorem oF_1 {z w : MW} (h : oF z w) {k : Nat} (h1 : ¬ k = 38) (h2 : ¬ k = 39) (h3 : ¬ k = 26) (j : Nat) : w.1 k j = z.1 k j := h.2.1 k j h1 h2 h3
theorem CAj_c {z w : MW} (h : oF z w) (o j g : Nat) : CAj w o j g ↔ CAj z o j g := by
  have e1 : atC w o = atC z o := by
    unfold atC
    rw [oF_1 h (by decide) (by decide) (by decide)]
  have e2 : ∀ t, kC w t = kC z t := fun t => by
    unfold kC
    rw [oF_1 h (by decide) (by decide) (by decide)]
  have e3 : nee w o j = nee z o j := by
    unfold nee poC
    rw [e1, e2, oF_1 h (k := 41) (by decide) (by decide) (by decide), oF_1 h (k := 14) (by decide) (by decide) (by decide)]
  unfold CAj
  rw [e1, e2, e3, oF_1 h (k := 15) (by decide) (by decide) (by decide), oF_1 h (k := 37) (by decide) (by decide) (by decide), oF_1 h (k := 16) (by decide) (by decide) (by decide)]
/-- what is known of the class's world when it finds; AD the steps, N the ends -/
def FZf (z : MW) (N : Nat) (AD : Nat → Nat → Prop) : Prop := (N : Int) = 2 * pC z ∧ N ≤ 48 ∧ (∀ e, e < N → atC z e < 20) ∧ (∀ e, e < N → 0 ≤ atC z e → 0 ≤ kC z (atC z e).toNat ∧ kC z (atC z e).toNat ≤ 9) ∧ (∀ e, 0 ≤ (z.1 14 e).toInt ∧ (z.1 14 e).toInt ≤ 3) ∧ (∀ e, e < N → 1 ≤ szC z e ∧ szC z e ≤ 200) ∧ (∀ e g, e < N → (AD e g ↔ frC z e ∧ frC z g ∧ ∃ j, j < 4 ∧ CAj z (xo e) j g)) ∧ (∀ e j g, e < N → j < 4 → CAj z (xo e) j g → g < N) ∧ (∀ e j g j' g', e < N → j < 4 → j' < 4 → CAj z (xo e) j g → CAj z (xo e) j' g' → j ≤ j' → g ≤ g')
theorem fz_n2 {z : MW} {N : Nat} {AD : Nat → Nat → Prop} (h : FZf z N AD) : (N : Int) = 2 * pC z := h.1
theorem fz_48 {z : MW} {N : Nat} {AD : Nat → Nat → Prop} (h : FZf z N AD) : N ≤ 48 := h.2.1
theorem fz_at {z : MW} {N : Nat} {AD : Nat → Nat → Prop} (h : FZf z N AD) (e : Nat) (he : e < N) : atC z e < 20 := h.2.2.1 e he
theorem fz_kd {z : MW} {N : Nat} {AD : Nat → Nat → Prop} (h : FZf z N AD) (e : Nat) (he : e < N) (a0 : 0 ≤ atC z e) : 0 ≤ kC z (atC z e).toNat ∧ kC z (atC z e).toNat ≤ 9 := h.2.2.2.1 e he a0
theorem fz_po {z : MW} {N : Nat} {AD : Nat → Nat → Prop} (h : FZf z N AD) (e : Nat) : 0 ≤ (z.1 14 e).toInt ∧ (z.1 14 e).toInt ≤ 3 := h.2.2.2.2.1 e
theorem fz_sz {z : MW} {N : Nat} {AD : Nat → Nat → Prop} (h : FZf z N AD) (e : Nat) (he : e < N) : 1 ≤ szC z e ∧ szC z e ≤ 200 := h.2.2.2.2.2.1 e he
theorem fz_ad {z : MW} {N : Nat} {AD : Nat → Nat → Prop} (h : FZf z N AD) (e g : Nat) (he : e < N) : AD e g ↔ frC z e ∧ frC z g ∧ ∃ j, j < 4 ∧ CAj z (xo e) j g := h.2.2.2.2.2.2.1 e g he
theorem fz_gN {z : MW} {N : Nat} {AD : Nat → Nat → Prop} (h : FZf z N AD) (e j g : Nat) (he : e < N) (hj : j < 4) (ca : CAj z (xo e) j g) : g < N := h.2.2.2.2.2.2.2.1 e j g he hj ca
theorem fz_mo {z : MW} {N : Nat} {AD : Nat → Nat → Prop} (h : FZf z N AD) (e j g j' g' : Nat) (he : e < N) (hj : j < 4) (hj' : j' < 4) (ca : CAj z (xo e) j g) (ca' : CAj z (xo e) j' g') (l : j ≤ j') : g ≤ g' := h.2.2.2.2.2.2.2.2 e j g j' g' he hj hj' ca ca' l
def BsC (z : MW) (y : Int) (e : Nat) : Prop := atC z (xo e) = y ∧ frC z e
/-- what is known of the legs -/
def LGk (z : MW) (N : Nat) (AD : Nat → Nat → Prop) (y : Int) (w : MW) : Prop := oF z w ∧ (∀ e, e < N → 0 ≤ leg w e ∧ leg w e ≤ 536870912 ∧ (leg w e < 536870912 → frC z e)) ∧ (∀ e, e < N → BsC z y e → leg w e ≤ 32 * szC z e + 1) ∧ ∀ LL LP, LxF N (szC z) AD (BsC z y) LL LP → LwB N LL LP (leg w)
theorem lg_i (w : MW) (e : Nat) (v : Int32) (j : Nat) : leg (sI w 38 e v) j = if j = e then v.toInt else leg w j := by
  unfold leg
  rw [sI_if]
  by_cases q : j = e
  · rw [if_pos q, if_pos q]
  · rw [if_neg q, if_neg q]
/-- one leg is made better -/
theorem lgk_s {z : MW} {N : Nat} {AD : Nat → Nat → Prop} {y : Int} {w : MW} {e g : Nat} {v : Int32} (hz : FZf z N AD) (h : LGk z N AD y w) (he : e < N) (hg : g < N) (ad : AD e g) (lg : leg w g < 536870912) (ev : v.toInt = 32 * szC z e + 1 + leg w g) (lt : v.toInt < leg w e) : LGk z N AD y (sI w 38 e v) := by
  have s := fz_sz hz e he
  have E := h.2.1 e he
  have G := h.2.1 g hg
  refine ⟨oF_38 h.1 _ _, fun x hx => ?_, fun x hx b => ?_, fun LL LP lx => ?_⟩
  · rw [lg_i]
    by_cases q : x = e
    · rw [if_pos q]
      refine ⟨by omega, by omega, fun _ => ?_⟩
      rw [q]
      exact ((fz_ad hz e g he).mp ad).1
    · rw [if_neg q]
      exact h.2.1 x hx
  · rw [lg_i]
    by_cases q : x = e
    · rw [if_pos q]
      rw [q] at b ⊢
      have := h.2.2.1 e he b
      omega
    · rw [if_neg q]
      exact h.2.2.1 x hx b
  · intro x hx l
    rw [lg_i] at l ⊢
    by_cases q : x = e
    · rw [if_pos q, ev]
      rw [q]
      exact lw_step lx (h.2.2.2 LL LP lx) he hg ad lg
    · rw [if_neg q] at l ⊢
      exact h.2.2.2 LL LP lx x hx l
/-- how far a sweep is: l0 the legs before it -/
def SWp (z : MW) (N : Nat) (AD : Nat → Nat → Prop) (y : Int) (l0 : Nat → Int) (b : Int) (ch : Int32) (w : MW) : Prop := LGk z N AD y w ∧ (∀ e, e < N → leg w e ≤ l0 e) ∧ (∀ e g : Nat, (e : Int) < b → e < N → AD e g → leg w e ≤ 32 * szC z e + 1 + l0 g) ∧ (ch.toInt = 0 → ∀ e, e < N → leg w e = l0 e)
theorem cf_184 {z : MW} {N : Nat} {AD : Nat → Nat → Prop} {y : Int} {l0 : Nat → Int} {x1 x2 x4 ch x6 e c : Int32} {w : MW} {A A' : Int32 → Int32 → MW → Prop} {E E' : Int32 → MW → Prop} {Q Q' : Int32 → MW → Prop} (hz : FZf z N AD) (e0 : 0 ≤ e.toInt) (eN : e.toInt < N) (sw : SWp z N AD y l0 e.toInt ch w) (hc : (c.toInt = 536870912 ∧ ∀ g, AD e.toInt.toNat g → 536870912 ≤ l0 g) ∨ ∃ g, g < N ∧ AD e.toInt.toNat g ∧ leg w g < 536870912 ∧ c.toInt = 32 * szC z e.toInt.toNat + 1 + leg w g ∧ ∀ g', AD e.toInt.toNat g' → c.toInt ≤ 32 * szC z e.toInt.toNat + 1 + leg w g') (h : q_Wa_find_184 x1 x2 x4 ch x6 e c w A E Q) (k : ∀ (ch' : Int32) (w' : MW), SWp z N AD y l0 (e.toInt + 1) ch' w' → A ch' (e + (1 : Int32)) w' → A' ch' (e + (1 : Int32)) w') : q_Wa_find_184 x1 x2 x4 ch x6 e c w A' E' Q' := by
  have eN' : e.toInt.toNat < N := by omega
  have gl : ∀ g, AD e.toInt.toNat g → g < N := fun g ad => by
    obtain ⟨_, _, j, hj, ca⟩ := (fz_ad hz _ g eN').mp ad
    exact fz_gN hz _ j g eN' hj ca
  have keep : leg w e.toInt.toNat ≤ c.toInt → SWp z N AD y l0 (e.toInt + 1) ch w := fun le => by
    refine ⟨sw.1, sw.2.1, fun x g hx hN ad => ?_, sw.2.2.2⟩
    by_cases q : (x : Int) = e.toInt
    · rw [show x = e.toInt.toNat by omega] at ad ⊢
      have l1 := sw.2.1 g (gl g ad)
      rcases hc with ⟨hc, hn⟩ | ⟨g0, hg0, ad0, lg, ec, mn⟩
      · have := hn g ad
        have := (sw.1.2.1 _ eN').2.1
        have := fz_sz hz _ eN'
        omega
      · have := mn g ad
        omega
    · exact sw.2.2.1 x g (by omega) hN ad
  rw [q_Wa_find_184.eq_1] at h ⊢
  refine ⟨h.1, fun c1 => k ch w (keep c1) (h.2.1 c1), fun c1 => ⟨(h.2.2 c1).1, k 1 _ ?_ (h.2.2 c1).2⟩⟩
  have lt : c.toInt < leg w e.toInt.toNat := by
    unfold leg
    omega
  have le := (sw.1.2.1 _ eN').2.1
  rcases hc with ⟨hc, _⟩ | ⟨g0, hg0, ad0, lg, ec, mn⟩
  · omega
  · refine ⟨lgk_s hz sw.1 eN' hg0 ad0 lg ec lt, fun x hx => ?_, fun x g hx hN ad => ?_, fun q => absurd q (by decide)⟩
    · rw [lg_i]
      by_cases q : x = e.toInt.toNat
      · rw [if_pos q, q]
        have := sw.2.1 _ eN'
        omega
      · rw [if_neg q]
        exact sw.2.1 x hx
    · rw [lg_i]
      by_cases q : x = e.toInt.toNat
      · rw [if_pos q]
        rw [q] at ad ⊢
        have := mn g ad
        have := sw.2.1 g (gl g ad)
        omega
      · rw [if_neg q]
        exact sw.2.2.1 x g (by omega) hN ad
theorem cf_119 {z : MW} {N : Nat} {AD : Nat → Nat → Prop} {y : Int} {l0 : Nat → Int} {x1 x2 x4 x6 : Int32} {E E' : Int32 → MW → Prop} {Q Q' : Int32 → MW → Prop} (hz : FZf z N AD) (eN : x4.toInt = N) (k : ∀ (ch : Int32) (w : MW), SWp z N AD y l0 N ch w → E ch w → E' ch w) : ∀ (m : Nat) (ch e : Int32) (w : MW), q_Wa_find_119 x1 x2 x4 x6 E Q m ch e w → 0 ≤ e.toInt → e.toInt ≤ N → SWp z N AD y l0 e.toInt ch w → q_Wa_find_119 x1 x2 x4 x6 E' Q' m ch e w := by
  have n48 := fz_48 hz
  intro m
  induction m with
  | zero => exact fun _ _ _ h _ _ _ => False.elim h
  | succ m ih =>
    intro ch e w h e0 el sw
    have o := sw.1.1
    have sh := nb_shr e ((1 : Int32) &&& 31) 1 2 (by decide) (by decide)
    have shn : (e >>> ((1 : Int32) &&& 31)).toInt.toNat = e.toInt.toNat / 2 := by omega
    have x1' := xo_i e0
    have exn : (e ^^^ (1 : Int32)).toInt.toNat = xo e.toInt.toNat := by omega
    rw [q_Wa_find_119.eq_2] at h ⊢
    refine ⟨fun c => k ch w (by rw [show e.toInt = N by omega] at sw; exact sw) (h.1 c), fun c => ?_⟩
    have H := h.2 c
    have ee := ti_add2 (Eq.refl e.toInt) i_1 (by omega) (by omega)
    have eN' : e.toInt.toNat < N := by omega
    have nx : ∀ (ch' : Int32) (w' : MW), SWp z N AD y l0 (e.toInt + 1) ch' w' → q_Wa_find_119 x1 x2 x4 x6 E Q m ch' (e + (1 : Int32)) w' → q_Wa_find_119 x1 x2 x4 x6 E' Q' m ch' (e + (1 : Int32)) w' := fun ch' w' s g => ih _ _ _ g (by omega) (by omega) (by rw [ee]; exact s)
    have t36 : w.1 36 ((e >>> ((1 : Int32) &&& 31)).toInt.toNat) = z.1 36 (e.toInt.toNat / 2) := by
      rw [shn, oF_1 o (by decide) (by decide) (by decide)]
    rw [t36] at H ⊢
    have far : (536870912 : Int32).toInt = 536870912 := by decide
    refine ⟨H.1, fun d => ?_, fun d => ?_⟩
    · have ex : e.toInt.toNat < 2 * (pC z).toNat := by have := fz_n2 hz; omega
      have xN : xo e.toInt.toNat < N := by
        have := xo_lt ex
        have := fz_n2 hz
        omega
      have a13 : atC w (xo e.toInt.toNat) = atC z (xo e.toInt.toNat) := by
        unfold atC
        rw [oF_1 o (by decide) (by decide) (by decide)]
      have akd : ∀ t, kC w t = kC z t := fun t => by
        unfold kC
        rw [oF_1 o (by decide) (by decide) (by decide)]
      refine ow_x (H.2.1 d) (by omega) (by rw [exn, a13]; exact fz_at hz _ xN) (fun a0 => by rw [exn, a13, akd]; exact fz_kd hz _ xN (by rw [← a13, ← exn]; exact a0)) (by rw [exn, oF_1 o (by decide) (by decide) (by decide)]; exact fz_po hz _) (fun r os g => ?_)
      rw [exn] at os
      have frE : frC z e.toInt.toNat := d
      have adj : ∀ g, AD e.toInt.toNat g → ∃ j, j < 4 ∧ CAj w (xo e.toInt.toNat) j g := fun g ad => by
        obtain ⟨_, _, j, hj, ca⟩ := (fz_ad hz _ g eN').mp ad
        exact ⟨j, hj, (CAj_c o _ _ _).mpr ca⟩
      rw [q_Wa_find_150.eq_1] at g ⊢
      rcases os with ⟨er, no⟩ | ⟨r0, lr, j, hj, ca, mn⟩
      · refine ⟨fun z2 => absurd z2 (by rw [er]; decide), fun z2 => cf_184 hz e0 (by omega) sw (Or.inl ⟨far, fun g' ad => ?_⟩) (g.2 z2) nx⟩
        obtain ⟨j, hj, ca⟩ := adj g' ad
        have l1 := no j g' hj ca
        have l2 := sw.2.1 g' (fz_gN hz _ j g' eN' hj ((CAj_c o _ _ _).mp ca))
        omega
      · have caz := (CAj_c o _ _ _).mp ca
        have rN := fz_gN hz _ j _ eN' hj caz
        have frR := (sw.1.2.1 _ rN).2.2 lr
        have ad : AD e.toInt.toNat r.toInt.toNat := (fz_ad hz _ _ eN').mpr ⟨frE, frR, j, hj, caz⟩
        have s := fz_sz hz _ eN'
        have lr0 := (sw.1.2.1 _ rN).1
        have G := g.1 r0
        have e12 : (w.1 12 ((e >>> ((1 : Int32) &&& 31)).toInt.toNat)).toInt = szC z e.toInt.toNat := by
          unfold szC
          rw [shn, oF_1 o (by decide) (by decide) (by decide)]
        have c1 := ti_mul2 e12 (by decide : ((32 : Int32)).toInt = 32) (by omega) (by omega)
        have c2 := ti_add2 c1 i_1 (by omega) (by omega)
        have c3 := ti_add2 c2 (Eq.refl (w.1 38 r.toInt.toNat).toInt) (by unfold leg at lr lr0; omega) (by unfold leg at lr lr0; omega)
        have c4 : ((((w.1 12 ((e >>> ((1 : Int32) &&& 31)).toInt.toNat)) * (32 : Int32)) + (1 : Int32)) + (w.1 38 r.toInt.toNat)).toInt = 32 * szC z e.toInt.toNat + 1 + leg w r.toInt.toNat := by
          rw [c3]
          unfold leg
          omega
        refine ⟨fun _ => ⟨G.1, G.2.1, cf_184 hz e0 (by omega) sw (Or.inr ⟨r.toInt.toNat, rN, ad, lr, c4, fun g' ad' => ?_⟩) G.2.2 nx⟩, fun z2 => absurd r0 z2⟩
        obtain ⟨j', hj', ca'⟩ := adj g' ad'
        have := mn j' g' hj' ca'
        omega
    · have g := H.2.2 d
      rw [q_Wa_find_150.eq_1] at g ⊢
      refine ⟨fun z2 => absurd z2 (by decide), fun z2 => cf_184 hz e0 (by omega) sw (Or.inl ⟨far, fun g' ad => absurd ((fz_ad hz _ g' eN').mp ad).1 d⟩) (g.2 z2) nx⟩
