def l_Mo_measure_66 : Pl := [(188, none), (189, none)]
def l_Mo_measure_44 : Pl := [(188, none), (189, none)]
def l_Mo_measure_2 : Pl := [(188, none), (189, none)]
def l_Mo_measure_283 : Pl := [(189, none)]
def l_Mo_measure_261 : Pl := [(188, none), (189, none)]
def l_Mo_measure_238 : Pl := [(188, none), (189, none)]
def l_Mo_measure_111 : Pl := [(188, none), (189, none)]
def l_Mo_measure_98 : Pl := [(188, none), (189, none)]
def l_Mo_measure_90 : Pl := [(188, none), (189, none)]
def l_Mo_measure : Pl := [(188, none), (189, none)]
theorem held_lp {t : Int32} (h0 : 0 ≤ t.toInt) (h1 : t.toInt ≤ 19) {E : MW → Prop} {Q : Int32 → MW → Prop} {w : MW} (hI : BND w) (hN : HN w t.toInt → E w) (hS : ∀ r : Int32, 0 ≤ r.toInt → r.toInt ≤ 9 → ¬ HN w t.toInt → Q r w) (n : Nat) : ∀ (x : Int32), 0 ≤ x.toInt → x.toInt ≤ 24 → (∀ k : Int32, 0 ≤ k.toInt → k.toInt < x.toInt → (w.1 187 (20 * k.toInt + t.toInt).toNat).toInt = -1) → (24 - x.toInt).toNat < n → q_Mo_held_2 t E Q n x w := by
  induction n with
  | zero => intros; omega
  | succ n ih =>
    intro x x0 x1 hk hm
    rw [q_Mo_held_2.eq_2]
    have b := bd_127_26 hI
    refine ⟨fun c => hN (fun k k0 k1 => hk k k0 (by omega)), fun c => ?_⟩
    have e1 := ti_mul2 (by decide : ((20 : Int32)).toInt = 20) (Eq.refl x.toInt) (by omega) (by omega)
    have e2 := ti_add2 e1 (Eq.refl t.toInt) (by omega) (by omega)
    have e3 := ti_add2 (Eq.refl x.toInt) (by decide : ((1 : Int32)).toInt = 1) (by omega) (by omega)
    have hx : 0 ≤ (((20 : Int32) * x) + t).toInt ∧ (((20 : Int32) * x) + t).toInt < 480 := by omega
    refine ⟨hx, fun c1 => ih _ (by omega) (by omega) (fun k k0 k1 => ?_) (by omega), fun c1 => ⟨hx, ?_⟩⟩
    · by_cases ck : k.toInt = x.toInt
      · rw [ck, ← e2]; exact c1
      · exact hk k k0 (by omega)
    · have bb := bd_187 hI ((((20 : Int32) * x) + t).toInt.toNat)
      refine hS _ (by omega) bb.2 (fun h => c1 ?_)
      have := h x x0 (by omega)
      rw [← e2] at this
      exact this
theorem g_held {w : MW} {t : Int32} {Q : Int32 → MW → Prop} (hI : BND w) (h0 : 0 ≤ t.toInt) (h1 : t.toInt ≤ 19) (hN : HN w t.toInt → Q (-1) w) (hS : ∀ r : Int32, 0 ≤ r.toInt → r.toInt ≤ 9 → ¬ HN w t.toInt → Q r w) : p_Mo_held w t Q := Eq.mpr (p_Mo_held.eq_1 _ _ _) (held_lp h0 h1 hI hN hS FU 0 (by decide) (by decide) (fun k k0 k1 => by have := i_0; omega) (fu_lt (by decide)))
theorem g_needOf {w : MW} {a b : Int32} {Q : Int32 → MW → Prop} (hI : BND w) (ha0 : 0 ≤ a.toInt) (ha1 : a.toInt ≤ 47) (hb0 : 0 ≤ b.toInt) (hb1 : b.toInt ≤ 47) (hY : ∀ r : Int32, 0 ≤ r.toInt → r.toInt ≤ 9 → NY w a b → Q r w) (hN : NN w a b → Q (-1) w) : p_Mo_needOf w a b Q := by
  refine Eq.mpr (p_Mo_needOf.eq_1 _ _ _ _) ?_
  have bt := bd_170 hI a.toInt.toNat
  refine ⟨⟨ha0, by omega⟩, fun c1 => hN (Or.inl c1), fun c1 => ⟨⟨hb0, by omega⟩, fun c2 => hN (Or.inr (Or.inl c2)), fun c2 => ⟨fun c3 => hN (Or.inr (Or.inr (Or.inl c3))), fun c3 => ⟨⟨by omega, by omega⟩, fun c4 => hN (Or.inr (Or.inr (Or.inr (Or.inl c4)))), fun c4 => ⟨fun c5 => ⟨⟨by omega, by omega⟩, fun c6 => ⟨⟨by omega, by omega⟩, ⟨ha0, by omega⟩, ⟨hb0, by omega⟩, ?_⟩, fun c6 => ⟨⟨ha0, by omega⟩, fun c7 => hN (Or.inr (Or.inr (Or.inr (Or.inr (Or.inr (Or.inl ⟨Classical.not_not.mp c6, Or.inl c7⟩)))))), fun c7 => ?_⟩⟩, fun c5 => hN (Or.inr (Or.inr (Or.inr (Or.inr (Or.inl c5)))))⟩⟩⟩⟩⟩
  · have bk := bd_163 hI ((w.1 170 a.toInt.toNat).toInt.toNat)
    have ek := ti_sub2 (Eq.refl (w.1 163 ((w.1 170 a.toInt.toNat).toInt.toNat)).toInt) (by decide : ((2 : Int32)).toInt = 2) (by omega) (by omega)
    have hny : NY w a b := ⟨Int.not_lt.mp c1, Classical.not_not.mp c2, c3, c4, c5, fun q => absurd q c6⟩
    refine h_Mo_least hI (by omega) (by omega) (fun r w' hI' hF' r0 r9 p1 p2 p3 => ?_)
    obtain rfl := fr_nil hF' rfl
    have no : r.toInt < 0 → NN w a b := by
      intro hr
      refine Or.inr (Or.inr (Or.inr (Or.inr (Or.inr (Or.inr ⟨c6, Or.inr ⟨?_, ?_, ?_⟩⟩)))))
      · intro q
        have := p1.resolve_left (by omega)
        unfold Kd At at q
        omega
      · intro q
        have := p2.resolve_left (by omega)
        unfold Kd At at q
        omega
      · intro q
        have q3 := p3.resolve_left (by omega)
        unfold Kd At Po at q
        exact q3 ⟨by omega, q.2⟩
    · have q1 : r.toInt < 0 → r = -1 := fun hr => Int32.toInt_inj.mp (by have := i_m1; omega)
      have yes : Q r w := by
        by_cases cr : r.toInt < 0
        · rw [q1 cr]; exact hN (no cr)
        · exact hY r (by omega) r9 hny
      refine g_held hI (by omega) (by omega) (fun _ => ⟨fun _ => yes, fun q => absurd (by decide) q⟩) (fun s s0 s9 hs => ⟨fun q => by omega, fun _ => ?_⟩)
      refine g_held hI (by omega) (by omega) (fun q => absurd q hs) (fun s2 _ _ _ => ⟨fun _ => hN (Or.inr (Or.inr (Or.inr (Or.inr (Or.inr (Or.inr ⟨c6, Or.inl hs⟩)))))), fun _ => yes⟩)
  · have c6' := Classical.not_not.mp c6
    refine g_held hI (by omega) (by omega) (fun hn => ⟨fun q => absurd (by decide) q, fun _ => hY 0 (by decide) (by decide) ⟨Int.not_lt.mp c1, Classical.not_not.mp c2, c3, c4, c5, fun _ => ⟨Classical.not_not.mp c7, hn⟩⟩⟩) (fun s s0 s9 hs => ⟨fun _ => hN (Or.inr (Or.inr (Or.inr (Or.inr (Or.inr (Or.inl ⟨c6', Or.inr hs⟩)))))), fun q => by omega⟩)
theorem ms_66 {z w : MW} {t x f v : Int32} {A : Int32 → MW → Prop} {E Q : MW → Prop} (hI : BND w) (hF : FR lms z w) (x0 : 0 ≤ x.toInt) (x1 : x.toInt < 48) (hN : INi z t x.toInt w) (hv : v.toInt = -1 ∨ (¬ f.toInt = 0 ∧ v.toInt = Sz z x ∧ fre z x ∧ At z (x ^^^ (1 : Int32)) = t.toInt)) (hA : ∀ w', BND w' → FR lms z w' → INi z t (x.toInt + 1) w' → A (x + (1 : Int32)) w') : q_Mo_measure_66 t x f v x w A E Q := by
  refine Eq.mpr (q_Mo_measure_66.eq_1 _ _ _ _ _ _ _ _ _) ?_
  have fin : ∀ c : Int32, (v.toInt = -1 ∨ c.toInt = 1) → A (x + (1 : Int32)) (bsW w x v c) := by
    intro c hc
    refine hA _ (wbd_189 (wbd_188 hI _) _) (FR.I (FR.I hF rfl) rfl) ?_
    intro e e0 e1
    by_cases ce : e.toInt = x.toInt
    · have q : e = x := Int32.toInt_inj.mp ce
      subst q
      rw [bs_lf_e, bs_lq_e]
      rcases hv with hv | ⟨_, h2, h3, h4⟩
      · exact Or.inl hv
      · rcases hc with hc | hc
        · exact Or.inl hc
        · exact Or.inr ⟨hc, h2, h3, h4⟩
    · rw [bs_lf e0 ce x0, bs_lq e0 ce x0]
      exact hN e e0 (by omega)
  refine ⟨⟨x0, x1⟩, fun c => ⟨⟨x0, x1⟩, fin 0 ?_⟩, fun c => ⟨⟨x0, x1⟩, fin 1 (Or.inr (by decide))⟩⟩
  rcases hv with hv | hv
  · exact Or.inl hv
  · exact absurd c hv.1
theorem ms_44 {z w : MW} {t x f : Int32} {A : Int32 → MW → Prop} {E Q : MW → Prop} (hz : BND z) (hI : BND w) (hF : FR lms z w) (x0 : 0 ≤ x.toInt) (x1 : x.toInt < 48) (hN : INi z t x.toInt w) (hv : f.toInt = 0 ∨ (fre z x ∧ At z (x ^^^ (1 : Int32)) = t.toInt)) (hA : ∀ w', BND w' → FR lms z w' → INi z t (x.toInt + 1) w' → A (x + (1 : Int32)) w') : q_Mo_measure_44 t x f w A E Q := by
  refine Eq.mpr (q_Mo_measure_44.eq_1 _ _ _ _ _ _ _) ?_
  have h3 := nb_div (x := x) (y := 2) (c := 2) x0 (by decide) (by decide)
  refine ⟨fun c => ms_66 hI hF x0 x1 hN (Or.inl (by decide)) hA, fun c => ⟨⟨by omega, by omega⟩, ms_66 hI hF x0 x1 hN (Or.inr ⟨c, ?_, hv.resolve_left c⟩) hA⟩⟩
  unfold Sz
  rw [(hF 169 _ rfl).1]
theorem ms_2 {z : MW} {t : Int32} {E Q : MW → Prop} (hz : BND z) (hE : ∀ w, BND w → FR lms z w → INi z t (P2 z) w → E w) (n : Nat) : ∀ (x : Int32) (w : MW), BND w → FR lms z w → 0 ≤ x.toInt → x.toInt ≤ 48 → INi z t x.toInt w → (48 - x.toInt).toNat < n → q_Mo_measure_2 t E Q n x w := by
  induction n with
  | zero => intros; omega
  | succ n ih =>
    intro x w hI hF x0 x1 hN hm
    rw [q_Mo_measure_2.eq_2]
    have e2 := p2_mul hz hF
    have l2 := p2_le hz
    have pq := pq_fr hF
    refine ⟨fun c => hE w hI hF (fun e e0 e1 => hN e e0 (by omega)), fun c => ?_⟩
    have h1 := x1_eq x0
    have e3 := ti_add2 (Eq.refl x.toInt) (by decide : ((1 : Int32)).toInt = 1) (by omega) (by omega)
    have nx : ∀ w', BND w' → FR lms z w' → INi z t (x.toInt + 1) w' → q_Mo_measure_2 t E Q n (x + (1 : Int32)) w' := fun w' hI' hF' hN' => ih _ w' hI' hF' (by omega) (by omega) (by rw [e3]; exact hN') (by omega)
    refine ⟨⟨by omega, by omega⟩, fun c1 => ms_44 hz hI hF x0 (by omega) hN (Or.inl (by decide)) nx, fun c1 => ⟨fun c2 => ms_44 hz hI hF x0 (by omega) hN (Or.inl (by decide)) nx, fun c2 => ms_44 hz hI hF x0 (by omega) hN (Or.inr ⟨?_, ?_⟩) nx⟩⟩
    · exact (pq_fre pq).mp (Classical.not_not.mp c2)
    · have q := pq_at pq (e := x ^^^ (1 : Int32))
      rw [← q]
      exact Classical.not_not.mp c1
theorem ms_238 {y e g all many b : Int32} {w : MW} {A : Int32 → Int32 → MW → Prop} {E : Int32 → MW → Prop} {Q : MW → Prop} (he0 : 0 ≤ e.toInt) (he1 : e.toInt < 48) (hb0 : b.toInt = 0 → (¬ y.toInt = 0 → A 1 (g + (1 : Int32)) w) ∧ (y.toInt = 0 → A 0 (g + (1 : Int32)) w)) (hb1 : ¬ b.toInt = 0 → A 1 (g + (1 : Int32)) (bsW w e all many)) : q_Mo_measure_238 y e g all many b w A E Q := by
  refine Eq.mpr (q_Mo_measure_238.eq_1 _ _ _ _ _ _ _ _ _ _) ?_
  have hx : 0 ≤ e.toInt ∧ e.toInt < 48 := ⟨he0, he1⟩
  refine ⟨fun c => ⟨hx, ?_⟩, fun c => ?_⟩
  · refine Eq.mpr (q_Mo_measure_261.eq_1 _ _ _ _ _ _ _ _ _ _ _) ⟨hx, fun c1 => ⟨hx, ?_⟩, fun c1 => absurd c c1⟩
    refine Eq.mpr (q_Mo_measure_283.eq_1 _ _ _ _ _ _ _ _ _ _) ?_
    have e1 : sI w 188 e.toInt.toNat (w.1 188 e.toInt.toNat) = w := sI_self w 188 _
    have e2 : sI w 189 e.toInt.toNat (w.1 189 e.toInt.toNat) = w := sI_self w 189 _
    rw [e1, e2]
    exact ⟨hx, fun c2 => (hb0 c).1 c2, fun c2 => ⟨fun _ => (hb0 c).2 (Classical.not_not.mp c2), fun c3 => absurd c c3⟩⟩
  · refine Eq.mpr (q_Mo_measure_261.eq_1 _ _ _ _ _ _ _ _ _ _ _) ⟨hx, fun c1 => absurd c1 c, fun c1 => ?_⟩
    refine Eq.mpr (q_Mo_measure_283.eq_1 _ _ _ _ _ _ _ _ _ _) ?_
    exact ⟨hx, fun _ => hb1 c, fun _ => ⟨fun c3 => absurd c3 c, fun _ => hb1 c⟩⟩
theorem ms_111 {z : MW} {t : Int32} {E : Int32 → MW → Prop} {Q : MW → Prop} (hz : BND z) (hS : SZ z) {e : Int32} (he0 : 0 ≤ e.toInt) (he1 : e.toInt < P2 z) {m0 : Int} (hE : ∀ (more : Int32) (w : MW), ST z t m0 (e.toInt + 1) more w → E more w) (n : Nat) : ∀ (more g : Int32) (w : MW), ST z t m0 e.toInt more w → (more.toInt = 0 → ∀ g' : Int32, 0 ≤ g'.toInt → g'.toInt < g.toInt → CK z w e g') → 0 ≤ g.toInt → g.toInt ≤ 48 → (48 - g.toInt).toNat < n → q_Mo_measure_111 e E Q n more g w := by
  induction n with
  | zero => intros; omega
  | succ n ih =>
    intro more g w hT hK g0 g1 hm
    rw [q_Mo_measure_111.eq_2]
    obtain ⟨hI, hF, hM, h01, hm0, hm1, hC⟩ := hT
    have e2 := p2_mul hz hF
    have l2 := p2_le hz
    have pq := pq_fr hF
    have ex : (∀ g' : Int32, 0 ≤ g'.toInt → g'.toInt < P2 z → more.toInt = 0 → CK z w e g') → E more w := by
      intro hk
      refine hE more w ⟨hI, hF, hM, h01, hm0, hm1, fun q e' g' a1 a2 a3 a4 => ?_⟩
      by_cases c : e'.toInt = e.toInt
      · have q2 : e' = e := Int32.toInt_inj.mp c
        subst q2
        exact hk g' a3 a4 q
      · exact hC q e' g' a1 (by omega) a3 a4
    refine ⟨fun c => ex (fun g' a1 a2 q => hK q g' a1 (by omega)), fun c => ⟨fun c1 => ex (fun g' _ _ _ => Or.inl (fun q => c1 ((pq_fre pq).mpr q))), fun c1 => ?_⟩⟩
    have hfe : fre z e := (pq_fre pq).mp (Classical.not_not.mp c1)
    have e3 := ti_add2 (Eq.refl g.toInt) (by decide : ((1 : Int32)).toInt = 1) (by omega) (by omega)
    have he48 : e.toInt < 48 := by omega
    have nx : (more.toInt = 0 → CK z w e g) → q_Mo_measure_111 e E Q n more (g + (1 : Int32)) w := by
      intro hk
      refine ih more _ w ⟨hI, hF, hM, h01, hm0, hm1, hC⟩ (fun q g' a1 a2 => ?_) (by omega) (by omega) (by omega)
      by_cases cg : g'.toInt = g.toInt
      · have q2 : g' = g := Int32.toInt_inj.mp cg
        subst q2
        exact hk q
      · exact hK q g' a1 (by omega)
    have hx1 := x1_eq he0
    refine ⟨⟨g0, by omega⟩, fun c2 => nx (fun _ => Or.inr (Or.inl c2)), fun c2 => ?_⟩
    refine g_needOf hI (by omega) (by omega) g0 (by omega) (fun r r0 r9 hny => ?_) (fun hnn => ⟨fun _ => nx (fun _ => Or.inr (Or.inr (Or.inl ((pq_nn pq).mp hnn)))), fun q => absurd (by decide) q⟩)
    refine ⟨fun q => by omega, fun _ => ?_⟩
    have hnz : NY z (e ^^^ (1 : Int32)) g := (pq_ny pq).mp hny
    have h3 := nb_div (x := e) (y := 2) (c := 2) he0 (by decide) (by decide)
    have hge : ¬ LF w g = -1 := c2
    have gl : g.toInt < P2 z := by omega
    have q1 := ((hM g g0 gl).resolve_left hge).1
    have q2 := ((hM g g0 gl).resolve_left hge).2.1
    have q3 := ((hM g g0 gl).resolve_left hge).2.2.1
    have hc := cf_le (n := (P2 z).toNat) (w := w)
    have hs := sz_bd hz hS he0 he1
    have hsw : (w.1 169 ((e / (2 : Int32)).toInt.toNat)).toInt = Sz z e := by rw [(hF 169 _ rfl).1]; rfl
    have hlw : (w.1 188 g.toInt.toNat).toInt = LF w g := rfl
    have hqw : (w.1 189 g.toInt.toNat).toInt = LQ w g := rfl
    have ea := ti_add2 hlw hsw (by omega) (by omega)
    have em := ti_add2 hqw (by decide : ((1 : Int32)).toInt = 1) (by omega) (by omega)
    have hew : (w.1 188 e.toInt.toNat).toInt = LF w e := rfl
    have heq : (w.1 189 e.toInt.toNat).toInt = LQ w e := rfl
    rw [hew, heq]
    generalize hA : (w.1 188 g.toInt.toNat) + (w.1 169 ((e / (2 : Int32)).toInt.toNat)) = all at *
    generalize hB : (w.1 189 g.toInt.toNat) + (1 : Int32) = many at *
    have better : (LF w e = -1 ∨ all.toInt < LF w e ∨ (all.toInt = LF w e ∧ many.toInt < LQ w e)) → q_Mo_measure_111 e E Q n 1 (g + (1 : Int32)) (bsW w e all many) := by
      intro hb
      have hbs := bs_step l2 hM he0 he1 g0 (by omega) hfe hnz hge hs.1 hs.2 ea em hb
      refine ih 1 _ _ ⟨wbd_189 (wbd_188 hI _) _, FR.I (FR.I hF rfl) rfl, hbs.1, Or.inr (by decide), by omega, fun _ => by omega, fun q => absurd q (by decide)⟩ (fun q => absurd q (by decide)) (by omega) (by omega) (by omega)
    have worse : (¬ LF w e = -1 ∧ LF w e ≤ all.toInt) → (¬ more.toInt = 0 → q_Mo_measure_111 e E Q n 1 (g + (1 : Int32)) w) ∧ (more.toInt = 0 → q_Mo_measure_111 e E Q n 0 (g + (1 : Int32)) w) := by
      intro hw
      have hk : CK z w e g := Or.inr (Or.inr (Or.inr ⟨hw.1, by omega⟩))
      refine ⟨fun cm => ?_, fun cm => ?_⟩
      · have q : more = 1 := Int32.toInt_inj.mp (by have := i_1; omega)
        have nk := nx (fun _ => hk)
        rw [q] at nk
        exact nk
      · have q : more = 0 := Int32.toInt_inj.mp (by have := i_0; omega)
        have nk := nx (fun _ => hk)
        rw [q] at nk
        exact nk
    have b1 : (LF w e = -1 ∨ all.toInt < LF w e ∨ (all.toInt = LF w e ∧ many.toInt < LQ w e)) → q_Mo_measure_238 more e g all many 1 w (fun (x111_2 : Int32) (x111_4 : Int32) (w : MW) => q_Mo_measure_111 e E Q n x111_2 x111_4 w) E Q := fun hb => ms_238 he0 he48 (fun q => absurd q (by decide)) (fun _ => better hb)
    have b0 : (¬ LF w e = -1 ∧ LF w e ≤ all.toInt) → q_Mo_measure_238 more e g all many 0 w (fun (x111_2 : Int32) (x111_4 : Int32) (w : MW) => q_Mo_measure_111 e E Q n x111_2 x111_4 w) E Q := fun hw => ms_238 he0 he48 (fun _ => worse hw) (fun q => absurd (by decide) q)
    have hxe : 0 ≤ e.toInt ∧ e.toInt < 48 := ⟨he0, he48⟩
    refine ⟨⟨g0, by omega⟩, ⟨by omega, by omega⟩, ⟨g0, by omega⟩, hxe, fun d1 => b1 (Or.inl d1), fun d1 => ⟨hxe, fun d2 => b1 (Or.inr (Or.inl d2)), fun d2 => ⟨hxe, fun d3 => b0 ⟨d1, by omega⟩, fun d3 => ⟨hxe, fun d4 => b0 ⟨d1, by omega⟩, fun d4 => b1 (Or.inr (Or.inr ⟨by omega, by omega⟩))⟩⟩⟩⟩
theorem ms_98 {z : MW} {t : Int32} {E : Int32 → MW → Prop} {Q : MW → Prop} (hz : BND z) (hS : SZ z) {m0 : Int} (hE : ∀ (more : Int32) (w : MW), ST z t m0 (P2 z) more w → E more w) (n : Nat) : ∀ (more e : Int32) (w : MW), ST z t m0 e.toInt more w → 0 ≤ e.toInt → e.toInt ≤ 48 → (48 - e.toInt).toNat < n → q_Mo_measure_98 E Q n more e w := by
  induction n with
  | zero => intros; omega
  | succ n ih =>
    intro more e w hT e0 e1 hm
    rw [q_Mo_measure_98.eq_2]
    have e2 := p2_mul hz hT.2.1
    have l2 := p2_le hz
    obtain ⟨hI, hF, hM, h01, hm0, hm1, hC⟩ := hT
    refine ⟨fun c => hE more w ⟨hI, hF, hM, h01, hm0, hm1, fun q e' g' a1 a2 a3 a4 => hC q e' g' a1 (by omega) a3 a4⟩, fun c => ?_⟩
    have e3 := ti_add2 (Eq.refl e.toInt) (by decide : ((1 : Int32)).toInt = 1) (by omega) (by omega)
    refine ms_111 hz hS e0 (by omega) (m0 := m0) (t := t) (fun more' w' hT' => ih more' _ w' (by rw [e3]; exact hT') (by omega) (by omega) (by omega)) FU more 0 w ⟨hI, hF, hM, h01, hm0, hm1, hC⟩ (fun _ g' a1 a2 => ?_) (by decide) (by decide) (fu_lt (by decide))
    have : (0 : Int32).toInt = 0 := by decide
    omega
theorem ms_90 {z : MW} {t : Int32} {E Q : MW → Prop} (hz : BND z) (hS : SZ z) (hE : ∀ w : MW, BND w → FR lms z w → MX z t w → (∀ e g : Int32, 0 ≤ e.toInt → e.toInt < P2 z → 0 ≤ g.toInt → g.toInt < P2 z → CK z w e g) → E w) (n : Nat) : ∀ (x : Int32) (w : MW), BND w → FR lms z w → MX z t w → (x.toInt = 0 ∨ x.toInt = 1) → (x.toInt = 0 → ∀ e g : Int32, 0 ≤ e.toInt → e.toInt < P2 z → 0 ≤ g.toInt → g.toInt < P2 z → CK z w e g) → (2 * (mF (P2 z).toNat w).toNat + x.toInt.toNat) < n → q_Mo_measure_90 E Q n x w := by
  induction n with
  | zero => intros; omega
  | succ n ih =>
    intro x w hI hF hM h01 hC hm
    rw [q_Mo_measure_90.eq_2]
    have l2 := p2_le hz
    have mb := mf_bd l2 hM
    refine ⟨fun c => hE w hI hF hM (hC c), fun c => ?_⟩
    refine ms_98 hz hS (t := t) (m0 := mF (P2 z).toNat w) (fun more w' hT => ?_) FU 0 0 w ⟨hI, hF, hM, Or.inl (by decide), by omega, fun q => absurd q (by decide), fun _ e' g' a1 a2 => ?_⟩ (by decide) (by decide) (fu_lt (by decide))
    · obtain ⟨hI', hF', hM', h01', hm0, hm1, hC'⟩ := hT
      have mb' := mf_bd l2 hM'
      refine ih more w' hI' hF' hM' h01' hC' ?_
      rcases h01' with h | h
      · omega
      · have := hm1 h
        omega
    · have : (0 : Int32).toInt = 0 := by decide
      omega
theorem g_measure {w : MW} {t : Int32} {Q : MW → Prop} (hI : BND w) (hS : SZ w) (hQ : ∀ w' : MW, BND w' → FR lms w w' → MX w t w' → (∀ e g : Int32, 0 ≤ e.toInt → e.toInt < P2 w → 0 ≤ g.toInt → g.toInt < P2 w → CK w w' e g) → Q w') : p_Mo_measure w t Q := by
  refine Eq.mpr (p_Mo_measure.eq_1 _ _ _) ?_
  refine ms_2 (z := w) (t := t) hI (fun w1 hI1 hF1 hN1 => ?_) FU 0 w hI (FR.refl _ w) (by decide) (by decide) (fun e e0 e1 => ?_) (fu_lt (by decide))
  · have hM := in_mx hI hS hN1
    have mb := mf_bd (p2_le hI) hM
    refine ms_90 (z := w) (t := t) hI hS hQ FU 1 w1 hI1 hF1 hM (Or.inr (by decide)) (fun q => absurd q (by decide)) (fu_lt ?_)
    have : (1 : Int32).toInt.toNat = 1 := by decide
    omega
  · have : (0 : Int32).toInt = 0 := by decide
    omega
theorem h_Mo_measure {w : MW} {a0 : Int32} {Q : MW → Prop} (hI : BND w) (hf_SZ : SZ w) (hp0 : 0 ≤ a0.toInt) (hp1 : a0.toInt ≤ 19) (hQ : ∀ (w' : MW), BND w' → FR l_Mo_measure w w' → Q w') : p_Mo_measure w a0 Q := by
  exact g_measure hI hf_SZ (fun w' hI' hF' _ _ => hQ w' hI' hF')
def l_Mo_find_18 : Pl := [(127, some 40)]
def l_Mo_find_7 : Pl := [(127, some 40)]
def l_Mo_find_78 : Pl := [(192, none)]
def l_Mo_find_140 : Pl := []
def l_Mo_find_102 : Pl := []
def l_Mo_find_257 : Pl := []
def l_Mo_find_209 : Pl := [(127, some 39), (191, none), (192, none)]
def l_Mo_find : Pl := [(127, some 39), (127, some 40), (188, none), (189, none), (191, none), (192, none)]
theorem fd_18 {z : MW} {x1 x2 k : Int32} {E : MW → Prop} {Q : Int32 → MW → Prop} (k0 : 0 ≤ k.toInt) (k1 : k.toInt < 24) (hE : ∀ w : MW, BND w → FR lfb z w → BY w (k.toInt + 1) 0 → E w) (n : Nat) : ∀ (i : Int32) (w : MW), BND w → FR lfb z w → BY w k.toInt i.toInt → 0 ≤ i.toInt → i.toInt ≤ 24 → (24 - i.toInt).toNat < n → q_Mo_find_18 x1 x2 k E Q n i w := by
  induction n with
  | zero => intros; omega
  | succ n ih =>
    intro i w hI hF hB i0 i1 hm
    rw [q_Mo_find_18.eq_2]
    have b := bd_185 hI k.toInt.toNat
    refine ⟨⟨k0, k1⟩, fun c => hE w hI hF (fun k' i' a0 a1 a2 a3 => ?_), fun c => ?_⟩
    · by_cases ck : k'.toInt = k.toInt
      · have q : k' = k := Int32.toInt_inj.mp ck
        subst q
        exact hB k' i' a0 a1 a2 (Or.inr ⟨rfl, by omega⟩)
      · exact hB k' i' a0 a1 a2 (Or.inl (by omega))
    · have e1 := ti_mul2 (by decide : ((24 : Int32)).toInt = 24) (Eq.refl k.toInt) (by omega) (by omega)
      have e2 := ti_add2 e1 (Eq.refl i.toInt) (by omega) (by omega)
      have e3 := ti_add2 (Eq.refl i.toInt) (by decide : ((1 : Int32)).toInt = 1) (by omega) (by omega)
      refine ⟨⟨by omega, by omega⟩, ih _ _ (bnd_J hI) (FR.J hF rfl) ?_ (by omega) (by omega) (by omega)⟩
      have be := bd_186 hI ((((24 : Int32) * k) + i).toInt.toNat)
      have h3 := nb_div (x := w.1 186 ((((24 : Int32) * k) + i).toInt.toNat)) (y := 2) (c := 2) be.1 (by decide) (by decide)
      intro k' i' a0 a1 a2 a3 q
      have a4 : ∀ v, (sJ w 127 40 v).2.1 127 40 = v := fun v => by rw [sJ_at, if_pos ⟨rfl, rfl⟩]
      rw [a4] at q
      have q2 := bz_or q
      by_cases ck : k'.toInt = k.toInt ∧ i'.toInt = i.toInt
      · have h9 := q2.2
        have e4 : (24 * k'.toInt + i'.toInt).toNat = (((24 : Int32) * k) + i).toInt.toNat := by omega
        have e5 : ∀ j, (sJ w 127 40 ((w.2.1 127 40) ||| ((1 : Int64) <<< (((w.1 186 ((((24 : Int32) * k) + i).toInt.toNat)) / (2 : Int32)).toInt64 &&& 63)))).1 186 j = w.1 186 j := fun _ => rfl
        rw [e5, e4] at h9
        exact bz_set (by omega) (by omega) h9
      · exact hB k' i' a0 a1 a2 (by omega) q2.1
theorem fd_7 {z : MW} {x1 x2 : Int32} {E : MW → Prop} {Q : Int32 → MW → Prop} (hE : ∀ w : MW, BND w → FR lfb z w → BY w (w.1 127 26).toInt 0 → E w) (n : Nat) : ∀ (k : Int32) (w : MW), BND w → FR lfb z w → BY w k.toInt 0 → 0 ≤ k.toInt → k.toInt ≤ 24 → (24 - k.toInt).toNat < n → q_Mo_find_7 x1 x2 E Q n k w := by
  induction n with
  | zero => intros; omega
  | succ n ih =>
    intro k w hI hF hB k0 k1 hm
    rw [q_Mo_find_7.eq_2]
    have b := bd_127_26 hI
    refine ⟨fun c => hE w hI hF (fun k' i' a0 a1 a2 a3 => hB k' i' a0 a1 a2 (Or.inl (by omega))), fun c => ?_⟩
    have e3 := ti_add2 (Eq.refl k.toInt) (by decide : ((1 : Int32)).toInt = 1) (by omega) (by omega)
    refine fd_18 (z := z) k0 (by omega) (fun w' hI' hF' hB' => ih _ w' hI' hF' (by rw [e3]; exact hB') (by omega) (by omega) (by omega)) FU 0 w hI hF ?_ (by decide) (by decide) (fu_lt (by decide))
    rw [i_0]
    exact hB
theorem fd_78 {m : MW} {x1 : Int32} {E : MW → Prop} {Q : Int32 → MW → Prop} (hE : ∀ w : MW, BND w → FR lfd m w → (w.1 127 39).toInt = 0 → (∀ t : Int32, 0 ≤ t.toInt → t.toInt < 20 → (w.1 192 t.toInt.toNat).toInt = -1) → E w) (n : Nat) : ∀ (k : Int32) (w : MW), BND w → FR lfd m w → (w.1 127 39).toInt = 0 → (∀ t : Int32, 0 ≤ t.toInt → t.toInt < k.toInt → (w.1 192 t.toInt.toNat).toInt = -1) → 0 ≤ k.toInt → k.toInt ≤ 20 → (20 - k.toInt).toNat < n → q_Mo_find_78 x1 E Q n k w := by
  induction n with
  | zero => intros; omega
  | succ n ih =>
    intro k w hI hF h39 hB k0 k1 hm
    rw [q_Mo_find_78.eq_2]
    refine ⟨fun c => hE w hI hF h39 (fun t t0 t1 => hB t t0 (by omega)), fun c => ?_⟩
    have e3 := ti_add2 (Eq.refl k.toInt) (by decide : ((1 : Int32)).toInt = 1) (by omega) (by omega)
    refine ⟨⟨k0, by omega⟩, ih _ _ (wbd_192 hI _ (by decide) (by decide)) (FR.I hF rfl) h39 (fun t t0 t1 => ?_) (by omega) (by omega) (by omega)⟩
    have h := sI_case w 192 t.toInt.toNat k.toInt.toNat (-1)
    have := i_m1
    rcases h with ⟨_, h⟩ | ⟨h1, h⟩
    · rw [h]; exact i_m1
    · rw [h]; exact hB t t0 (by omega)
theorem fd_102 {z w : MW} {x1 : Int32} {E : Int32 → MW → Prop} {Q : Int32 → MW → Prop} (hI : BND w) (h11 : w.1 127 11 = z.1 127 11) (hz : BND z) (hE : ∀ e : Int32, (e.toInt = -1 ∨ (0 ≤ e.toInt ∧ e.toInt < P2 z ∧ At w e = x1.toInt ∧ ¬ LF w e = -1)) → E e w) (n : Nat) : ∀ (e g : Int32), (e.toInt = -1 ∨ (0 ≤ e.toInt ∧ e.toInt < P2 z ∧ At w e = x1.toInt ∧ ¬ LF w e = -1)) → 0 ≤ g.toInt → g.toInt ≤ 48 → (48 - g.toInt).toNat < n → q_Mo_find_102 x1 E Q n e g w := by
  induction n with
  | zero => intros; omega
  | succ n ih =>
    intro e g he g0 g1 hm
    rw [q_Mo_find_102.eq_2]
    have b := bd_127_11 hz
    have e2 : ((2 : Int32) * (w.1 127 11)).toInt = P2 z := by
      rw [h11]
      exact ti_mul2 (by decide : ((2 : Int32)).toInt = 2) (Eq.refl (z.1 127 11).toInt) (by omega) (by omega)
    have l2 := p2_le hz
    refine ⟨fun c => hE e he, fun c => ?_⟩
    have e3 := ti_add2 (Eq.refl g.toInt) (by decide : ((1 : Int32)).toInt = 1) (by omega) (by omega)
    have keep : q_Mo_find_102 x1 E Q n e (g + (1 : Int32)) w := ih e _ he (by omega) (by omega) (by omega)
    have hg : 0 ≤ g.toInt ∧ g.toInt < 48 := ⟨g0, by omega⟩
    have no : q_Mo_find_140 x1 e g 0 w (fun (x102_3 : Int32) (x102_4 : Int32) (w : MW) => q_Mo_find_102 x1 E Q n x102_3 x102_4 w) E Q := Eq.mpr (q_Mo_find_140.eq_1 _ _ _ _ _ _ _ _) ⟨fun _ => keep, fun q => absurd (by decide) q⟩
    refine ⟨hg, fun c1 => no, fun c1 => ⟨hg, fun c2 => no, fun c2 => ?_⟩⟩
    have take : q_Mo_find_102 x1 E Q n g (g + (1 : Int32)) w := ih g _ (Or.inr ⟨g0, by omega, Classical.not_not.mp c1, c2⟩) (by omega) (by omega) (by omega)
    refine Eq.mpr (q_Mo_find_140.eq_1 _ _ _ _ _ _ _ _) ⟨fun q => absurd q (by decide), fun _ => ⟨fun _ => take, fun c3 => ?_⟩⟩
    have he2 : 0 ≤ e.toInt ∧ e.toInt < 48 := by
      have := (he.resolve_left c3)
      omega
    exact ⟨hg, he2, fun _ => take, fun _ => ⟨hg, he2, fun _ => keep, fun _ => ⟨hg, he2, fun _ => keep, fun _ => take⟩⟩⟩
theorem fd_257 {z w : MW} {e due : Int32} {E : Int32 → MW → Prop} {Q : Int32 → MW → Prop} (hI : BND w) (hz : BND z) (pq : PQ z w) (he0 : 0 ≤ e.toInt) (he1 : e.toInt < P2 z) (hE : ∀ g : Int32, (g.toInt = -1 ∨ (0 ≤ g.toInt ∧ g.toInt < P2 z ∧ LF w g = due.toInt ∧ 0 < due.toInt ∧ NY z (e ^^^ (1 : Int32)) g)) → E g w) (n : Nat) : ∀ (h g : Int32), (h.toInt = -1 ∨ (0 ≤ h.toInt ∧ h.toInt < P2 z ∧ LF w h = due.toInt ∧ 0 < due.toInt ∧ NY z (e ^^^ (1 : Int32)) h)) → 0 ≤ g.toInt → g.toInt ≤ 48 → (48 - g.toInt).toNat < n → q_Mo_find_257 e due E Q n h g w := by
  induction n with
  | zero => intros; omega
  | succ n ih =>
    intro h g hh g0 g1 hm
    rw [q_Mo_find_257.eq_2]
    have b := bd_127_11 hz
    have e2 : ((2 : Int32) * (w.1 127 11)).toInt = P2 z := by
      rw [pq.2.2.2.2.2.2.1]
      exact ti_mul2 (by decide : ((2 : Int32)).toInt = 2) (Eq.refl (z.1 127 11).toInt) (by omega) (by omega)
    have l2 := p2_le hz
    refine ⟨fun c => hE h hh, fun c => ⟨fun _ => hE h hh, fun c1 => ⟨fun _ => hE h hh, fun c2 => ?_⟩⟩⟩
    have e3 := ti_add2 (Eq.refl g.toInt) (by decide : ((1 : Int32)).toInt = 1) (by omega) (by omega)
    have keep : q_Mo_find_257 e due E Q n h (g + (1 : Int32)) w := ih h _ hh (by omega) (by omega) (by omega)
    have hg : 0 ≤ g.toInt ∧ g.toInt < 48 := ⟨g0, by omega⟩
    have hxe := x1_eq he0
    refine ⟨hg, fun _ => keep, fun c3 => ⟨hg, ⟨he0, by omega⟩, fun _ => keep, fun c4 => ?_⟩⟩
    refine g_needOf hI (by omega) (by omega) g0 (by omega) (fun r r0 r9 hny => ⟨fun q => by omega, fun _ => ih g _ (Or.inr ⟨g0, by omega, Classical.not_not.mp c3, by omega, (pq_ny pq).mp hny⟩) (by omega) (by omega) (by omega)⟩) (fun _ => ⟨fun _ => keep, fun q => absurd (by decide) q⟩)
theorem fd_209 {z m : MW} {t : Int32} {E : MW → Prop} {Q : Int32 → MW → Prop} (hz : BND z) (hFm : FR lms z m) (hR : RP z) (hH : HB z) (hS : SZ z) (hM : MX z t m) (hC : ∀ e g : Int32, 0 ≤ e.toInt → e.toInt < P2 z → 0 ≤ g.toInt → g.toInt < P2 z → CK z m e g) (hK : Kd z t.toInt = 0) (hE : ∀ w : MW, FS z m (-1) w → E w) (n : Nat) : ∀ (e : Int32) (w : MW), FS z m e w → (e.toInt = -1 ∨ GD z m e w) → (24 - (w.1 127 39).toInt).toNat < n → q_Mo_find_209 E Q n e w := by
  induction n with
  | zero => intros; omega
  | succ n ih =>
    intro e w hT hG hm
    rw [q_Mo_find_209.eq_2]
    refine ⟨fun c => ?_, fun c => ?_⟩
    · have q : e = -1 := Int32.toInt_inj.mp (by rw [c]; exact i_m1.symm)
      rw [q] at hT
      exact hE w hT
    obtain ⟨hI, hF, hA, hB⟩ := hT
    obtain ⟨he0, he1, hf, hp, hcnt⟩ := hG.resolve_left c
    have l2 := p2_le hz
    have hP : P2 z = 2 * (z.1 127 11).toInt := rfl
    have b11 := bd_127_11 hz
    have hcs := cp_step (w := m) (P := (z.1 127 11).toInt.toNat) (e := e) (L := LF m e - 1) he0 (by omega) hf hp (by omega)
    have hcn := cp_nn (w := m) (P := (z.1 127 11).toInt.toNat) (L := LF m e - 1)
    have b39 := bd_127_39 hI
    have h3 := nb_div (x := e) (y := 2) (c := 2) he0 (by decide) (by decide)
    refine ⟨⟨b39.1, by omega⟩, ⟨he0, by omega⟩, ⟨by omega, by omega⟩, ?_⟩
    have pqm : PQ z m := pq_fr hFm
    have e39 := ti_add2 (Eq.refl (w.1 127 39).toInt) (by decide : ((1 : Int32)).toInt = 1) (by omega) (by omega)
    have hse := sz_bd hz hS he0 he1
    have hlm : (w.1 188 e.toInt.toNat).toInt = LF m e := by rw [(hF 188 _ rfl).1]; rfl
    have hsm : (w.1 169 ((e / (2 : Int32)).toInt.toNat)).toInt = Sz z e := by rw [(hF 169 _ rfl).1, (hFm 169 _ rfl).1]; rfl
    have hle := ((hM e he0 he1).resolve_left hf)
    have hl1 := hle.1
    have hl2 := hle.2.1
    have hl3 := hle.2.2.1
    have hfe := hle.2.2.2.1
    clear hle
    have hcf := cf_le (n := (P2 z).toNat) (w := m)
    have ed := ti_sub2 hlm hsm (by omega) (by omega)
    generalize hdue : (w.1 188 e.toInt.toNat) - (w.1 169 ((e / (2 : Int32)).toInt.toNat)) = due at *
    have hI1 : BND (sI (sI w 191 ((w.1 127 39).toInt.toNat) e) 127 39 ((w.1 127 39) + (1 : Int32))) := wbd_127_39 (wbd_191 hI _ he0 (by omega)) (by omega) (by omega)
    have hF1 : FR lfd m (sI (sI w 191 ((w.1 127 39).toInt.toNat) e) 127 39 ((w.1 127 39) + (1 : Int32))) := FR.I (FR.I hF rfl) rfl
    have f39 : (sI (sI w 191 ((w.1 127 39).toInt.toNat) e) 127 39 ((w.1 127 39) + (1 : Int32))).1 127 39 = (w.1 127 39) + (1 : Int32) := rfl
    have f192 : ∀ j, (sI (sI w 191 ((w.1 127 39).toInt.toNat) e) 127 39 ((w.1 127 39) + (1 : Int32))).1 192 j = w.1 192 j := fun _ => rfl
    have f191 : ∀ j, (sI (sI w 191 ((w.1 127 39).toInt.toNat) e) 127 39 ((w.1 127 39) + (1 : Int32))).1 191 j = if j = (w.1 127 39).toInt.toNat then e else w.1 191 j := by
      intro j
      rw [sI_at, if_neg (fun q => absurd q.1 (by decide)), sI_at]
      by_cases hj : j = (w.1 127 39).toInt.toNat
      · rw [if_pos ⟨rfl, hj⟩, if_pos hj]
      · rw [if_neg (fun q => hj q.2), if_neg hj]
    generalize (sI (sI w 191 ((w.1 127 39).toInt.toNat) e) 127 39 ((w.1 127 39) + (1 : Int32))) = w1 at *
    have hA1 : ∀ i : Int32, 0 ≤ i.toInt → i.toInt < (w1.1 127 39).toInt → 0 ≤ (w1.1 191 i.toInt.toNat).toInt ∧ (w1.1 191 i.toInt.toNat).toInt < P2 z ∧ fre z (w1.1 191 i.toInt.toNat) := by
      intro i i0 i1
      rw [f39, e39] at i1
      rw [f191]
      by_cases ci : i.toInt.toNat = (w.1 127 39).toInt.toNat
      · rw [if_pos ci]; exact ⟨he0, he1, hfe⟩
      · rw [if_neg ci]; exact hA i i0 (by omega)
    have ont : ∀ (d a : Int32), OnP w e a → OnP w1 d a := by
      intro d a ha
      right
      rcases ha with ⟨_, ha⟩ | ⟨i, i0, i1, i2⟩
      · refine ⟨w.1 127 39, b39.1, by rw [f39, e39]; omega, ?_⟩
        rw [f191, if_pos rfl]
        exact ha
      · refine ⟨i, i0, by rw [f39, e39]; omega, ?_⟩
        rw [f191, if_neg (by omega)]
        exact i2
    have hB1 : ∀ (d : Int32) (t : Int32), 0 ≤ t.toInt → t.toInt < 20 → ¬ (w1.1 192 t.toInt.toNat).toInt = -1 → ∃ a b : Int32, (0 ≤ a.toInt ∧ a.toInt < P2 z ∧ 0 ≤ b.toInt ∧ b.toInt < P2 z ∧ ¬ a.toInt = b.toInt ∧ At z a = t.toInt ∧ At z b = t.toInt) ∧ OnP w1 d a ∧ OnP w1 d b := by
      intro d t t0 t1 ht
      rw [f192] at ht
      obtain ⟨a, b, h1, h2, h3⟩ := hB t t0 t1 ht
      exact ⟨a, b, h1, ont d a h2, ont d b h3⟩
    have pq1 : PQ z w1 := pq_tr pqm ⟨fun j => (hF1 170 j rfl).1, fun j => (hF1 163 j rfl).1, fun j => (hF1 171 j rfl).1, fun j => (hF1 187 j rfl).1, fun j => (hF1 169 j rfl).1, (hF1 127 26 rfl).1, (hF1 127 11 rfl).1, (hF1 127 40 rfl).2.1⟩
    have hl188 : ∀ g : Int32, LF w1 g = LF m g := fun g => by unfold LF; rw [(hF1 188 _ rfl).1]
    refine fd_257 hI1 hz pq1 he0 he1 (fun g hg => ?_) FU (-1) 0 (Or.inl i_m1) (by decide) (by decide) (fu_lt (by decide))
    refine ⟨fun cg => ?_, fun cg => ?_⟩
    · exact ih g w1 ⟨hI1, hF1, hA1, hB1 g⟩ (Or.inl cg) (by rw [f39, e39]; omega)
    obtain ⟨g0, g1, g2, g3, g4⟩ := hg.resolve_left cg
    rw [hl188] at g2
    have hxe := x1_eq he0
    have atg : (w1.1 170 g.toInt.toNat).toInt = At z g := pq_at pq1 (e := g)
    have atg0 : 0 ≤ At z g := by rw [g4.2.1]; exact g4.1
    have b170 := bd_170 hI1 g.toInt.toNat
    have next : ∀ r : Int32, -1 ≤ r.toInt → r.toInt ≤ 9 → q_Mo_find_209 E Q n g (sI w1 192 ((w1.1 170 g.toInt.toNat).toInt.toNat) r) := by
      intro r r0 r9
      have hpn := pp_next hz hR hH hS hM hC hK he0 he1 hf hp g0 g1 (by omega) (by omega) g4
      have hcs2 := cp_step (w := m) (P := (z.1 127 11).toInt.toNat) (e := e) (L := LF m g) he0 (by omega) hf hp (by omega)
      have q39 : (sI w1 192 ((w1.1 170 g.toInt.toNat).toInt.toNat) r).1 127 39 = w1.1 127 39 := rfl
      have q191 : ∀ j, (sI w1 192 ((w1.1 170 g.toInt.toNat).toInt.toNat) r).1 191 j = w1.1 191 j := fun _ => rfl
      have onw : ∀ a : Int32, OnP w1 g a → OnP (sI w1 192 ((w1.1 170 g.toInt.toNat).toInt.toNat) r) g a := by
        intro a ha
        unfold OnP at *
        rw [q39]
        rcases ha with ha | ⟨i, i0, i1, i2⟩
        · exact Or.inl ha
        · exact Or.inr ⟨i, i0, i1, by rw [q191]; exact i2⟩
      refine ih g _ ⟨wbd_192 hI1 _ r0 r9, FR.I hF1 rfl, ?_, ?_⟩ (Or.inr ⟨g0, g1, by omega, hpn, ?_⟩) ?_
      · intro i i0 i1
        rw [q39] at i1
        rw [q191]
        exact hA1 i i0 i1
      · intro t' t0 t1 ht
        by_cases ct : t'.toInt.toNat = (w1.1 170 g.toInt.toNat).toInt.toNat
        · refine ⟨e ^^^ (1 : Int32), g, ⟨by omega, by omega, g0, g1, fun q => g4.2.2.1 q.symm, by rw [← g4.2.1]; omega, by omega⟩, onw _ (Or.inr ⟨w.1 127 39, b39.1, by rw [f39, e39]; omega, ?_⟩), onw _ (Or.inl ⟨g0, rfl⟩)⟩
          rw [f191, if_pos rfl, x1_div he0]
        · rw [sI_ne _ _ _ _ _ ct] at ht
          obtain ⟨a, b, h1, h2, h3⟩ := hB1 g t' t0 t1 ht
          exact ⟨a, b, h1, onw a h2, onw b h3⟩
      · rw [q39, f39, e39]
        omega
      · rw [q39, f39, e39]
        omega
    refine ⟨⟨g0, by omega⟩, ?_⟩
    refine g_needOf hI1 (by omega) (by omega) g0 (by omega) (fun r r0 r9 _ => ⟨⟨by omega, by omega⟩, next r (by omega) r9⟩) (fun _ => ⟨⟨by omega, by omega⟩, next (-1) (by decide) (by decide)⟩)
theorem h_Mo_find {w : MW} {a0 : Int32} {b0 : Int32} {Q : Int32 → MW → Prop} (hI : BND w) (hf_HW : HW w) (hf_RP : RP w) (hf_SZ : SZ w) (hp0 : 0 ≤ a0.toInt) (hp1 : a0.toInt ≤ 19) (hp2 : 0 ≤ b0.toInt) (hp3 : b0.toInt ≤ 19) (hp4 : ¬ a0.toInt = b0.toInt) (hp5 : (w.1 163 a0.toInt.toNat).toInt = 0) (hp6 : (w.1 163 b0.toInt.toNat).toInt = 0) (hQ : ∀ (r : Int32) (w' : MW), BND w' → FR l_Mo_find w w' → 0 ≤ r.toInt → r.toInt ≤ 1 → r.toInt = 0 ∨ 1 ≤ (w'.1 127 39).toInt → r.toInt = 0 ∨ (w'.1 127 26).toInt ≤ 23 → BW w' → Q r w') : p_Mo_find w a0 b0 Q := by
  refine Eq.mpr (p_Mo_find.eq_1 _ _ _ _) ?_
  refine fd_7 (z := w) (fun z hIz hFz hBz => ?_) FU 0 (sJ w 127 40 0) (bnd_J hI) (FR.J (FR.refl _ w) rfl) (fun k i a0 a1 a2 a3 => ?_) (by decide) (by decide) (fu_lt (by decide))
  · have hSz : SZ z := SZ_fr hFz rfl hf_SZ
    have hRz : RP z := RP_fr hFz rfl hf_RP
    have hHz : HW z := HW_fr hFz rfl hf_HW
    have hHB := by_hb hIz hHz hBz
    have k0 : Kd z a0.toInt = 0 := by unfold Kd; rw [(hFz 163 _ rfl).1]; exact hp5
    have k1 : Kd z b0.toInt = 0 := by unfold Kd; rw [(hFz 163 _ rfl).1]; exact hp6
    refine g_measure hIz hSz (fun m hIm hFm hMm hCm => ?_)
    have hI0 : BND (sI m 127 39 0) := wbd_127_39 hIm (by decide) (by decide)
    refine fd_78 (m := m) (fun w10 hI10 hF10 h39 h192 => ?_) FU 0 (sI m 127 39 0) hI0 (FR.I (FR.refl _ m) rfl) i_0 (fun t t0 t1 => by have := i_0; omega) (by decide) (by decide) (fu_lt (by decide))
    have hlm : ∀ g : Int32, LF w10 g = LF m g := fun g => by unfold LF; rw [(hF10 188 _ rfl).1]
    have hat : ∀ g : Int32, At w10 g = At z g := fun g => by unfold At; rw [(hF10 170 _ rfl).1, (hFm 170 _ rfl).1]
    refine fd_102 (z := z) hI10 (((hF10 127 11 rfl).1).trans (hFm 127 11 rfl).1) hIz (fun e he => ?_) FU (-1) 0 (Or.inl i_m1) (by decide) (by decide) (fu_lt (by decide))
    refine fd_209 (z := z) (m := m) (t := b0) hIz hFm hRz hHB hSz hMm hCm k1 (fun w47 hT => ?_) FU e w10 ⟨hI10, hF10, fun i i0 i1 => by omega, fun t t0 t1 ht => absurd (h192 t t0 t1) ht⟩ ?_ (fu_lt (by have := bd_127_39 hI10; omega))
    · obtain ⟨hI47, hF47, hA, hB⟩ := hT
      have pq : PQ z w47 := pq_tr (pq_fr hFm) ⟨fun j => (hF47 170 j rfl).1, fun j => (hF47 163 j rfl).1, fun j => (hF47 171 j rfl).1, fun j => (hF47 187 j rfl).1, fun j => (hF47 169 j rfl).1, (hF47 127 26 rfl).1, (hF47 127 11 rfl).1, (hF47 127 40 rfl).2.1⟩
      have hP := pq_p2 pq
      have e185 : ∀ j, w47.1 185 j = z.1 185 j := fun j => ((hF47 185 j rfl).1).trans (hFm 185 j rfl).1
      have e186 : ∀ j, w47.1 186 j = z.1 186 j := fun j => ((hF47 186 j rfl).1).trans (hFm 186 j rfl).1
      have hFF : FR l_Mo_find w w47 := (((FR.refl _ w).tr hFz rfl).tr hFm rfl).tr hF47 rfl
      have hBW : BW w47 := by
        refine ⟨fun i i0 i1 => ?_, fun t t0 t1 ht => ?_⟩
        · have h := hA i i0 i1
          refine ⟨⟨h.1, by rw [hP]; exact h.2.1⟩, fun k j k0 k1 j0 j1 _ q => ?_⟩
          have h2 := fre_bz.mp h.2.2
          rw [q, e186] at h2
          rw [e185] at j1
          rw [pq.2.2.2.2.2.1] at k1
          exact hBz k j k0 j0 j1 (Or.inl k1) h2
        · obtain ⟨a, b, h1, h2, h3⟩ := hB t t0 t1 ht
          have no : ¬ 0 ≤ (-1 : Int32).toInt := by decide
          rcases h2 with h2 | ⟨i, i0, i1, i2⟩
          · exact absurd h2.1 no
          rcases h3 with h3 | ⟨j, j0, j1, j2⟩
          · exact absurd h3.1 no
          exact ⟨a, b, i, j, ⟨h1.1, by rw [hP]; exact h1.2.1, h1.2.2.1, by rw [hP]; exact h1.2.2.2.1, h1.2.2.2.2.1, by rw [pq_at pq]; exact h1.2.2.2.2.2.1, by rw [pq_at pq]; exact h1.2.2.2.2.2.2⟩, ⟨i0, i1, j0, j1⟩, i2, j2⟩
      have b39 := bd_127_39 hI47
      have hH47 : HW w47 := HW_fr hFF rfl hf_HW
      exact ⟨fun c => hQ 0 w47 hI47 hFF (by decide) (by decide) (Or.inl i_0) (Or.inl i_0) hBW, fun c => hQ 1 w47 hI47 hFF (by decide) (by decide) (Or.inr (by omega)) (Or.inr (ways_23 hI47 hH47 hBW (by omega))) hBW⟩
    · rcases he with he | ⟨e0, e1, e2, e3⟩
      · exact Or.inl he
      · right
        rw [hlm] at e3
        rw [hat] at e2
        have hxe := x1_eq e0
        have hPz : P2 z = 2 * (z.1 127 11).toInt := rfl
        refine ⟨e0, e1, e3, Or.inl ?_, ?_⟩
        · apply Classical.byContradiction
          intro c
          have h5 := ((hMm (e ^^^ (1 : Int32)) (by omega) (by omega)).resolve_left c).2.2.2.2
          rw [x1_x1 e0] at h5
          rcases h5 with h5 | ⟨g, _, _, h6, _⟩
          · apply hp4
            omega
          · apply h6.2.2.2.1
            rw [e2]
            exact k0
        · have := cp_le (w := m) (P := (z.1 127 11).toInt.toNat) (L := LF m e)
          have := bd_127_11 hIz
          omega
  · have := i_0
    omega
def l_Mo_openWay_2 : Pl := []
def l_Mo_openWay : Pl := []
set_option maxRecDepth 20000 in
set_option maxHeartbeats 2000000 in
theorem hq_Mo_openWay_2 {x2_1 : Int32} {x2_2 : Int32} {E : MW → Prop} {Q : Int32 → MW → Prop} (n : Nat) : ∀ (x2_3 : Int32) (w : MW), BND w → FT w → 0 ≤ x2_3.toInt → x2_3.toInt ≤ 24 → (24 - x2_3.toInt).toNat < n → (∀ (w' : MW), BND w' → FR l_Mo_openWay_2 w w' → E w') → (∀ (r : Int32) (w' : MW), BND w' → FR l_Mo_openWay_2 w w' → 0 ≤ r.toInt → r.toInt ≤ 23 → r.toInt < 0 ∨ r.toInt < (w.1 127 26).toInt → Q r w') → q_Mo_openWay_2 x2_1 x2_2 E Q n x2_3 w := by
  induction n with
  | zero => intros; omega
  | succ n ih =>
    intro x2_3 w hI hf_FT hp0 hp1 hm hE hQ
    rw [q_Mo_openWay_2.eq_2]
    refine ⟨fun h13882 => ?_, fun h13882 => ?_⟩
    · exact hE _ hI (FR.refl _ w)
    · have o13883 : 0 ≤ x2_3.toInt ∧ x2_3.toInt < 24 := by have := bd_127_26 hI; omega
      refine ⟨o13883, ?_⟩
      refine ⟨fun h13884 => ?_, fun h13884 => ?_⟩
      · have o13885 : (0 ≤ (x2_3 + (1 : Int32)).toInt) ∧ ((x2_3 + (1 : Int32)).toInt ≤ 24) := by have := bd_127_26 hI; have := ti_add2 (Eq.refl x2_3.toInt) (by decide : ((1 : Int32)).toInt = 1) (by omega) (by omega); exact ⟨by omega, by omega⟩
        exact ih _ w hI hf_FT o13885.1 o13885.2 (by have := bd_127_26 hI; have := ti_add2 (Eq.refl x2_3.toInt) (by decide : ((1 : Int32)).toInt = 1) (by omega) (by omega); omega) (fun w9 hI9 hF9 => hE w9 hI9 ((FR.refl _ w).tr hF9 rfl) ) (fun r w9 hI9 hF9 q0 q1 q2 => hQ r w9 hI9 ((FR.refl _ w).tr hF9 rfl) (by have := bd_127_26 hI; have := ti_add2 (Eq.refl x2_3.toInt) (by decide : ((1 : Int32)).toInt = 1) (by omega) (by omega); omega) (by have := bd_127_26 hI; have := ti_add2 (Eq.refl x2_3.toInt) (by decide : ((1 : Int32)).toInt = 1) (by omega) (by omega); omega) (by have := bd_127_26 hI; have := ti_add2 (Eq.refl x2_3.toInt) (by decide : ((1 : Int32)).toInt = 1) (by omega) (by omega); omega))
      · have o13886 : 0 ≤ x2_3.toInt ∧ x2_3.toInt < 24 := by have := bd_127_26 hI; omega
        refine ⟨o13886, ?_⟩
        refine ⟨fun h13887 => ?_, fun h13887 => ?_⟩
        · have o13888 : (0 ≤ (x2_3 + (1 : Int32)).toInt) ∧ ((x2_3 + (1 : Int32)).toInt ≤ 24) := by have := bd_127_26 hI; have := bd_127_4 hI; have := bd_182 hI x2_3.toInt.toNat; have := ti_lo x2_2; have := ti_hi x2_2; have := ti_add2 (Eq.refl x2_3.toInt) (by decide : ((1 : Int32)).toInt = 1) (by omega) (by omega); (try have := hf_FT x2_3 (by omega) (by omega)); exact ⟨by omega, by omega⟩
          exact ih _ w hI hf_FT o13888.1 o13888.2 (by have := bd_127_26 hI; have := bd_127_4 hI; have := bd_182 hI x2_3.toInt.toNat; have := ti_lo x2_2; have := ti_hi x2_2; have := ti_add2 (Eq.refl x2_3.toInt) (by decide : ((1 : Int32)).toInt = 1) (by omega) (by omega); (try have := hf_FT x2_3 (by omega) (by omega)); omega) (fun w9 hI9 hF9 => hE w9 hI9 ((FR.refl _ w).tr hF9 rfl) ) (fun r w9 hI9 hF9 q0 q1 q2 => hQ r w9 hI9 ((FR.refl _ w).tr hF9 rfl) (by have := bd_127_26 hI; have := bd_127_4 hI; have := bd_182 hI x2_3.toInt.toNat; have := ti_lo x2_2; have := ti_hi x2_2; have := ti_add2 (Eq.refl x2_3.toInt) (by decide : ((1 : Int32)).toInt = 1) (by omega) (by omega); (try have := hf_FT x2_3 (by omega) (by omega)); omega) (by have := bd_127_26 hI; have := bd_127_4 hI; have := bd_182 hI x2_3.toInt.toNat; have := ti_lo x2_2; have := ti_hi x2_2; have := ti_add2 (Eq.refl x2_3.toInt) (by decide : ((1 : Int32)).toInt = 1) (by omega) (by omega); (try have := hf_FT x2_3 (by omega) (by omega)); omega) (by have := bd_127_26 hI; have := bd_127_4 hI; have := bd_182 hI x2_3.toInt.toNat; have := ti_lo x2_2; have := ti_hi x2_2; have := ti_add2 (Eq.refl x2_3.toInt) (by decide : ((1 : Int32)).toInt = 1) (by omega) (by omega); (try have := hf_FT x2_3 (by omega) (by omega)); omega))
        · have o13889 : (0 ≤ x2_3.toInt) ∧ (x2_3.toInt ≤ 23) ∧ (x2_3.toInt < 0 ∨ x2_3.toInt < (w.1 127 26).toInt) := by have := bd_127_26 hI; have := bd_127_4 hI; have := bd_182 hI x2_3.toInt.toNat; (try have := hf_FT x2_3 (by omega) (by omega)); exact ⟨by omega, by omega, by omega⟩
          exact hQ _ _ hI (FR.refl _ w)  o13889.1 o13889.2.1 o13889.2.2
set_option maxRecDepth 20000 in
set_option maxHeartbeats 2000000 in
theorem h_Mo_openWay {w : MW} {a0 : Int32} {b0 : Int32} {Q : Int32 → MW → Prop} (hI : BND w) (hf_FT : FT w)  (hQ : ∀ (r : Int32) (w' : MW), BND w' → FR l_Mo_openWay w w' → (-1) ≤ r.toInt → r.toInt ≤ 23 → r.toInt < 0 ∨ r.toInt < (w.1 127 26).toInt → Q r w') : p_Mo_openWay w a0 b0 Q := by
  refine Eq.mpr (p_Mo_openWay.eq_1 _ _ _ _) ?_
  have o13890 : (0 ≤ (0 : Int32).toInt) ∧ ((0 : Int32).toInt ≤ 24) := by have := ti_lo a0; have := ti_hi a0; have := ti_lo b0; have := ti_hi b0; have := (by decide : ((0 : Int32)).toInt = 0); exact ⟨by omega, by omega⟩
  refine hq_Mo_openWay_2 FU _ w hI hf_FT o13890.1 o13890.2 (fu_lt (by have := ti_lo a0; have := ti_hi a0; have := ti_lo b0; have := ti_hi b0; have := (by decide : ((0 : Int32)).toInt = 0); omega)) (fun w13891 hI13892 hL13893  => ?_) (fun r w9 hI9 hF9 q0 q1 q2 => hQ r w9 hI9 (((FR.refl _ w)).tr hF9 rfl) (by have := ti_lo a0; have := ti_hi a0; have := ti_lo b0; have := ti_hi b0; have := (by decide : ((0 : Int32)).toInt = 0); have := bd_127_26 hI; omega) (by have := ti_lo a0; have := ti_hi a0; have := ti_lo b0; have := ti_hi b0; have := (by decide : ((0 : Int32)).toInt = 0); have := bd_127_26 hI; omega) (by have := ti_lo a0; have := ti_hi a0; have := ti_lo b0; have := ti_hi b0; have := (by decide : ((0 : Int32)).toInt = 0); have := bd_127_26 hI; omega))
  have hF13894 : FR l_Mo_openWay w w13891 := (FR.refl _ w).tr hL13893 rfl
  have o13895 : ((-1) ≤ ((-1) : Int32).toInt) ∧ (((-1) : Int32).toInt ≤ 23) ∧ (((-1) : Int32).toInt < 0 ∨ ((-1) : Int32).toInt < (w.1 127 26).toInt) := by have := (by decide : (((-1) : Int32)).toInt = (-1)); have := bd_127_26 hI; exact ⟨by omega, by omega, by omega⟩
  exact hQ _ _ hI13892 hF13894  o13895.1 o13895.2.1 o13895.2.2
def l_Mo_open_54 : Pl := []
def l_Mo_open_127 : Pl := [(194, none)]
def l_Mo_open_166 : Pl := [(167, none), (190, none)]
def l_Mo_open_340 : Pl := [(186, none)]
def l_Mo_open_380 : Pl := [(187, none)]
def l_Mo_open_251 : Pl := [(167, none)]
def l_Mo_open : Pl := [(127, some 26), (127, some 39), (127, some 40), (127, some 45), (127, some 46), (127, some 47), (127, some 48), (167, none), (181, none), (182, none), (183, none), (184, none), (185, none), (186, none), (187, none), (188, none), (189, none), (190, none), (191, none), (192, none), (194, none), (195, none), (196, none)]
set_option maxRecDepth 20000 in
set_option maxHeartbeats 2000000 in
theorem hq_Mo_open_54 {x54_1 : Int32} {x54_2 : Int32} {x54_3 : Int32} {x54_4 : Int32} {E : Int32 → MW → Prop} {Q : Int32 → MW → Prop} (n : Nat) : ∀ (x54_5 : Int32) (x54_6 : Int32) (w : MW), BND w → 0 ≤ x54_1.toInt → x54_1.toInt ≤ 19 → 0 ≤ x54_2.toInt → x54_2.toInt ≤ 19 → 1 ≤ x54_3.toInt → x54_3.toInt ≤ 100 → 0 ≤ x54_4.toInt → x54_4.toInt ≤ 15 → 0 ≤ x54_5.toInt → x54_5.toInt ≤ 1 → 0 ≤ x54_6.toInt → x54_6.toInt ≤ 24 → BW w → (24 - x54_6.toInt).toNat < n → (∀ (e54_5 : Int32) (w' : MW), BND w' → FR l_Mo_open_54 w w' → 0 ≤ e54_5.toInt → e54_5.toInt ≤ 1 → E e54_5 w') → (∀ (r : Int32) (w' : MW), BND w' → FR l_Mo_open_54 w w' → False → Q r w') → q_Mo_open_54 x54_1 x54_2 x54_3 x54_4 E Q n x54_5 x54_6 w := by
  induction n with
  | zero => intros; omega
  | succ n ih =>
    intro x54_5 x54_6 w hI  hp0 hp1 hp2 hp3 hp4 hp5 hp6 hp7 hp8 hp9 hp10 hp11 hp12 hm hE hQ
    rw [q_Mo_open_54.eq_2]
    refine ⟨fun h13896 => ?_, fun h13896 => ?_⟩
    · have o13897 : (0 ≤ x54_5.toInt) ∧ (x54_5.toInt ≤ 1) := by exact ⟨by omega, by omega⟩
      exact hE _ _ hI (FR.refl _ w) o13897.1 o13897.2
    · refine ⟨fun h13898 => ?_, fun h13898 => ?_⟩
      · have o13899 : (0 ≤ x54_1.toInt) ∧ (x54_1.toInt ≤ 19) ∧ (0 ≤ x54_2.toInt) ∧ (x54_2.toInt ≤ 19) ∧ (1 ≤ x54_3.toInt) ∧ (x54_3.toInt ≤ 100) ∧ (0 ≤ x54_4.toInt) ∧ (x54_4.toInt ≤ 15) ∧ (0 ≤ (0 : Int32).toInt) ∧ ((0 : Int32).toInt ≤ 1) ∧ (0 ≤ (x54_6 + (1 : Int32)).toInt) ∧ ((x54_6 + (1 : Int32)).toInt ≤ 24) := by have := (by decide : ((0 : Int32)).toInt = 0); have := bd_127_39 hI; have := ti_add2 (Eq.refl x54_6.toInt) (by decide : ((1 : Int32)).toInt = 1) (by omega) (by omega); exact ⟨by omega, by omega, by omega, by omega, by omega, by omega, by omega, by omega, by omega, by omega, by omega, by omega⟩
        exact ih _ _ w hI  o13899.1 o13899.2.1 o13899.2.2.1 o13899.2.2.2.1 o13899.2.2.2.2.1 o13899.2.2.2.2.2.1 o13899.2.2.2.2.2.2.1 o13899.2.2.2.2.2.2.2.1 o13899.2.2.2.2.2.2.2.2.1 o13899.2.2.2.2.2.2.2.2.2.1 o13899.2.2.2.2.2.2.2.2.2.2.1 o13899.2.2.2.2.2.2.2.2.2.2.2 hp12 (by have := (by decide : ((0 : Int32)).toInt = 0); have := bd_127_39 hI; have := ti_add2 (Eq.refl x54_6.toInt) (by decide : ((1 : Int32)).toInt = 1) (by omega) (by omega); omega) (fun e0 w9 hI9 hF9 p0 p1 => hE e0 w9 hI9 ((FR.refl _ w).tr hF9 rfl) p0 p1 ) (fun r w9 hI9 hF9 q0 => q0.elim)
      · have o13900 : 0 ≤ x54_6.toInt ∧ x54_6.toInt < 24 := by have := bd_127_39 hI; omega
        refine ⟨o13900, ?_⟩
        have o13901 : (0 ≤ x54_4.toInt) ∧ (x54_4.toInt ≤ 15) ∧ (0 ≤ ((w.1 127 4) + ((w.1 191 x54_6.toInt.toNat) / (2 : Int32))).toInt) ∧ (((w.1 127 4) + ((w.1 191 x54_6.toInt.toNat) / (2 : Int32))).toInt ≤ 43) ∧ (((w.1 127 4) + ((w.1 191 x54_6.toInt.toNat) / (2 : Int32))).toInt < (w.1 127 4).toInt + (w.1 127 11).toInt) := by have := bd_127_4 hI; have := bd_127_39 hI; have := bd_127_11 hI; have := bd_191 hI x54_6.toInt.toNat; (try have := bw_use (i := x54_6) hp12 (by omega) (by omega)); have := nb_div (x := (w.1 191 x54_6.toInt.toNat)) (by omega) (by decide : ((2 : Int32)).toInt = 2) (by decide); have := ti_add2 (Eq.refl (w.1 127 4).toInt) (Eq.refl ((w.1 191 x54_6.toInt.toNat) / (2 : Int32)).toInt) (by omega) (by omega); exact ⟨by omega, by omega, by omega, by omega, by omega⟩
        refine h_Mo_mayCome hI  o13901.1 o13901.2.1 o13901.2.2.1 o13901.2.2.2.1 o13901.2.2.2.2 (fun r13905 w13902 hI13903 hL13904 p13906 p13907 => ?_)
        have hF13908 : FR l_Mo_open_54 w w13902 := (FR.refl _ w).tr hL13904 rfl
        refine ⟨fun h13909 => ?_, fun h13909 => ?_⟩
        · have o13910 : (0 ≤ x54_1.toInt) ∧ (x54_1.toInt ≤ 19) ∧ (0 ≤ x54_2.toInt) ∧ (x54_2.toInt ≤ 19) ∧ (1 ≤ x54_3.toInt) ∧ (x54_3.toInt ≤ 100) ∧ (0 ≤ x54_4.toInt) ∧ (x54_4.toInt ≤ 15) ∧ (0 ≤ (0 : Int32).toInt) ∧ ((0 : Int32).toInt ≤ 1) ∧ (0 ≤ (x54_6 + (1 : Int32)).toInt) ∧ ((x54_6 + (1 : Int32)).toInt ≤ 24) := by have := (by decide : ((0 : Int32)).toInt = 0); have := bd_127_39 hI; have := ti_add2 (Eq.refl x54_6.toInt) (by decide : ((1 : Int32)).toInt = 1) (by omega) (by omega); exact ⟨by omega, by omega, by omega, by omega, by omega, by omega, by omega, by omega, by omega, by omega, by omega, by omega⟩
          exact ih _ _ w13902 hI13903  o13910.1 o13910.2.1 o13910.2.2.1 o13910.2.2.2.1 o13910.2.2.2.2.1 o13910.2.2.2.2.2.1 o13910.2.2.2.2.2.2.1 o13910.2.2.2.2.2.2.2.1 o13910.2.2.2.2.2.2.2.2.1 o13910.2.2.2.2.2.2.2.2.2.1 o13910.2.2.2.2.2.2.2.2.2.2.1 o13910.2.2.2.2.2.2.2.2.2.2.2 (BW_fr hL13904 rfl hp12) (by have := (by decide : ((0 : Int32)).toInt = 0); have := bd_127_39 hI; have := ti_add2 (Eq.refl x54_6.toInt) (by decide : ((1 : Int32)).toInt = 1) (by omega) (by omega); omega) (fun e0 w9 hI9 hF9 p0 p1 => hE e0 w9 hI9 (hF13908.tr hF9 rfl) p0 p1 ) (fun r w9 hI9 hF9 q0 => q0.elim)
        · have o13911 : (0 ≤ x54_1.toInt) ∧ (x54_1.toInt ≤ 19) ∧ (0 ≤ x54_2.toInt) ∧ (x54_2.toInt ≤ 19) ∧ (1 ≤ x54_3.toInt) ∧ (x54_3.toInt ≤ 100) ∧ (0 ≤ x54_4.toInt) ∧ (x54_4.toInt ≤ 15) ∧ (0 ≤ (1 : Int32).toInt) ∧ ((1 : Int32).toInt ≤ 1) ∧ (0 ≤ (x54_6 + (1 : Int32)).toInt) ∧ ((x54_6 + (1 : Int32)).toInt ≤ 24) := by have := (by decide : ((1 : Int32)).toInt = 1); have := bd_127_39 hI; have := ti_add2 (Eq.refl x54_6.toInt) (by decide : ((1 : Int32)).toInt = 1) (by omega) (by omega); exact ⟨by omega, by omega, by omega, by omega, by omega, by omega, by omega, by omega, by omega, by omega, by omega, by omega⟩
          exact ih _ _ w13902 hI13903  o13911.1 o13911.2.1 o13911.2.2.1 o13911.2.2.2.1 o13911.2.2.2.2.1 o13911.2.2.2.2.2.1 o13911.2.2.2.2.2.2.1 o13911.2.2.2.2.2.2.2.1 o13911.2.2.2.2.2.2.2.2.1 o13911.2.2.2.2.2.2.2.2.2.1 o13911.2.2.2.2.2.2.2.2.2.2.1 o13911.2.2.2.2.2.2.2.2.2.2.2 (BW_fr hL13904 rfl hp12) (by have := (by decide : ((1 : Int32)).toInt = 1); have := bd_127_39 hI; have := ti_add2 (Eq.refl x54_6.toInt) (by decide : ((1 : Int32)).toInt = 1) (by omega) (by omega); omega) (fun e0 w9 hI9 hF9 p0 p1 => hE e0 w9 hI9 (hF13908.tr hF9 rfl) p0 p1 ) (fun r w9 hI9 hF9 q0 => q0.elim)
set_option maxRecDepth 20000 in
set_option maxHeartbeats 2000000 in
theorem hq_Mo_open_127 {x127_1 : Int32} {x127_2 : Int32} {x127_3 : Int32} {x127_4 : Int32} {E : MW → Prop} {Q : Int32 → MW → Prop} (n : Nat) : ∀ (x127_6 : Int32) (w : MW), BND w → 0 ≤ x127_1.toInt → x127_1.toInt ≤ 19 → 0 ≤ x127_2.toInt → x127_2.toInt ≤ 19 → 1 ≤ x127_3.toInt → x127_3.toInt ≤ 100 → 0 ≤ x127_4.toInt → x127_4.toInt ≤ 15 → 0 ≤ x127_6.toInt → x127_6.toInt ≤ 24 → BW w → (24 - x127_6.toInt).toNat < n → (∀ (w' : MW), BND w' → FR l_Mo_open_127 w w' → E w') → (∀ (r : Int32) (w' : MW), BND w' → FR l_Mo_open_127 w w' → False → Q r w') → q_Mo_open_127 x127_1 x127_2 x127_3 x127_4 E Q n x127_6 w := by
  induction n with
  | zero => intros; omega
  | succ n ih =>
    intro x127_6 w hI  hp0 hp1 hp2 hp3 hp4 hp5 hp6 hp7 hp8 hp9 hp10 hm hE hQ
    rw [q_Mo_open_127.eq_2]
    refine ⟨fun h13912 => ?_, fun h13912 => ?_⟩
    · exact hE _ hI (FR.refl _ w)
    · have o13913 : 0 ≤ x127_6.toInt ∧ x127_6.toInt < 24 := by have := bd_127_39 hI; omega
      refine ⟨o13913, ?_⟩
      have o13914 : 0 ≤ ((w.1 127 4) + ((w.1 191 x127_6.toInt.toNat) / (2 : Int32))).toInt ∧ ((w.1 127 4) + ((w.1 191 x127_6.toInt.toNat) / (2 : Int32))).toInt < 44 := by have := bd_127_4 hI; have := bd_127_39 hI; have := bd_127_11 hI; have := bd_191 hI x127_6.toInt.toNat; (try have := bw_use (i := x127_6) hp10 (by omega) (by omega)); have := nb_div (x := (w.1 191 x127_6.toInt.toNat)) (by omega) (by decide : ((2 : Int32)).toInt = 2) (by decide); have := ti_add2 (Eq.refl (w.1 127 4).toInt) (Eq.refl ((w.1 191 x127_6.toInt.toNat) / (2 : Int32)).toInt) (by omega) (by omega); omega
      refine ⟨o13914, ?_⟩
      have o13916 : 0 ≤ x127_4.toInt ∧ x127_4.toInt ≤ 15 := by omega
      have hI13915 : BND (sI w 194 (((w.1 127 4) + ((w.1 191 x127_6.toInt.toNat) / (2 : Int32))).toInt.toNat) x127_4) := wbd_194 hI (((w.1 127 4) + ((w.1 191 x127_6.toInt.toNat) / (2 : Int32))).toInt.toNat) o13916.1 o13916.2
      have o13917 : (0 ≤ x127_1.toInt) ∧ (x127_1.toInt ≤ 19) ∧ (0 ≤ x127_2.toInt) ∧ (x127_2.toInt ≤ 19) ∧ (1 ≤ x127_3.toInt) ∧ (x127_3.toInt ≤ 100) ∧ (0 ≤ x127_4.toInt) ∧ (x127_4.toInt ≤ 15) ∧ (0 ≤ (x127_6 + (1 : Int32)).toInt) ∧ ((x127_6 + (1 : Int32)).toInt ≤ 24) := by have := bd_127_39 hI; have := ti_add2 (Eq.refl x127_6.toInt) (by decide : ((1 : Int32)).toInt = 1) (by omega) (by omega); exact ⟨by omega, by omega, by omega, by omega, by omega, by omega, by omega, by omega, by omega, by omega⟩
      have hW13918 : BW (sI w 194 (((w.1 127 4) + ((w.1 191 x127_6.toInt.toNat) / (2 : Int32))).toInt.toNat) x127_4) := (BW_fr (l := [(194, none)]) (FR.I (FR.refl _ w) (k := 194) (j := ((w.1 127 4) + ((w.1 191 x127_6.toInt.toNat) / (2 : Int32))).toInt.toNat) (v := x127_4) rfl) rfl hp10)
      exact ih _ (sI w 194 (((w.1 127 4) + ((w.1 191 x127_6.toInt.toNat) / (2 : Int32))).toInt.toNat) x127_4) hI13915  o13917.1 o13917.2.1 o13917.2.2.1 o13917.2.2.2.1 o13917.2.2.2.2.1 o13917.2.2.2.2.2.1 o13917.2.2.2.2.2.2.1 o13917.2.2.2.2.2.2.2.1 o13917.2.2.2.2.2.2.2.2.1 o13917.2.2.2.2.2.2.2.2.2 hW13918 (by have := bd_127_39 hI; have := ti_add2 (Eq.refl x127_6.toInt) (by decide : ((1 : Int32)).toInt = 1) (by omega) (by omega); omega) (fun w9 hI9 hF9 => hE w9 hI9 ((FR.I (FR.refl _ w) (k := 194) (j := ((w.1 127 4) + ((w.1 191 x127_6.toInt.toNat) / (2 : Int32))).toInt.toNat) (v := x127_4) rfl).tr hF9 rfl) ) (fun r w9 hI9 hF9 q0 => q0.elim)
set_option maxRecDepth 20000 in
set_option maxHeartbeats 2000000 in
theorem hq_Mo_open_166 {x166_1 : Int32} {x166_2 : Int32} {x166_3 : Int32} {x166_4 : Int32} {E : MW → Prop} {Q : Int32 → MW → Prop} (n : Nat) : ∀ (x166_6 : Int32) (w : MW), BND w → 0 ≤ x166_1.toInt → x166_1.toInt ≤ 19 → 0 ≤ x166_2.toInt → x166_2.toInt ≤ 19 → 1 ≤ x166_3.toInt → x166_3.toInt ≤ 100 → 0 ≤ x166_4.toInt → x166_4.toInt ≤ 15 → 0 ≤ x166_6.toInt → x166_6.toInt ≤ 20 → (20 - x166_6.toInt).toNat < n → (∀ (w' : MW), BND w' → FR l_Mo_open_166 w w' → E w') → (∀ (r : Int32) (w' : MW), BND w' → FR l_Mo_open_166 w w' → False → Q r w') → q_Mo_open_166 x166_1 x166_2 x166_3 x166_4 E Q n x166_6 w := by
  induction n with
  | zero => intros; omega
  | succ n ih =>
    intro x166_6 w hI  hp0 hp1 hp2 hp3 hp4 hp5 hp6 hp7 hp8 hp9 hm hE hQ
    rw [q_Mo_open_166.eq_2]
    refine ⟨fun h13919 => ?_, fun h13919 => ?_⟩
    · exact hE _ hI (FR.refl _ w)
    · have o13920 : 0 ≤ x166_6.toInt ∧ x166_6.toInt < 20 := by have := bd_127_4 hI; omega
      refine ⟨o13920, ?_⟩
      have o13921 : 0 ≤ x166_6.toInt ∧ x166_6.toInt < 20 := by have := bd_127_4 hI; omega
      refine ⟨o13921, ?_⟩
      have o13922 : 0 ≤ x166_6.toInt ∧ x166_6.toInt < 20 := by have := bd_127_4 hI; omega
      refine ⟨o13922, ?_⟩
      refine ⟨fun h13923 => ?_, fun h13923 => ?_⟩
      · have o13924 : 0 ≤ x166_6.toInt ∧ x166_6.toInt < 20 := by have := bd_127_4 hI; omega
        refine ⟨o13924, ?_⟩
        have o13925 : 0 ≤ x166_6.toInt ∧ x166_6.toInt < 20 := by have := bd_127_4 hI; omega
        refine ⟨o13925, ?_⟩
        have o13927 : 0 ≤ (w.1 167 x166_6.toInt.toNat).toInt ∧ (w.1 167 x166_6.toInt.toNat).toInt ≤ 9 := by have := bd_167 hI x166_6.toInt.toNat; omega
        have hI13926 : BND (sI w 190 x166_6.toInt.toNat (w.1 167 x166_6.toInt.toNat)) := wbd_190 hI x166_6.toInt.toNat o13927.1 o13927.2
        have o13929 : 0 ≤ (w.1 167 x166_6.toInt.toNat).toInt ∧ (w.1 167 x166_6.toInt.toNat).toInt ≤ 9 := by have := bd_167 hI x166_6.toInt.toNat; omega
        have hI13928 : BND (sI (sI w 190 x166_6.toInt.toNat (w.1 167 x166_6.toInt.toNat)) 167 x166_6.toInt.toNat (w.1 167 x166_6.toInt.toNat)) := wbd_167 hI13926 x166_6.toInt.toNat o13929.1 o13929.2
        have o13930 : (0 ≤ x166_1.toInt) ∧ (x166_1.toInt ≤ 19) ∧ (0 ≤ x166_2.toInt) ∧ (x166_2.toInt ≤ 19) ∧ (1 ≤ x166_3.toInt) ∧ (x166_3.toInt ≤ 100) ∧ (0 ≤ x166_4.toInt) ∧ (x166_4.toInt ≤ 15) ∧ (0 ≤ (x166_6 + (1 : Int32)).toInt) ∧ ((x166_6 + (1 : Int32)).toInt ≤ 20) := by have := bd_127_4 hI; have := ti_add2 (Eq.refl x166_6.toInt) (by decide : ((1 : Int32)).toInt = 1) (by omega) (by omega); exact ⟨by omega, by omega, by omega, by omega, by omega, by omega, by omega, by omega, by omega, by omega⟩
        exact ih _ (sI (sI w 190 x166_6.toInt.toNat (w.1 167 x166_6.toInt.toNat)) 167 x166_6.toInt.toNat (w.1 167 x166_6.toInt.toNat)) hI13928  o13930.1 o13930.2.1 o13930.2.2.1 o13930.2.2.2.1 o13930.2.2.2.2.1 o13930.2.2.2.2.2.1 o13930.2.2.2.2.2.2.1 o13930.2.2.2.2.2.2.2.1 o13930.2.2.2.2.2.2.2.2.1 o13930.2.2.2.2.2.2.2.2.2 (by have := bd_127_4 hI; have := ti_add2 (Eq.refl x166_6.toInt) (by decide : ((1 : Int32)).toInt = 1) (by omega) (by omega); omega) (fun w9 hI9 hF9 => hE w9 hI9 ((FR.I (FR.I (FR.refl _ w) (k := 190) (j := x166_6.toInt.toNat) (v := (w.1 167 x166_6.toInt.toNat)) rfl) (k := 167) (j := x166_6.toInt.toNat) (v := (w.1 167 x166_6.toInt.toNat)) rfl).tr hF9 rfl) ) (fun r w9 hI9 hF9 q0 => q0.elim)
      · have o13931 : 0 ≤ x166_6.toInt ∧ x166_6.toInt < 20 := by have := bd_127_4 hI; omega
        refine ⟨o13931, ?_⟩
        refine ⟨fun h13932 => ?_, fun h13932 => ?_⟩
        · have o13933 : 0 ≤ x166_6.toInt ∧ x166_6.toInt < 20 := by have := bd_127_4 hI; omega
          refine ⟨o13933, ?_⟩
          have o13934 : 0 ≤ x166_6.toInt ∧ x166_6.toInt < 20 := by have := bd_127_4 hI; omega
          refine ⟨o13934, ?_⟩
          have o13936 : 0 ≤ (w.1 167 x166_6.toInt.toNat).toInt ∧ (w.1 167 x166_6.toInt.toNat).toInt ≤ 9 := by have := bd_167 hI x166_6.toInt.toNat; omega
          have hI13935 : BND (sI w 190 x166_6.toInt.toNat (w.1 167 x166_6.toInt.toNat)) := wbd_190 hI x166_6.toInt.toNat o13936.1 o13936.2
          have o13938 : 0 ≤ (w.1 167 x166_6.toInt.toNat).toInt ∧ (w.1 167 x166_6.toInt.toNat).toInt ≤ 9 := by have := bd_167 hI x166_6.toInt.toNat; omega
          have hI13937 : BND (sI (sI w 190 x166_6.toInt.toNat (w.1 167 x166_6.toInt.toNat)) 167 x166_6.toInt.toNat (w.1 167 x166_6.toInt.toNat)) := wbd_167 hI13935 x166_6.toInt.toNat o13938.1 o13938.2
          have o13939 : (0 ≤ x166_1.toInt) ∧ (x166_1.toInt ≤ 19) ∧ (0 ≤ x166_2.toInt) ∧ (x166_2.toInt ≤ 19) ∧ (1 ≤ x166_3.toInt) ∧ (x166_3.toInt ≤ 100) ∧ (0 ≤ x166_4.toInt) ∧ (x166_4.toInt ≤ 15) ∧ (0 ≤ (x166_6 + (1 : Int32)).toInt) ∧ ((x166_6 + (1 : Int32)).toInt ≤ 20) := by have := bd_127_4 hI; have := ti_add2 (Eq.refl x166_6.toInt) (by decide : ((1 : Int32)).toInt = 1) (by omega) (by omega); exact ⟨by omega, by omega, by omega, by omega, by omega, by omega, by omega, by omega, by omega, by omega⟩
          exact ih _ (sI (sI w 190 x166_6.toInt.toNat (w.1 167 x166_6.toInt.toNat)) 167 x166_6.toInt.toNat (w.1 167 x166_6.toInt.toNat)) hI13937  o13939.1 o13939.2.1 o13939.2.2.1 o13939.2.2.2.1 o13939.2.2.2.2.1 o13939.2.2.2.2.2.1 o13939.2.2.2.2.2.2.1 o13939.2.2.2.2.2.2.2.1 o13939.2.2.2.2.2.2.2.2.1 o13939.2.2.2.2.2.2.2.2.2 (by have := bd_127_4 hI; have := ti_add2 (Eq.refl x166_6.toInt) (by decide : ((1 : Int32)).toInt = 1) (by omega) (by omega); omega) (fun w9 hI9 hF9 => hE w9 hI9 ((FR.I (FR.I (FR.refl _ w) (k := 190) (j := x166_6.toInt.toNat) (v := (w.1 167 x166_6.toInt.toNat)) rfl) (k := 167) (j := x166_6.toInt.toNat) (v := (w.1 167 x166_6.toInt.toNat)) rfl).tr hF9 rfl) ) (fun r w9 hI9 hF9 q0 => q0.elim)
        · have o13940 : 0 ≤ x166_6.toInt ∧ x166_6.toInt < 20 := by have := bd_127_4 hI; omega
          refine ⟨o13940, ?_⟩
          have o13941 : 0 ≤ x166_6.toInt ∧ x166_6.toInt < 20 := by have := bd_127_4 hI; omega
          refine ⟨o13941, ?_⟩
          have o13943 : 0 ≤ (w.1 167 x166_6.toInt.toNat).toInt ∧ (w.1 167 x166_6.toInt.toNat).toInt ≤ 9 := by have := bd_167 hI x166_6.toInt.toNat; omega
          have hI13942 : BND (sI w 190 x166_6.toInt.toNat (w.1 167 x166_6.toInt.toNat)) := wbd_190 hI x166_6.toInt.toNat o13943.1 o13943.2
          have o13945 : 0 ≤ (w.1 192 x166_6.toInt.toNat).toInt ∧ (w.1 192 x166_6.toInt.toNat).toInt ≤ 9 := by have := bd_192 hI x166_6.toInt.toNat; have := (by decide : (((-1) : Int32)).toInt = (-1)); omega
          have hI13944 : BND (sI (sI w 190 x166_6.toInt.toNat (w.1 167 x166_6.toInt.toNat)) 167 x166_6.toInt.toNat (w.1 192 x166_6.toInt.toNat)) := wbd_167 hI13942 x166_6.toInt.toNat o13945.1 o13945.2
          have o13946 : (0 ≤ x166_1.toInt) ∧ (x166_1.toInt ≤ 19) ∧ (0 ≤ x166_2.toInt) ∧ (x166_2.toInt ≤ 19) ∧ (1 ≤ x166_3.toInt) ∧ (x166_3.toInt ≤ 100) ∧ (0 ≤ x166_4.toInt) ∧ (x166_4.toInt ≤ 15) ∧ (0 ≤ (x166_6 + (1 : Int32)).toInt) ∧ ((x166_6 + (1 : Int32)).toInt ≤ 20) := by have := bd_127_4 hI; have := ti_add2 (Eq.refl x166_6.toInt) (by decide : ((1 : Int32)).toInt = 1) (by omega) (by omega); exact ⟨by omega, by omega, by omega, by omega, by omega, by omega, by omega, by omega, by omega, by omega⟩
          exact ih _ (sI (sI w 190 x166_6.toInt.toNat (w.1 167 x166_6.toInt.toNat)) 167 x166_6.toInt.toNat (w.1 192 x166_6.toInt.toNat)) hI13944  o13946.1 o13946.2.1 o13946.2.2.1 o13946.2.2.2.1 o13946.2.2.2.2.1 o13946.2.2.2.2.2.1 o13946.2.2.2.2.2.2.1 o13946.2.2.2.2.2.2.2.1 o13946.2.2.2.2.2.2.2.2.1 o13946.2.2.2.2.2.2.2.2.2 (by have := bd_127_4 hI; have := ti_add2 (Eq.refl x166_6.toInt) (by decide : ((1 : Int32)).toInt = 1) (by omega) (by omega); omega) (fun w9 hI9 hF9 => hE w9 hI9 ((FR.I (FR.I (FR.refl _ w) (k := 190) (j := x166_6.toInt.toNat) (v := (w.1 167 x166_6.toInt.toNat)) rfl) (k := 167) (j := x166_6.toInt.toNat) (v := (w.1 192 x166_6.toInt.toNat)) rfl).tr hF9 rfl) ) (fun r w9 hI9 hF9 q0 => q0.elim)
set_option maxRecDepth 20000 in
set_option maxHeartbeats 2000000 in
theorem hq_Mo_open_340 {E : MW → Prop} {Q : Int32 → MW → Prop} (n : Nat) : ∀ (x340_6 : Int32) (w : MW), BND w → HW w → 0 ≤ x340_6.toInt → x340_6.toInt ≤ 24 → (w.1 127 26).toInt ≤ 23 → CEa x340_6 w → BW w → (24 - x340_6.toInt).toNat < n → (∀ (w' : MW), BND w' → FR l_Mo_open_340 w w' → HW w' → CEb w' → BW w' → E w') → (∀ (r : Int32) (w' : MW), BND w' → FR l_Mo_open_340 w w' → HW w' → False → Q r w') → q_Mo_open_340 E Q n x340_6 w := by
  induction n with
  | zero => intros; omega
  | succ n ih =>
    intro x w hI hH x0 x1 hy hC hB hm hE hQ
    rw [q_Mo_open_340.eq_2]
    have b26 := bd_127_26 hI
    have b39 := bd_127_39 hI
    refine ⟨fun c => hE w hI (FR.refl _ w) hH (fun i i0 i1 => hC i i0 (by omega)) hB, fun c => ?_⟩
    have e1 := ti_mul2 (by decide : ((24 : Int32)).toInt = 24) (Eq.refl (w.1 127 26).toInt) (by omega) (by omega)
    have e2 := ti_add2 e1 (Eq.refl x.toInt) (by omega) (by omega)
    have e3 := ti_add2 (Eq.refl x.toInt) (by decide : ((1 : Int32)).toInt = 1) (by omega) (by omega)
    have b := bd_191 hI x.toInt.toNat
    have hF1 : FR l_Mo_open_340 w (sI w 186 ((((24 : Int32) * (w.1 127 26)) + x).toInt.toNat) (w.1 191 x.toInt.toNat)) := FR.I (FR.refl _ w) rfl
    refine ⟨⟨x0, by omega⟩, ⟨by omega, by omega⟩, ih _ _ (wbd_186 hI _ b.1 b.2) (hw_186 hH (by omega)) (by omega) (by omega) hy ?_ (bw_186 hB (by omega)) (by omega) (fun w' hI' hF' hH' hC' hB' => hE w' hI' (hF1.tr hF' rfl) hH' hC' hB') (fun _ _ _ _ _ f => f.elim)⟩
    intro i i0 i1
    have a1 : (sI w 186 ((((24 : Int32) * (w.1 127 26)) + x).toInt.toNat) (w.1 191 x.toInt.toNat)).1 127 26 = w.1 127 26 := rfl
    have a2 : ∀ j, (sI w 186 ((((24 : Int32) * (w.1 127 26)) + x).toInt.toNat) (w.1 191 x.toInt.toNat)).1 191 j = w.1 191 j := fun _ => rfl
    rw [a1, a2]
    by_cases ci : i.toInt = x.toInt
    · have q : i = x := Int32.toInt_inj.mp ci
      subst q
      rw [← e2, sI_same]
    · rw [sI_ne _ _ _ _ _ (by omega)]
      exact hC i i0 (by omega)
set_option maxRecDepth 20000 in
set_option maxHeartbeats 2000000 in
theorem hq_Mo_open_380 {E : MW → Prop} {Q : Int32 → MW → Prop} (n : Nat) : ∀ (x380_6 : Int32) (w : MW), BND w → HW w → 0 ≤ x380_6.toInt → x380_6.toInt ≤ 20 → (w.1 127 26).toInt ≤ 23 → CHa x380_6 w → (20 - x380_6.toInt).toNat < n → (∀ (w' : MW), BND w' → FR l_Mo_open_380 w w' → HW w' → CHb w' → E w') → (∀ (r : Int32) (w' : MW), BND w' → FR l_Mo_open_380 w w' → HW w' → False → Q r w') → q_Mo_open_380 E Q n x380_6 w := by
  induction n with
  | zero => intros; omega
  | succ n ih =>
    intro x w hI hH x0 x1 hy hC hm hE hQ
    rw [q_Mo_open_380.eq_2]
    have b26 := bd_127_26 hI
    refine ⟨fun c => hE w hI (FR.refl _ w) hH (fun i i0 i1 => hC i i0 (by omega)), fun c => ?_⟩
    have e1 := ti_mul2 (by decide : ((20 : Int32)).toInt = 20) (Eq.refl (w.1 127 26).toInt) (by omega) (by omega)
    have e2 := ti_add2 e1 (Eq.refl x.toInt) (by omega) (by omega)
    have e3 := ti_add2 (Eq.refl x.toInt) (by decide : ((1 : Int32)).toInt = 1) (by omega) (by omega)
    have b := bd_192 hI x.toInt.toNat
    have step : ∀ v : Int32, -1 ≤ v.toInt → v.toInt ≤ 9 → (v.toInt = -1 ∨ v = w.1 192 x.toInt.toNat) → q_Mo_open_380 E Q n (x + (1 : Int32)) (sI w 187 ((((20 : Int32) * (w.1 127 26)) + x).toInt.toNat) v) := by
      intro v v0 v1 hv
      have hF1 : FR l_Mo_open_380 w (sI w 187 ((((20 : Int32) * (w.1 127 26)) + x).toInt.toNat) v) := FR.I (FR.refl _ w) rfl
      refine ih _ _ (wbd_187 hI _ v0 v1) (hw_187 hH (by omega)) (by omega) (by omega) hy ?_ (by omega) (fun w' hI' hF' hH' hC' => hE w' hI' (hF1.tr hF' rfl) hH' hC') (fun _ _ _ _ _ f => f.elim)
      intro i i0 i1
      have a1 : (sI w 187 ((((20 : Int32) * (w.1 127 26)) + x).toInt.toNat) v).1 127 26 = w.1 127 26 := rfl
      have a2 : ∀ j, (sI w 187 ((((20 : Int32) * (w.1 127 26)) + x).toInt.toNat) v).1 192 j = w.1 192 j := fun _ => rfl
      rw [a1, a2]
      by_cases ci : i.toInt = x.toInt
      · have q : i = x := Int32.toInt_inj.mp ci
        subst q
        rw [← e2, sI_same]
        exact hv
      · rw [sI_ne _ _ _ _ _ (by omega)]
        exact hC i i0 (by omega)
    have hx : 0 ≤ (((20 : Int32) * (w.1 127 26)) + x).toInt ∧ (((20 : Int32) * (w.1 127 26)) + x).toInt < 480 := by omega
    exact ⟨fun c1 => ⟨hx, step (-1) (by decide) (by decide) (Or.inl i_m1)⟩, fun c1 => ⟨⟨x0, by omega⟩, hx, step _ b.1 b.2 (Or.inr rfl)⟩⟩
set_option maxRecDepth 20000 in
set_option maxHeartbeats 2000000 in
theorem hq_Mo_open_251 {E : MW → Prop} {Q : Int32 → MW → Prop} (n : Nat) : ∀ (x251_6 : Int32) (w : MW), BND w → 0 ≤ x251_6.toInt → x251_6.toInt ≤ 20 → (20 - x251_6.toInt).toNat < n → (∀ (w' : MW), BND w' → FR l_Mo_open_251 w w' → E w') → (∀ (r : Int32) (w' : MW), BND w' → FR l_Mo_open_251 w w' → False → Q r w') → q_Mo_open_251 E Q n x251_6 w := by
  induction n with
  | zero => intros; omega
  | succ n ih =>
    intro x251_6 w hI  hp0 hp1 hm hE hQ
    rw [q_Mo_open_251.eq_2]
    refine ⟨fun h13947 => ?_, fun h13947 => ?_⟩
    · exact hE _ hI (FR.refl _ w)
    · have o13948 : 0 ≤ x251_6.toInt ∧ x251_6.toInt < 20 := by have := bd_127_4 hI; omega
      refine ⟨o13948, ?_⟩
      have o13949 : 0 ≤ x251_6.toInt ∧ x251_6.toInt < 20 := by have := bd_127_4 hI; omega
      refine ⟨o13949, ?_⟩
      have o13951 : 0 ≤ (w.1 190 x251_6.toInt.toNat).toInt ∧ (w.1 190 x251_6.toInt.toNat).toInt ≤ 9 := by have := bd_190 hI x251_6.toInt.toNat; omega
      have hI13950 : BND (sI w 167 x251_6.toInt.toNat (w.1 190 x251_6.toInt.toNat)) := wbd_167 hI x251_6.toInt.toNat o13951.1 o13951.2
      have o13952 : (0 ≤ (x251_6 + (1 : Int32)).toInt) ∧ ((x251_6 + (1 : Int32)).toInt ≤ 20) := by have := bd_127_4 hI; have := ti_add2 (Eq.refl x251_6.toInt) (by decide : ((1 : Int32)).toInt = 1) (by omega) (by omega); exact ⟨by omega, by omega⟩
      exact ih _ (sI w 167 x251_6.toInt.toNat (w.1 190 x251_6.toInt.toNat)) hI13950  o13952.1 o13952.2 (by have := bd_127_4 hI; have := ti_add2 (Eq.refl x251_6.toInt) (by decide : ((1 : Int32)).toInt = 1) (by omega) (by omega); omega) (fun w9 hI9 hF9 => hE w9 hI9 ((FR.I (FR.refl _ w) (k := 167) (j := x251_6.toInt.toNat) (v := (w.1 190 x251_6.toInt.toNat)) rfl).tr hF9 rfl) ) (fun r w9 hI9 hF9 q0 => q0.elim)
set_option maxRecDepth 20000 in
set_option maxHeartbeats 2000000 in
theorem h_Mo_open {w : MW} {a0 : Int32} {b0 : Int32} {c0 : Int32} {Q : Int32 → MW → Prop} (hI : BND w) (hf_FT : FT w) (hf_HW : HW w) (hf_RP : RP w) (hf_SZ : SZ w) (hp0 : 0 ≤ a0.toInt) (hp1 : a0.toInt ≤ 19) (hp2 : 0 ≤ b0.toInt) (hp3 : b0.toInt ≤ 19) (hp4 : 1 ≤ c0.toInt) (hp5 : c0.toInt ≤ 100) (hp6 : a0.toInt < (w.1 127 4).toInt) (hp7 : b0.toInt < (w.1 127 4).toInt) (hp8 : ¬ a0.toInt = b0.toInt) (hp9 : (w.1 163 a0.toInt.toNat).toInt = 0) (hp10 : (w.1 163 b0.toInt.toNat).toInt = 0) (hQ : ∀ (r : Int32) (w' : MW), BND w' → FR l_Mo_open w w' → FT w' → HW w' → 0 ≤ r.toInt → r.toInt ≤ 7 → Q r w') : p_Mo_open w a0 b0 c0 Q := by
  refine Eq.mpr (p_Mo_open.eq_1 _ _ _ _ _) ?_
  refine h_Mo_openWay hI hf_FT  (fun r13956 w13953 hI13954 hL13955 p13957 p13958 p13959 => ?_)
  have hF13960 : FR l_Mo_open w w13953 := (FR.refl _ w).tr hL13955 rfl
  refine ⟨fun h13961 => ?_, fun h13961 => ?_⟩
  · have o13962 : 0 ≤ a0.toInt ∧ a0.toInt < 20 := by have := bd_127_4 hI; have := bd_163 hI a0.toInt.toNat; have := bd_163 hI b0.toInt.toNat; omega
    refine ⟨o13962, ?_⟩
    refine ⟨fun h13963 => ?_, fun h13963 => ?_⟩
    · have o13964 : (0 ≤ a0.toInt) ∧ (a0.toInt ≤ 19) ∧ (0 ≤ b0.toInt) ∧ (b0.toInt ≤ 19) ∧ (¬ a0.toInt = b0.toInt) ∧ ((w13953.1 163 a0.toInt.toNat).toInt = 0) ∧ ((w13953.1 163 b0.toInt.toNat).toInt = 0) := by have := bd_163 hI13954 a0.toInt.toNat; have := bd_163 hI a0.toInt.toNat; have := (congrArg Int32.toInt (hL13955 163 a0.toInt.toNat rfl).1); have := bd_163 hI13954 b0.toInt.toNat; have := bd_163 hI b0.toInt.toNat; have := (congrArg Int32.toInt (hL13955 163 b0.toInt.toNat rfl).1); have := bd_127_4 hI; exact ⟨by omega, by omega, by omega, by omega, by omega, by omega, by omega⟩
      refine h_Mo_find hI13954 (HW_fr hL13955 rfl hf_HW) (RP_fr hL13955 rfl hf_RP) (SZ_fr hL13955 rfl hf_SZ) o13964.1 o13964.2.1 o13964.2.2.1 o13964.2.2.2.1 o13964.2.2.2.2.1 o13964.2.2.2.2.2.1 o13964.2.2.2.2.2.2 (fun r13968 w13965 hI13966 hL13967 p13969 p13970 p13971 p13972 p13973 => ?_)
      have hF13974 : FR l_Mo_open w w13965 := hF13960.tr hL13967 rfl
      refine ⟨fun h13975 => ?_, fun h13975 => ?_⟩
      · have o13976 : 0 ≤ a0.toInt ∧ a0.toInt < 20 := by have := bd_127_4 hI; have := bd_163 hI a0.toInt.toNat; have := bd_163 hI b0.toInt.toNat; omega
        refine ⟨o13976, ?_⟩
        have o13977 : (0 ≤ (w13965.1 166 a0.toInt.toNat).toInt) ∧ ((w13965.1 166 a0.toInt.toNat).toInt ≤ 15) ∧ (0 ≤ b0.toInt) ∧ (b0.toInt ≤ 43) ∧ (b0.toInt < (w13965.1 127 4).toInt + (w13965.1 127 11).toInt) := by have := bd_166 hI13966 a0.toInt.toNat; have := bd_166 hI13954 a0.toInt.toNat; have := bd_166 hI a0.toInt.toNat; have := (congrArg Int32.toInt (hL13955 166 a0.toInt.toNat rfl).1); have := (congrArg Int32.toInt (hL13967 166 a0.toInt.toNat rfl).1); have := bd_127_4 hI13966; have := bd_127_4 hI13954; have := bd_127_4 hI; have := (congrArg Int32.toInt (hL13955 127 4 rfl).1); have := (congrArg Int32.toInt (hL13967 127 4 rfl).1); have := bd_127_11 hI13966; have := bd_127_11 hI13954; have := bd_127_11 hI; have := (congrArg Int32.toInt (hL13955 127 11 rfl).1); have := (congrArg Int32.toInt (hL13967 127 11 rfl).1); have := bd_163 hI a0.toInt.toNat; have := bd_163 hI b0.toInt.toNat; exact ⟨by omega, by omega, by omega, by omega, by omega⟩
        refine h_Mo_mayCome hI13966  o13977.1 o13977.2.1 o13977.2.2.1 o13977.2.2.2.1 o13977.2.2.2.2 (fun r13981 w13978 hI13979 hL13980 p13982 p13983 => ?_)
        have hF13984 : FR l_Mo_open w w13978 := hF13974.tr hL13980 rfl
        have o13985 : (0 ≤ a0.toInt) ∧ (a0.toInt ≤ 19) ∧ (0 ≤ b0.toInt) ∧ (b0.toInt ≤ 19) ∧ (1 ≤ c0.toInt) ∧ (c0.toInt ≤ 100) ∧ (0 ≤ (w13965.1 166 a0.toInt.toNat).toInt) ∧ ((w13965.1 166 a0.toInt.toNat).toInt ≤ 15) ∧ (0 ≤ r13981.toInt) ∧ (r13981.toInt ≤ 1) ∧ (0 ≤ (0 : Int32).toInt) ∧ ((0 : Int32).toInt ≤ 24) := by have := bd_166 hI13966 a0.toInt.toNat; have := bd_166 hI13954 a0.toInt.toNat; have := bd_166 hI a0.toInt.toNat; have := (congrArg Int32.toInt (hL13955 166 a0.toInt.toNat rfl).1); have := (congrArg Int32.toInt (hL13967 166 a0.toInt.toNat rfl).1); have := (by decide : ((0 : Int32)).toInt = 0); have := bd_127_4 hI; have := bd_163 hI a0.toInt.toNat; have := bd_163 hI b0.toInt.toNat; exact ⟨by omega, by omega, by omega, by omega, by omega, by omega, by omega, by omega, by omega, by omega, by omega, by omega⟩
        refine hq_Mo_open_54 FU _ _ w13978 hI13979  o13985.1 o13985.2.1 o13985.2.2.1 o13985.2.2.2.1 o13985.2.2.2.2.1 o13985.2.2.2.2.2.1 o13985.2.2.2.2.2.2.1 o13985.2.2.2.2.2.2.2.1 o13985.2.2.2.2.2.2.2.2.1 o13985.2.2.2.2.2.2.2.2.2.1 o13985.2.2.2.2.2.2.2.2.2.2.1 o13985.2.2.2.2.2.2.2.2.2.2.2 (BW_fr hL13980 rfl p13973) (fu_lt (by have := bd_166 hI13966 a0.toInt.toNat; have := bd_166 hI13954 a0.toInt.toNat; have := bd_166 hI a0.toInt.toNat; have := (congrArg Int32.toInt (hL13955 166 a0.toInt.toNat rfl).1); have := (congrArg Int32.toInt (hL13967 166 a0.toInt.toNat rfl).1); have := (by decide : ((0 : Int32)).toInt = 0); have := bd_127_4 hI; have := bd_163 hI a0.toInt.toNat; have := bd_163 hI b0.toInt.toNat; omega)) (fun e13989 w13986 hI13987 hL13988 p13990 p13991 => ?_) (fun r w9 hI9 hF9 q0 => q0.elim)
        have hF13992 : FR l_Mo_open w w13986 := hF13984.tr hL13988 rfl
        refine ⟨fun h13993 => ?_, fun h13993 => ?_⟩
        · have hW13994 : FT w13965 := (FT_fr hL13967 rfl (FT_fr hL13955 rfl hf_FT))
          have hW13995 : FT w13986 := (FT_fr hL13988 rfl (FT_fr hL13980 rfl hW13994))
          refine h_Mo_look hI13987 hW13995  (fun w13996 hI13997 hL13998  => ?_)
          have hF14000 : FR l_Mo_open w w13996 := hF13992.tr hL13998 rfl
          have o14001 : 0 ≤ b0.toInt ∧ b0.toInt < 44 := by have := bd_127_4 hI; have := bd_163 hI a0.toInt.toNat; have := bd_163 hI b0.toInt.toNat; omega
          refine ⟨o14001, ?_⟩
          have o14003 : 0 ≤ (w13965.1 166 a0.toInt.toNat).toInt ∧ (w13965.1 166 a0.toInt.toNat).toInt ≤ 15 := by have := bd_166 hI13966 a0.toInt.toNat; have := bd_166 hI13954 a0.toInt.toNat; have := bd_166 hI a0.toInt.toNat; have := (congrArg Int32.toInt (hL13955 166 a0.toInt.toNat rfl).1); have := (congrArg Int32.toInt (hL13967 166 a0.toInt.toNat rfl).1); omega
          have hI14002 : BND (sI w13996 194 b0.toInt.toNat (w13965.1 166 a0.toInt.toNat)) := wbd_194 hI13997 b0.toInt.toNat o14003.1 o14003.2
          have o14004 : (0 ≤ a0.toInt) ∧ (a0.toInt ≤ 19) ∧ (0 ≤ b0.toInt) ∧ (b0.toInt ≤ 19) ∧ (1 ≤ c0.toInt) ∧ (c0.toInt ≤ 100) ∧ (0 ≤ (w13965.1 166 a0.toInt.toNat).toInt) ∧ ((w13965.1 166 a0.toInt.toNat).toInt ≤ 15) ∧ (0 ≤ (0 : Int32).toInt) ∧ ((0 : Int32).toInt ≤ 24) := by have := bd_166 hI13966 a0.toInt.toNat; have := bd_166 hI13954 a0.toInt.toNat; have := bd_166 hI a0.toInt.toNat; have := (congrArg Int32.toInt (hL13955 166 a0.toInt.toNat rfl).1); have := (congrArg Int32.toInt (hL13967 166 a0.toInt.toNat rfl).1); have := (by decide : ((0 : Int32)).toInt = 0); have := bd_127_4 hI; have := bd_163 hI a0.toInt.toNat; have := bd_163 hI b0.toInt.toNat; exact ⟨by omega, by omega, by omega, by omega, by omega, by omega, by omega, by omega, by omega, by omega⟩
          have hW14005 : BW w13986 := (BW_fr hL13988 rfl (BW_fr hL13980 rfl p13973))
          have hW14006 : BW (sI w13996 194 b0.toInt.toNat (w13965.1 166 a0.toInt.toNat)) := (BW_fr (l := [(194, none)]) (FR.I (FR.refl _ w13996) (k := 194) (j := b0.toInt.toNat) (v := (w13965.1 166 a0.toInt.toNat)) rfl) rfl (BW_fr hL13998 rfl hW14005))
          refine hq_Mo_open_127 FU _ (sI w13996 194 b0.toInt.toNat (w13965.1 166 a0.toInt.toNat)) hI14002  o14004.1 o14004.2.1 o14004.2.2.1 o14004.2.2.2.1 o14004.2.2.2.2.1 o14004.2.2.2.2.2.1 o14004.2.2.2.2.2.2.1 o14004.2.2.2.2.2.2.2.1 o14004.2.2.2.2.2.2.2.2.1 o14004.2.2.2.2.2.2.2.2.2 hW14006 (fu_lt (by have := bd_166 hI13966 a0.toInt.toNat; have := bd_166 hI13954 a0.toInt.toNat; have := bd_166 hI a0.toInt.toNat; have := (congrArg Int32.toInt (hL13955 166 a0.toInt.toNat rfl).1); have := (congrArg Int32.toInt (hL13967 166 a0.toInt.toNat rfl).1); have := (by decide : ((0 : Int32)).toInt = 0); have := bd_127_4 hI; have := bd_163 hI a0.toInt.toNat; have := bd_163 hI b0.toInt.toNat; omega)) (fun w14007 hI14008 hL14009  => ?_) (fun r w9 hI9 hF9 q0 => q0.elim)
          have hF14010 : FR l_Mo_open w w14007 := (FR.I hF14000 (k := 194) (j := b0.toInt.toNat) (v := (w13965.1 166 a0.toInt.toNat)) rfl).tr hL14009 rfl
          have o14011 : (0 ≤ a0.toInt) ∧ (a0.toInt ≤ 19) ∧ (0 ≤ b0.toInt) ∧ (b0.toInt ≤ 19) ∧ (1 ≤ c0.toInt) ∧ (c0.toInt ≤ 100) ∧ (0 ≤ (w13965.1 166 a0.toInt.toNat).toInt) ∧ ((w13965.1 166 a0.toInt.toNat).toInt ≤ 15) ∧ (0 ≤ (0 : Int32).toInt) ∧ ((0 : Int32).toInt ≤ 20) := by have := bd_166 hI13966 a0.toInt.toNat; have := bd_166 hI13954 a0.toInt.toNat; have := bd_166 hI a0.toInt.toNat; have := (congrArg Int32.toInt (hL13955 166 a0.toInt.toNat rfl).1); have := (congrArg Int32.toInt (hL13967 166 a0.toInt.toNat rfl).1); have := (by decide : ((0 : Int32)).toInt = 0); have := bd_127_4 hI; have := bd_163 hI a0.toInt.toNat; have := bd_163 hI b0.toInt.toNat; exact ⟨by omega, by omega, by omega, by omega, by omega, by omega, by omega, by omega, by omega, by omega⟩
          refine hq_Mo_open_166 FU _ w14007 hI14008  o14011.1 o14011.2.1 o14011.2.2.1 o14011.2.2.2.1 o14011.2.2.2.2.1 o14011.2.2.2.2.2.1 o14011.2.2.2.2.2.2.1 o14011.2.2.2.2.2.2.2.1 o14011.2.2.2.2.2.2.2.2.1 o14011.2.2.2.2.2.2.2.2.2 (fu_lt (by have := bd_166 hI13966 a0.toInt.toNat; have := bd_166 hI13954 a0.toInt.toNat; have := bd_166 hI a0.toInt.toNat; have := (congrArg Int32.toInt (hL13955 166 a0.toInt.toNat rfl).1); have := (congrArg Int32.toInt (hL13967 166 a0.toInt.toNat rfl).1); have := (by decide : ((0 : Int32)).toInt = 0); have := bd_127_4 hI; have := bd_163 hI a0.toInt.toNat; have := bd_163 hI b0.toInt.toNat; omega)) (fun w14012 hI14013 hL14014  => ?_) (fun r w9 hI9 hF9 q0 => q0.elim)
          have hF14015 : FR l_Mo_open w w14012 := hF14010.tr hL14014 rfl
          refine h_Mo_isSafe hI14013   (fun r14019 w14016 hI14017 hL14018 p14020 p14021 => ?_)
          have hF14022 : FR l_Mo_open w w14016 := hF14015.tr hL14018 rfl
          refine ⟨fun h14023 => ?_, fun h14023 => ?_⟩
          · have o14024 : 0 ≤ (w14016.1 127 26).toInt ∧ (w14016.1 127 26).toInt < 24 := by have := bd_127_26 hI14017; have := bd_127_26 hI14013; have := bd_127_26 hI14008; have := bd_127_26 hI13997; have := bd_127_26 hI13987; have := bd_127_26 hI13979; have := bd_127_26 hI13966; have := bd_127_26 hI13954; have := bd_127_26 hI; have := (congrArg Int32.toInt (hL13955 127 26 rfl).1); have := (congrArg Int32.toInt (hL13967 127 26 rfl).1); have := (congrArg Int32.toInt (hL13980 127 26 rfl).1); have := (congrArg Int32.toInt (hL13988 127 26 rfl).1); have := (congrArg Int32.toInt (hL13998 127 26 rfl).1); have : ((sI w13996 194 b0.toInt.toNat (w13965.1 166 a0.toInt.toNat)).1 127 26).toInt = (w13996.1 127 26).toInt := rfl; have := (congrArg Int32.toInt (hL14009 127 26 rfl).1); have := (congrArg Int32.toInt (hL14014 127 26 rfl).1); have := (congrArg Int32.toInt (hL14018 127 26 rfl).1); have := (by decide : (((-1) : Int32)).toInt = (-1)); have := (by decide : ((0 : Int32)).toInt = 0); have := bd_127_39 hI13966; omega
            refine ⟨o14024, ?_⟩
            have o14025 : 0 ≤ (w14016.1 127 26).toInt ∧ (w14016.1 127 26).toInt < 24 := by have := bd_127_26 hI14017; have := bd_127_26 hI14013; have := bd_127_26 hI14008; have := bd_127_26 hI13997; have := bd_127_26 hI13987; have := bd_127_26 hI13979; have := bd_127_26 hI13966; have := bd_127_26 hI13954; have := bd_127_26 hI; have := (congrArg Int32.toInt (hL13955 127 26 rfl).1); have := (congrArg Int32.toInt (hL13967 127 26 rfl).1); have := (congrArg Int32.toInt (hL13980 127 26 rfl).1); have := (congrArg Int32.toInt (hL13988 127 26 rfl).1); have := (congrArg Int32.toInt (hL13998 127 26 rfl).1); have : ((sI w13996 194 b0.toInt.toNat (w13965.1 166 a0.toInt.toNat)).1 127 26).toInt = (w13996.1 127 26).toInt := rfl; have := (congrArg Int32.toInt (hL14009 127 26 rfl).1); have := (congrArg Int32.toInt (hL14014 127 26 rfl).1); have := (congrArg Int32.toInt (hL14018 127 26 rfl).1); have := (by decide : (((-1) : Int32)).toInt = (-1)); have := (by decide : ((0 : Int32)).toInt = 0); have := bd_127_39 hI13966; omega
            refine ⟨o14025, ?_⟩
            have o14026 : 0 ≤ (w14016.1 127 26).toInt ∧ (w14016.1 127 26).toInt < 24 := by have := bd_127_26 hI14017; have := bd_127_26 hI14013; have := bd_127_26 hI14008; have := bd_127_26 hI13997; have := bd_127_26 hI13987; have := bd_127_26 hI13979; have := bd_127_26 hI13966; have := bd_127_26 hI13954; have := bd_127_26 hI; have := (congrArg Int32.toInt (hL13955 127 26 rfl).1); have := (congrArg Int32.toInt (hL13967 127 26 rfl).1); have := (congrArg Int32.toInt (hL13980 127 26 rfl).1); have := (congrArg Int32.toInt (hL13988 127 26 rfl).1); have := (congrArg Int32.toInt (hL13998 127 26 rfl).1); have : ((sI w13996 194 b0.toInt.toNat (w13965.1 166 a0.toInt.toNat)).1 127 26).toInt = (w13996.1 127 26).toInt := rfl; have := (congrArg Int32.toInt (hL14009 127 26 rfl).1); have := (congrArg Int32.toInt (hL14014 127 26 rfl).1); have := (congrArg Int32.toInt (hL14018 127 26 rfl).1); have := (by decide : (((-1) : Int32)).toInt = (-1)); have := (by decide : ((0 : Int32)).toInt = 0); have := bd_127_39 hI13966; omega
            refine ⟨o14026, ?_⟩
            have o14027 : 0 ≤ (w14016.1 127 26).toInt ∧ (w14016.1 127 26).toInt < 24 := by have := bd_127_26 hI14017; have := bd_127_26 hI14013; have := bd_127_26 hI14008; have := bd_127_26 hI13997; have := bd_127_26 hI13987; have := bd_127_26 hI13979; have := bd_127_26 hI13966; have := bd_127_26 hI13954; have := bd_127_26 hI; have := (congrArg Int32.toInt (hL13955 127 26 rfl).1); have := (congrArg Int32.toInt (hL13967 127 26 rfl).1); have := (congrArg Int32.toInt (hL13980 127 26 rfl).1); have := (congrArg Int32.toInt (hL13988 127 26 rfl).1); have := (congrArg Int32.toInt (hL13998 127 26 rfl).1); have : ((sI w13996 194 b0.toInt.toNat (w13965.1 166 a0.toInt.toNat)).1 127 26).toInt = (w13996.1 127 26).toInt := rfl; have := (congrArg Int32.toInt (hL14009 127 26 rfl).1); have := (congrArg Int32.toInt (hL14014 127 26 rfl).1); have := (congrArg Int32.toInt (hL14018 127 26 rfl).1); have := (by decide : (((-1) : Int32)).toInt = (-1)); have := (by decide : ((0 : Int32)).toInt = 0); have := bd_127_39 hI13966; omega
            refine ⟨o14027, ?_⟩
            have o14028 : 0 ≤ (w14016.1 127 26).toInt ∧ (w14016.1 127 26).toInt < 24 := by have := bd_127_26 hI14017; have := bd_127_26 hI14013; have := bd_127_26 hI14008; have := bd_127_26 hI13997; have := bd_127_26 hI13987; have := bd_127_26 hI13979; have := bd_127_26 hI13966; have := bd_127_26 hI13954; have := bd_127_26 hI; have := (congrArg Int32.toInt (hL13955 127 26 rfl).1); have := (congrArg Int32.toInt (hL13967 127 26 rfl).1); have := (congrArg Int32.toInt (hL13980 127 26 rfl).1); have := (congrArg Int32.toInt (hL13988 127 26 rfl).1); have := (congrArg Int32.toInt (hL13998 127 26 rfl).1); have : ((sI w13996 194 b0.toInt.toNat (w13965.1 166 a0.toInt.toNat)).1 127 26).toInt = (w13996.1 127 26).toInt := rfl; have := (congrArg Int32.toInt (hL14009 127 26 rfl).1); have := (congrArg Int32.toInt (hL14014 127 26 rfl).1); have := (congrArg Int32.toInt (hL14018 127 26 rfl).1); have := (by decide : (((-1) : Int32)).toInt = (-1)); have := (by decide : ((0 : Int32)).toInt = 0); have := bd_127_39 hI13966; omega
            refine ⟨o14028, ?_⟩
            have o14030 : 0 ≤ a0.toInt ∧ a0.toInt ≤ 19 := by have := bd_127_4 hI; have := bd_163 hI a0.toInt.toNat; have := bd_163 hI b0.toInt.toNat; omega
            have hI14029 : BND (sI w14016 181 ((w14016.1 127 26).toInt.toNat) a0) := wbd_181 hI14017 ((w14016.1 127 26).toInt.toNat) o14030.1 o14030.2
            have o14032 : 0 ≤ b0.toInt ∧ b0.toInt ≤ 19 := by have := bd_127_4 hI; have := bd_163 hI a0.toInt.toNat; have := bd_163 hI b0.toInt.toNat; omega
            have hI14031 : BND (sI (sI w14016 181 ((w14016.1 127 26).toInt.toNat) a0) 182 ((w14016.1 127 26).toInt.toNat) b0) := wbd_182 hI14029 ((w14016.1 127 26).toInt.toNat) o14032.1 o14032.2
            have o14034 : 0 ≤ (w13965.1 166 a0.toInt.toNat).toInt ∧ (w13965.1 166 a0.toInt.toNat).toInt ≤ 15 := by have := bd_166 hI13966 a0.toInt.toNat; have := bd_166 hI13954 a0.toInt.toNat; have := bd_166 hI a0.toInt.toNat; have := (congrArg Int32.toInt (hL13955 166 a0.toInt.toNat rfl).1); have := (congrArg Int32.toInt (hL13967 166 a0.toInt.toNat rfl).1); omega
            have hI14033 : BND (sI (sI (sI w14016 181 ((w14016.1 127 26).toInt.toNat) a0) 182 ((w14016.1 127 26).toInt.toNat) b0) 183 ((w14016.1 127 26).toInt.toNat) (w13965.1 166 a0.toInt.toNat)) := wbd_183 hI14031 ((w14016.1 127 26).toInt.toNat) o14034.1 o14034.2
            have o14036 : 0 ≤ c0.toInt ∧ c0.toInt ≤ 100 := by omega
            have hI14035 : BND (sI (sI (sI (sI w14016 181 ((w14016.1 127 26).toInt.toNat) a0) 182 ((w14016.1 127 26).toInt.toNat) b0) 183 ((w14016.1 127 26).toInt.toNat) (w13965.1 166 a0.toInt.toNat)) 184 ((w14016.1 127 26).toInt.toNat) c0) := wbd_184 hI14033 ((w14016.1 127 26).toInt.toNat) o14036.1 o14036.2
            have o14038 : 0 ≤ (w14016.1 127 39).toInt ∧ (w14016.1 127 39).toInt ≤ 24 := by have := bd_127_39 hI14017; have := bd_127_39 hI14013; have := bd_127_39 hI14008; have := bd_127_39 hI13997; have := bd_127_39 hI13987; have := bd_127_39 hI13979; have := bd_127_39 hI13966; have := (congrArg Int32.toInt (hL13980 127 39 rfl).1); have := (congrArg Int32.toInt (hL13988 127 39 rfl).1); have := (congrArg Int32.toInt (hL13998 127 39 rfl).1); have : ((sI w13996 194 b0.toInt.toNat (w13965.1 166 a0.toInt.toNat)).1 127 39).toInt = (w13996.1 127 39).toInt := rfl; have := (congrArg Int32.toInt (hL14009 127 39 rfl).1); have := (congrArg Int32.toInt (hL14014 127 39 rfl).1); have := (congrArg Int32.toInt (hL14018 127 39 rfl).1); have := bd_127_26 hI13966; have := bd_127_26 hI13954; have := bd_127_26 hI; have := (congrArg Int32.toInt (hL13955 127 26 rfl).1); have := (congrArg Int32.toInt (hL13967 127 26 rfl).1); have := (by decide : ((0 : Int32)).toInt = 0); have := (by decide : (((-1) : Int32)).toInt = (-1)); omega
            have hI14037 : BND (sI (sI (sI (sI (sI w14016 181 ((w14016.1 127 26).toInt.toNat) a0) 182 ((w14016.1 127 26).toInt.toNat) b0) 183 ((w14016.1 127 26).toInt.toNat) (w13965.1 166 a0.toInt.toNat)) 184 ((w14016.1 127 26).toInt.toNat) c0) 185 ((w14016.1 127 26).toInt.toNat) (w14016.1 127 39)) := wbd_185 hI14035 ((w14016.1 127 26).toInt.toNat) o14038.1 o14038.2
            have hW14039 : HW w13965 := (HW_fr hL13967 rfl (HW_fr hL13955 rfl hf_HW))
            have hW14040 : HW w13986 := (HW_fr hL13988 rfl (HW_fr hL13980 rfl hW14039))
            have hW14041 : HW (sI w13996 194 b0.toInt.toNat (w13965.1 166 a0.toInt.toNat)) := (HW_fr (l := [(194, none)]) (FR.I (FR.refl _ w13996) (k := 194) (j := b0.toInt.toNat) (v := (w13965.1 166 a0.toInt.toNat)) rfl) rfl (HW_fr hL13998 rfl hW14040))
            have hW14042 : HW w14012 := (HW_fr hL14014 rfl (HW_fr hL14009 rfl hW14041))
            have hW14043 : HW (sI w14016 181 ((w14016.1 127 26).toInt.toNat) a0) := (HW_fr (l := [(181, none)]) (FR.I (FR.refl _ w14016) (k := 181) (j := (w14016.1 127 26).toInt.toNat) (v := a0) rfl) rfl (HW_fr hL14018 rfl hW14042))
            have hW14044 : HW (sI (sI w14016 181 ((w14016.1 127 26).toInt.toNat) a0) 182 ((w14016.1 127 26).toInt.toNat) b0) := (HW_fr (l := [(182, none)]) (FR.I (FR.refl _ (sI w14016 181 ((w14016.1 127 26).toInt.toNat) a0)) (k := 182) (j := (w14016.1 127 26).toInt.toNat) (v := b0) rfl) rfl hW14043)
            have hW14045 : HW (sI (sI (sI w14016 181 ((w14016.1 127 26).toInt.toNat) a0) 182 ((w14016.1 127 26).toInt.toNat) b0) 183 ((w14016.1 127 26).toInt.toNat) (w13965.1 166 a0.toInt.toNat)) := (HW_fr (l := [(183, none)]) (FR.I (FR.refl _ (sI (sI w14016 181 ((w14016.1 127 26).toInt.toNat) a0) 182 ((w14016.1 127 26).toInt.toNat) b0)) (k := 183) (j := (w14016.1 127 26).toInt.toNat) (v := (w13965.1 166 a0.toInt.toNat)) rfl) rfl hW14044)
            have hW14046 : HW (sI (sI (sI (sI w14016 181 ((w14016.1 127 26).toInt.toNat) a0) 182 ((w14016.1 127 26).toInt.toNat) b0) 183 ((w14016.1 127 26).toInt.toNat) (w13965.1 166 a0.toInt.toNat)) 184 ((w14016.1 127 26).toInt.toNat) c0) := (HW_fr (l := [(184, none)]) (FR.I (FR.refl _ (sI (sI (sI w14016 181 ((w14016.1 127 26).toInt.toNat) a0) 182 ((w14016.1 127 26).toInt.toNat) b0) 183 ((w14016.1 127 26).toInt.toNat) (w13965.1 166 a0.toInt.toNat))) (k := 184) (j := (w14016.1 127 26).toInt.toNat) (v := c0) rfl) rfl hW14045)
            have hW14047 : HW (sI (sI (sI (sI (sI w14016 181 ((w14016.1 127 26).toInt.toNat) a0) 182 ((w14016.1 127 26).toInt.toNat) b0) 183 ((w14016.1 127 26).toInt.toNat) (w13965.1 166 a0.toInt.toNat)) 184 ((w14016.1 127 26).toInt.toNat) c0) 185 ((w14016.1 127 26).toInt.toNat) (w14016.1 127 39)) := (hw_185 hW14046 (by have := bd_127_26 hI14017; have := bd_127_26 hI14013; have := bd_127_26 hI14008; have := bd_127_26 hI13997; have := bd_127_26 hI13987; have := bd_127_26 hI13979; have := bd_127_26 hI13966; have := bd_127_26 hI13954; have := bd_127_26 hI; have := (congrArg Int32.toInt (hL13955 127 26 rfl).1); have := (congrArg Int32.toInt (hL13967 127 26 rfl).1); have := (congrArg Int32.toInt (hL13980 127 26 rfl).1); have := (congrArg Int32.toInt (hL13988 127 26 rfl).1); have := (congrArg Int32.toInt (hL13998 127 26 rfl).1); have : ((sI w13996 194 b0.toInt.toNat (w13965.1 166 a0.toInt.toNat)).1 127 26).toInt = (w13996.1 127 26).toInt := rfl; have := (congrArg Int32.toInt (hL14009 127 26 rfl).1); have := (congrArg Int32.toInt (hL14014 127 26 rfl).1); have := (congrArg Int32.toInt (hL14018 127 26 rfl).1); have := bd_127_39 hI14017; have := bd_127_39 hI14013; have := bd_127_39 hI14008; have := bd_127_39 hI13997; have := bd_127_39 hI13987; have := bd_127_39 hI13979; have := bd_127_39 hI13966; have := (congrArg Int32.toInt (hL13980 127 39 rfl).1); have := (congrArg Int32.toInt (hL13988 127 39 rfl).1); have := (congrArg Int32.toInt (hL13998 127 39 rfl).1); have : ((sI w13996 194 b0.toInt.toNat (w13965.1 166 a0.toInt.toNat)).1 127 39).toInt = (w13996.1 127 39).toInt := rfl; have := (congrArg Int32.toInt (hL14009 127 39 rfl).1); have := (congrArg Int32.toInt (hL14014 127 39 rfl).1); have := (congrArg Int32.toInt (hL14018 127 39 rfl).1); have : ((sI (sI (sI (sI w14016 181 ((w14016.1 127 26).toInt.toNat) a0) 182 ((w14016.1 127 26).toInt.toNat) b0) 183 ((w14016.1 127 26).toInt.toNat) (w13965.1 166 a0.toInt.toNat)) 184 ((w14016.1 127 26).toInt.toNat) c0).1 127 26).toInt = (w14016.1 127 26).toInt := rfl; have := (by decide : (((-1) : Int32)).toInt = (-1)); have := (by decide : ((0 : Int32)).toInt = 0); omega))
            have o14048 : (0 ≤ (0 : Int32).toInt) ∧ ((0 : Int32).toInt ≤ 24) ∧ (((sI (sI (sI (sI (sI w14016 181 ((w14016.1 127 26).toInt.toNat) a0) 182 ((w14016.1 127 26).toInt.toNat) b0) 183 ((w14016.1 127 26).toInt.toNat) (w13965.1 166 a0.toInt.toNat)) 184 ((w14016.1 127 26).toInt.toNat) c0) 185 ((w14016.1 127 26).toInt.toNat) (w14016.1 127 39)).1 127 26).toInt ≤ 23) := by have := (by decide : ((0 : Int32)).toInt = 0); have := bd_127_26 hI14017; have := bd_127_26 hI14013; have := bd_127_26 hI14008; have := bd_127_26 hI13997; have := bd_127_26 hI13987; have := bd_127_26 hI13979; have := bd_127_26 hI13966; have := bd_127_26 hI13954; have := bd_127_26 hI; have := (congrArg Int32.toInt (hL13955 127 26 rfl).1); have := (congrArg Int32.toInt (hL13967 127 26 rfl).1); have := (congrArg Int32.toInt (hL13980 127 26 rfl).1); have := (congrArg Int32.toInt (hL13988 127 26 rfl).1); have := (congrArg Int32.toInt (hL13998 127 26 rfl).1); have : ((sI w13996 194 b0.toInt.toNat (w13965.1 166 a0.toInt.toNat)).1 127 26).toInt = (w13996.1 127 26).toInt := rfl; have := (congrArg Int32.toInt (hL14009 127 26 rfl).1); have := (congrArg Int32.toInt (hL14014 127 26 rfl).1); have := (congrArg Int32.toInt (hL14018 127 26 rfl).1); have : ((sI (sI (sI (sI (sI w14016 181 ((w14016.1 127 26).toInt.toNat) a0) 182 ((w14016.1 127 26).toInt.toNat) b0) 183 ((w14016.1 127 26).toInt.toNat) (w13965.1 166 a0.toInt.toNat)) 184 ((w14016.1 127 26).toInt.toNat) c0) 185 ((w14016.1 127 26).toInt.toNat) (w14016.1 127 39)).1 127 26).toInt = (w14016.1 127 26).toInt := rfl; have := (by decide : (((-1) : Int32)).toInt = (-1)); have := bd_127_39 hI13966; exact ⟨by omega, by omega, by omega⟩
            have hW14049 : BW w14012 := (BW_fr hL14014 rfl (BW_fr hL14009 rfl hW14006))
            have hW14050 : BW (sI w14016 181 ((w14016.1 127 26).toInt.toNat) a0) := (BW_fr (l := [(181, none)]) (FR.I (FR.refl _ w14016) (k := 181) (j := (w14016.1 127 26).toInt.toNat) (v := a0) rfl) rfl (BW_fr hL14018 rfl hW14049))
            have hW14051 : BW (sI (sI w14016 181 ((w14016.1 127 26).toInt.toNat) a0) 182 ((w14016.1 127 26).toInt.toNat) b0) := (BW_fr (l := [(182, none)]) (FR.I (FR.refl _ (sI w14016 181 ((w14016.1 127 26).toInt.toNat) a0)) (k := 182) (j := (w14016.1 127 26).toInt.toNat) (v := b0) rfl) rfl hW14050)
            have hW14052 : BW (sI (sI (sI w14016 181 ((w14016.1 127 26).toInt.toNat) a0) 182 ((w14016.1 127 26).toInt.toNat) b0) 183 ((w14016.1 127 26).toInt.toNat) (w13965.1 166 a0.toInt.toNat)) := (BW_fr (l := [(183, none)]) (FR.I (FR.refl _ (sI (sI w14016 181 ((w14016.1 127 26).toInt.toNat) a0) 182 ((w14016.1 127 26).toInt.toNat) b0)) (k := 183) (j := (w14016.1 127 26).toInt.toNat) (v := (w13965.1 166 a0.toInt.toNat)) rfl) rfl hW14051)
            have hW14053 : BW (sI (sI (sI (sI w14016 181 ((w14016.1 127 26).toInt.toNat) a0) 182 ((w14016.1 127 26).toInt.toNat) b0) 183 ((w14016.1 127 26).toInt.toNat) (w13965.1 166 a0.toInt.toNat)) 184 ((w14016.1 127 26).toInt.toNat) c0) := (BW_fr (l := [(184, none)]) (FR.I (FR.refl _ (sI (sI (sI w14016 181 ((w14016.1 127 26).toInt.toNat) a0) 182 ((w14016.1 127 26).toInt.toNat) b0) 183 ((w14016.1 127 26).toInt.toNat) (w13965.1 166 a0.toInt.toNat))) (k := 184) (j := (w14016.1 127 26).toInt.toNat) (v := c0) rfl) rfl hW14052)
            have hW14054 : BW (sI (sI (sI (sI (sI w14016 181 ((w14016.1 127 26).toInt.toNat) a0) 182 ((w14016.1 127 26).toInt.toNat) b0) 183 ((w14016.1 127 26).toInt.toNat) (w13965.1 166 a0.toInt.toNat)) 184 ((w14016.1 127 26).toInt.toNat) c0) 185 ((w14016.1 127 26).toInt.toNat) (w14016.1 127 39)) := (bw_185 hW14053 (by have := bd_127_26 hI14017; have := bd_127_26 hI14013; have := bd_127_26 hI14008; have := bd_127_26 hI13997; have := bd_127_26 hI13987; have := bd_127_26 hI13979; have := bd_127_26 hI13966; have := bd_127_26 hI13954; have := bd_127_26 hI; have := (congrArg Int32.toInt (hL13955 127 26 rfl).1); have := (congrArg Int32.toInt (hL13967 127 26 rfl).1); have := (congrArg Int32.toInt (hL13980 127 26 rfl).1); have := (congrArg Int32.toInt (hL13988 127 26 rfl).1); have := (congrArg Int32.toInt (hL13998 127 26 rfl).1); have : ((sI w13996 194 b0.toInt.toNat (w13965.1 166 a0.toInt.toNat)).1 127 26).toInt = (w13996.1 127 26).toInt := rfl; have := (congrArg Int32.toInt (hL14009 127 26 rfl).1); have := (congrArg Int32.toInt (hL14014 127 26 rfl).1); have := (congrArg Int32.toInt (hL14018 127 26 rfl).1); have := bd_127_39 hI14017; have := bd_127_39 hI14013; have := bd_127_39 hI14008; have := bd_127_39 hI13997; have := bd_127_39 hI13987; have := bd_127_39 hI13979; have := bd_127_39 hI13966; have := (congrArg Int32.toInt (hL13980 127 39 rfl).1); have := (congrArg Int32.toInt (hL13988 127 39 rfl).1); have := (congrArg Int32.toInt (hL13998 127 39 rfl).1); have : ((sI w13996 194 b0.toInt.toNat (w13965.1 166 a0.toInt.toNat)).1 127 39).toInt = (w13996.1 127 39).toInt := rfl; have := (congrArg Int32.toInt (hL14009 127 39 rfl).1); have := (congrArg Int32.toInt (hL14014 127 39 rfl).1); have := (congrArg Int32.toInt (hL14018 127 39 rfl).1); have : ((sI (sI (sI (sI w14016 181 ((w14016.1 127 26).toInt.toNat) a0) 182 ((w14016.1 127 26).toInt.toNat) b0) 183 ((w14016.1 127 26).toInt.toNat) (w13965.1 166 a0.toInt.toNat)) 184 ((w14016.1 127 26).toInt.toNat) c0).1 127 26).toInt = (w14016.1 127 26).toInt := rfl; have := (by decide : (((-1) : Int32)).toInt = (-1)); have := (by decide : ((0 : Int32)).toInt = 0); omega))
            refine hq_Mo_open_340 FU _ (sI (sI (sI (sI (sI w14016 181 ((w14016.1 127 26).toInt.toNat) a0) 182 ((w14016.1 127 26).toInt.toNat) b0) 183 ((w14016.1 127 26).toInt.toNat) (w13965.1 166 a0.toInt.toNat)) 184 ((w14016.1 127 26).toInt.toNat) c0) 185 ((w14016.1 127 26).toInt.toNat) (w14016.1 127 39)) hI14037 hW14047 o14048.1 o14048.2.1 o14048.2.2 (cea_zero  (by decide)) hW14054 (fu_lt (by have := (by decide : ((0 : Int32)).toInt = 0); omega)) (fun w14055 hI14056 hL14057 hlw14055_HW p14058 p14059 => ?_) (fun r w9 hI9 hF9 hl9_HW q0 => q0.elim)
            have hF14060 : FR l_Mo_open w w14055 := (FR.I (FR.I (FR.I (FR.I (FR.I hF14022 (k := 181) (j := (w14016.1 127 26).toInt.toNat) (v := a0) rfl) (k := 182) (j := (w14016.1 127 26).toInt.toNat) (v := b0) rfl) (k := 183) (j := (w14016.1 127 26).toInt.toNat) (v := (w13965.1 166 a0.toInt.toNat)) rfl) (k := 184) (j := (w14016.1 127 26).toInt.toNat) (v := c0) rfl) (k := 185) (j := (w14016.1 127 26).toInt.toNat) (v := (w14016.1 127 39)) rfl).tr hL14057 rfl
            have o14061 : (0 ≤ (0 : Int32).toInt) ∧ ((0 : Int32).toInt ≤ 20) ∧ ((w14055.1 127 26).toInt ≤ 23) := by have := (by decide : ((0 : Int32)).toInt = 0); have := bd_127_26 hI14056; have := bd_127_26 hI14017; have := bd_127_26 hI14013; have := bd_127_26 hI14008; have := bd_127_26 hI13997; have := bd_127_26 hI13987; have := bd_127_26 hI13979; have := bd_127_26 hI13966; have := bd_127_26 hI13954; have := bd_127_26 hI; have := (congrArg Int32.toInt (hL13955 127 26 rfl).1); have := (congrArg Int32.toInt (hL13967 127 26 rfl).1); have := (congrArg Int32.toInt (hL13980 127 26 rfl).1); have := (congrArg Int32.toInt (hL13988 127 26 rfl).1); have := (congrArg Int32.toInt (hL13998 127 26 rfl).1); have : ((sI w13996 194 b0.toInt.toNat (w13965.1 166 a0.toInt.toNat)).1 127 26).toInt = (w13996.1 127 26).toInt := rfl; have := (congrArg Int32.toInt (hL14009 127 26 rfl).1); have := (congrArg Int32.toInt (hL14014 127 26 rfl).1); have := (congrArg Int32.toInt (hL14018 127 26 rfl).1); have : ((sI (sI (sI (sI (sI w14016 181 ((w14016.1 127 26).toInt.toNat) a0) 182 ((w14016.1 127 26).toInt.toNat) b0) 183 ((w14016.1 127 26).toInt.toNat) (w13965.1 166 a0.toInt.toNat)) 184 ((w14016.1 127 26).toInt.toNat) c0) 185 ((w14016.1 127 26).toInt.toNat) (w14016.1 127 39)).1 127 26).toInt = (w14016.1 127 26).toInt := rfl; have := (congrArg Int32.toInt (hL14057 127 26 rfl).1); have := (by decide : (((-1) : Int32)).toInt = (-1)); have := bd_127_39 hI13966; exact ⟨by omega, by omega, by omega⟩
            refine hq_Mo_open_380 FU _ w14055 hI14056 hlw14055_HW o14061.1 o14061.2.1 o14061.2.2 (cha_zero  (by decide)) (fu_lt (by have := (by decide : ((0 : Int32)).toInt = 0); omega)) (fun w14062 hI14063 hL14064 hlw14062_HW p14065 => ?_) (fun r w9 hI9 hF9 hl9_HW q0 => q0.elim)
            have hF14066 : FR l_Mo_open w w14062 := hF14060.tr hL14064 rfl
            have o14068 : 0 ≤ ((w14062.1 127 26) + (1 : Int32)).toInt ∧ ((w14062.1 127 26) + (1 : Int32)).toInt ≤ 24 := by have := bd_127_26 hI14063; have := bd_127_26 hI14056; have := bd_127_26 hI14017; have := bd_127_26 hI14013; have := bd_127_26 hI14008; have := bd_127_26 hI13997; have := bd_127_26 hI13987; have := bd_127_26 hI13979; have := bd_127_26 hI13966; have := bd_127_26 hI13954; have := bd_127_26 hI; have := (congrArg Int32.toInt (hL13955 127 26 rfl).1); have := (congrArg Int32.toInt (hL13967 127 26 rfl).1); have := (congrArg Int32.toInt (hL13980 127 26 rfl).1); have := (congrArg Int32.toInt (hL13988 127 26 rfl).1); have := (congrArg Int32.toInt (hL13998 127 26 rfl).1); have : ((sI w13996 194 b0.toInt.toNat (w13965.1 166 a0.toInt.toNat)).1 127 26).toInt = (w13996.1 127 26).toInt := rfl; have := (congrArg Int32.toInt (hL14009 127 26 rfl).1); have := (congrArg Int32.toInt (hL14014 127 26 rfl).1); have := (congrArg Int32.toInt (hL14018 127 26 rfl).1); have : ((sI (sI (sI (sI (sI w14016 181 ((w14016.1 127 26).toInt.toNat) a0) 182 ((w14016.1 127 26).toInt.toNat) b0) 183 ((w14016.1 127 26).toInt.toNat) (w13965.1 166 a0.toInt.toNat)) 184 ((w14016.1 127 26).toInt.toNat) c0) 185 ((w14016.1 127 26).toInt.toNat) (w14016.1 127 39)).1 127 26).toInt = (w14016.1 127 26).toInt := rfl; have := (congrArg Int32.toInt (hL14057 127 26 rfl).1); have := (congrArg Int32.toInt (hL14064 127 26 rfl).1); have := (by decide : (((-1) : Int32)).toInt = (-1)); have := (by decide : ((0 : Int32)).toInt = 0); have := bd_127_39 hI13966; have := ti_add2 (Eq.refl (w14062.1 127 26).toInt) (by decide : ((1 : Int32)).toInt = 1) (by omega) (by omega); omega
            have hI14067 : BND (sI w14062 127 26 ((w14062.1 127 26) + (1 : Int32))) := wbd_127_26 hI14063 o14068.1 o14068.2
            have hW14069 : FT (sI w13996 194 b0.toInt.toNat (w13965.1 166 a0.toInt.toNat)) := (FT_fr (l := [(194, none)]) (FR.I (FR.refl _ w13996) (k := 194) (j := b0.toInt.toNat) (v := (w13965.1 166 a0.toInt.toNat)) rfl) rfl (FT_fr hL13998 rfl hW13995))
            have hW14070 : FT w14012 := (FT_fr hL14014 rfl (FT_fr hL14009 rfl hW14069))
            have hW14071 : FT (sI w14016 181 ((w14016.1 127 26).toInt.toNat) a0) := (FT_fr (l := [(181, none)]) (FR.I (FR.refl _ w14016) (k := 181) (j := (w14016.1 127 26).toInt.toNat) (v := a0) rfl) rfl (FT_fr hL14018 rfl hW14070))
            have hW14072 : FT (sI (sI w14016 181 ((w14016.1 127 26).toInt.toNat) a0) 182 ((w14016.1 127 26).toInt.toNat) b0) := (ft_182 hW14071 (by have := bd_127_26 hI14017; have := bd_127_26 hI14013; have := bd_127_26 hI14008; have := bd_127_26 hI13997; have := bd_127_26 hI13987; have := bd_127_26 hI13979; have := bd_127_26 hI13966; have := bd_127_26 hI13954; have := bd_127_26 hI; have := (congrArg Int32.toInt (hL13955 127 26 rfl).1); have := (congrArg Int32.toInt (hL13967 127 26 rfl).1); have := (congrArg Int32.toInt (hL13980 127 26 rfl).1); have := (congrArg Int32.toInt (hL13988 127 26 rfl).1); have := (congrArg Int32.toInt (hL13998 127 26 rfl).1); have : ((sI w13996 194 b0.toInt.toNat (w13965.1 166 a0.toInt.toNat)).1 127 26).toInt = (w13996.1 127 26).toInt := rfl; have := (congrArg Int32.toInt (hL14009 127 26 rfl).1); have := (congrArg Int32.toInt (hL14014 127 26 rfl).1); have := (congrArg Int32.toInt (hL14018 127 26 rfl).1); have := bd_127_4 hI14017; have := bd_127_4 hI14013; have := bd_127_4 hI14008; have := bd_127_4 hI13997; have := bd_127_4 hI13987; have := bd_127_4 hI13979; have := bd_127_4 hI13966; have := bd_127_4 hI13954; have := bd_127_4 hI; have := (congrArg Int32.toInt (hL13955 127 4 rfl).1); have := (congrArg Int32.toInt (hL13967 127 4 rfl).1); have := (congrArg Int32.toInt (hL13980 127 4 rfl).1); have := (congrArg Int32.toInt (hL13988 127 4 rfl).1); have := (congrArg Int32.toInt (hL13998 127 4 rfl).1); have : ((sI w13996 194 b0.toInt.toNat (w13965.1 166 a0.toInt.toNat)).1 127 4).toInt = (w13996.1 127 4).toInt := rfl; have := (congrArg Int32.toInt (hL14009 127 4 rfl).1); have := (congrArg Int32.toInt (hL14014 127 4 rfl).1); have := (congrArg Int32.toInt (hL14018 127 4 rfl).1); have : ((sI w14016 181 ((w14016.1 127 26).toInt.toNat) a0).1 127 4).toInt = (w14016.1 127 4).toInt := rfl; have := bd_163 hI a0.toInt.toNat; have := bd_163 hI b0.toInt.toNat; have := (by decide : (((-1) : Int32)).toInt = (-1)); have := (by decide : ((0 : Int32)).toInt = 0); have := bd_127_39 hI13966; omega))
            have hW14073 : FT (sI (sI (sI w14016 181 ((w14016.1 127 26).toInt.toNat) a0) 182 ((w14016.1 127 26).toInt.toNat) b0) 183 ((w14016.1 127 26).toInt.toNat) (w13965.1 166 a0.toInt.toNat)) := (FT_fr (l := [(183, none)]) (FR.I (FR.refl _ (sI (sI w14016 181 ((w14016.1 127 26).toInt.toNat) a0) 182 ((w14016.1 127 26).toInt.toNat) b0)) (k := 183) (j := (w14016.1 127 26).toInt.toNat) (v := (w13965.1 166 a0.toInt.toNat)) rfl) rfl hW14072)
            have hW14074 : FT (sI (sI (sI (sI w14016 181 ((w14016.1 127 26).toInt.toNat) a0) 182 ((w14016.1 127 26).toInt.toNat) b0) 183 ((w14016.1 127 26).toInt.toNat) (w13965.1 166 a0.toInt.toNat)) 184 ((w14016.1 127 26).toInt.toNat) c0) := (FT_fr (l := [(184, none)]) (FR.I (FR.refl _ (sI (sI (sI w14016 181 ((w14016.1 127 26).toInt.toNat) a0) 182 ((w14016.1 127 26).toInt.toNat) b0) 183 ((w14016.1 127 26).toInt.toNat) (w13965.1 166 a0.toInt.toNat))) (k := 184) (j := (w14016.1 127 26).toInt.toNat) (v := c0) rfl) rfl hW14073)
            have hW14075 : FT (sI (sI (sI (sI (sI w14016 181 ((w14016.1 127 26).toInt.toNat) a0) 182 ((w14016.1 127 26).toInt.toNat) b0) 183 ((w14016.1 127 26).toInt.toNat) (w13965.1 166 a0.toInt.toNat)) 184 ((w14016.1 127 26).toInt.toNat) c0) 185 ((w14016.1 127 26).toInt.toNat) (w14016.1 127 39)) := (FT_fr (l := [(185, none)]) (FR.I (FR.refl _ (sI (sI (sI (sI w14016 181 ((w14016.1 127 26).toInt.toNat) a0) 182 ((w14016.1 127 26).toInt.toNat) b0) 183 ((w14016.1 127 26).toInt.toNat) (w13965.1 166 a0.toInt.toNat)) 184 ((w14016.1 127 26).toInt.toNat) c0)) (k := 185) (j := (w14016.1 127 26).toInt.toNat) (v := (w14016.1 127 39)) rfl) rfl hW14074)
            have hW14076 : FT w14062 := (FT_fr hL14064 rfl (FT_fr hL14057 rfl hW14075))
            have o14077 : ((w14016.1 127 26).toInt = ((sI w14016 181 ((w14016.1 127 26).toInt.toNat) a0).1 127 26).toInt) ∧ (b0.toInt < ((sI w14016 181 ((w14016.1 127 26).toInt.toNat) a0).1 127 4).toInt) := by have := bd_127_26 hI14017; have := bd_127_26 hI14013; have := bd_127_26 hI14008; have := bd_127_26 hI13997; have := bd_127_26 hI13987; have := bd_127_26 hI13979; have := bd_127_26 hI13966; have := bd_127_26 hI13954; have := bd_127_26 hI; have := (congrArg Int32.toInt (hL13955 127 26 rfl).1); have := (congrArg Int32.toInt (hL13967 127 26 rfl).1); have := (congrArg Int32.toInt (hL13980 127 26 rfl).1); have := (congrArg Int32.toInt (hL13988 127 26 rfl).1); have := (congrArg Int32.toInt (hL13998 127 26 rfl).1); have : ((sI w13996 194 b0.toInt.toNat (w13965.1 166 a0.toInt.toNat)).1 127 26).toInt = (w13996.1 127 26).toInt := rfl; have := (congrArg Int32.toInt (hL14009 127 26 rfl).1); have := (congrArg Int32.toInt (hL14014 127 26 rfl).1); have := (congrArg Int32.toInt (hL14018 127 26 rfl).1); have : ((sI w14016 181 ((w14016.1 127 26).toInt.toNat) a0).1 127 26).toInt = (w14016.1 127 26).toInt := rfl; have := bd_127_4 hI14017; have := bd_127_4 hI14013; have := bd_127_4 hI14008; have := bd_127_4 hI13997; have := bd_127_4 hI13987; have := bd_127_4 hI13979; have := bd_127_4 hI13966; have := bd_127_4 hI13954; have := bd_127_4 hI; have := (congrArg Int32.toInt (hL13955 127 4 rfl).1); have := (congrArg Int32.toInt (hL13967 127 4 rfl).1); have := (congrArg Int32.toInt (hL13980 127 4 rfl).1); have := (congrArg Int32.toInt (hL13988 127 4 rfl).1); have := (congrArg Int32.toInt (hL13998 127 4 rfl).1); have : ((sI w13996 194 b0.toInt.toNat (w13965.1 166 a0.toInt.toNat)).1 127 4).toInt = (w13996.1 127 4).toInt := rfl; have := (congrArg Int32.toInt (hL14009 127 4 rfl).1); have := (congrArg Int32.toInt (hL14014 127 4 rfl).1); have := (congrArg Int32.toInt (hL14018 127 4 rfl).1); have : ((sI w14016 181 ((w14016.1 127 26).toInt.toNat) a0).1 127 4).toInt = (w14016.1 127 4).toInt := rfl; have := bd_163 hI a0.toInt.toNat; have := bd_163 hI b0.toInt.toNat; have := (by decide : (((-1) : Int32)).toInt = (-1)); have := (by decide : ((0 : Int32)).toInt = 0); have := bd_127_39 hI13966; exact ⟨by omega, by omega⟩
            have hW14078 : FT1 (sI (sI (sI w14016 181 ((w14016.1 127 26).toInt.toNat) a0) 182 ((w14016.1 127 26).toInt.toNat) b0) 183 ((w14016.1 127 26).toInt.toNat) (w13965.1 166 a0.toInt.toNat)) := (FT1_fr (l := [(183, none)]) (FR.I (FR.refl _ (sI (sI w14016 181 ((w14016.1 127 26).toInt.toNat) a0) 182 ((w14016.1 127 26).toInt.toNat) b0)) (k := 183) (j := (w14016.1 127 26).toInt.toNat) (v := (w13965.1 166 a0.toInt.toNat)) rfl) rfl (ft1_182  o14077.1 o14077.2))
            have hW14079 : FT1 (sI (sI (sI (sI w14016 181 ((w14016.1 127 26).toInt.toNat) a0) 182 ((w14016.1 127 26).toInt.toNat) b0) 183 ((w14016.1 127 26).toInt.toNat) (w13965.1 166 a0.toInt.toNat)) 184 ((w14016.1 127 26).toInt.toNat) c0) := (FT1_fr (l := [(184, none)]) (FR.I (FR.refl _ (sI (sI (sI w14016 181 ((w14016.1 127 26).toInt.toNat) a0) 182 ((w14016.1 127 26).toInt.toNat) b0) 183 ((w14016.1 127 26).toInt.toNat) (w13965.1 166 a0.toInt.toNat))) (k := 184) (j := (w14016.1 127 26).toInt.toNat) (v := c0) rfl) rfl hW14078)
            have hW14080 : FT1 (sI (sI (sI (sI (sI w14016 181 ((w14016.1 127 26).toInt.toNat) a0) 182 ((w14016.1 127 26).toInt.toNat) b0) 183 ((w14016.1 127 26).toInt.toNat) (w13965.1 166 a0.toInt.toNat)) 184 ((w14016.1 127 26).toInt.toNat) c0) 185 ((w14016.1 127 26).toInt.toNat) (w14016.1 127 39)) := (FT1_fr (l := [(185, none)]) (FR.I (FR.refl _ (sI (sI (sI (sI w14016 181 ((w14016.1 127 26).toInt.toNat) a0) 182 ((w14016.1 127 26).toInt.toNat) b0) 183 ((w14016.1 127 26).toInt.toNat) (w13965.1 166 a0.toInt.toNat)) 184 ((w14016.1 127 26).toInt.toNat) c0)) (k := 185) (j := (w14016.1 127 26).toInt.toNat) (v := (w14016.1 127 39)) rfl) rfl hW14079)
            have hW14081 : FT1 w14062 := (FT1_fr hL14064 rfl (FT1_fr hL14057 rfl hW14080))
            have hW14082 : FT (sI w14062 127 26 ((w14062.1 127 26) + (1 : Int32))) := (ft_more hW14076 hW14081 (by have := bd_127_26 hI14063; have := bd_127_26 hI14056; have := bd_127_26 hI14017; have := bd_127_26 hI14013; have := bd_127_26 hI14008; have := bd_127_26 hI13997; have := bd_127_26 hI13987; have := bd_127_26 hI13979; have := bd_127_26 hI13966; have := bd_127_26 hI13954; have := bd_127_26 hI; have := (congrArg Int32.toInt (hL13955 127 26 rfl).1); have := (congrArg Int32.toInt (hL13967 127 26 rfl).1); have := (congrArg Int32.toInt (hL13980 127 26 rfl).1); have := (congrArg Int32.toInt (hL13988 127 26 rfl).1); have := (congrArg Int32.toInt (hL13998 127 26 rfl).1); have : ((sI w13996 194 b0.toInt.toNat (w13965.1 166 a0.toInt.toNat)).1 127 26).toInt = (w13996.1 127 26).toInt := rfl; have := (congrArg Int32.toInt (hL14009 127 26 rfl).1); have := (congrArg Int32.toInt (hL14014 127 26 rfl).1); have := (congrArg Int32.toInt (hL14018 127 26 rfl).1); have : ((sI (sI (sI (sI (sI w14016 181 ((w14016.1 127 26).toInt.toNat) a0) 182 ((w14016.1 127 26).toInt.toNat) b0) 183 ((w14016.1 127 26).toInt.toNat) (w13965.1 166 a0.toInt.toNat)) 184 ((w14016.1 127 26).toInt.toNat) c0) 185 ((w14016.1 127 26).toInt.toNat) (w14016.1 127 39)).1 127 26).toInt = (w14016.1 127 26).toInt := rfl; have := (congrArg Int32.toInt (hL14057 127 26 rfl).1); have := (congrArg Int32.toInt (hL14064 127 26 rfl).1); have := (by decide : (((-1) : Int32)).toInt = (-1)); have := (by decide : ((0 : Int32)).toInt = 0); have := bd_127_39 hI13966; have := ti_add2 (Eq.refl (w14062.1 127 26).toInt) (by decide : ((1 : Int32)).toInt = 1) (by omega) (by omega); omega))
            have o14083 : ((w14016.1 127 26).toInt = ((sI (sI (sI (sI w14016 181 ((w14016.1 127 26).toInt.toNat) a0) 182 ((w14016.1 127 26).toInt.toNat) b0) 183 ((w14016.1 127 26).toInt.toNat) (w13965.1 166 a0.toInt.toNat)) 184 ((w14016.1 127 26).toInt.toNat) c0).1 127 26).toInt) ∧ ((w14016.1 127 39).toInt = ((sI (sI (sI (sI w14016 181 ((w14016.1 127 26).toInt.toNat) a0) 182 ((w14016.1 127 26).toInt.toNat) b0) 183 ((w14016.1 127 26).toInt.toNat) (w13965.1 166 a0.toInt.toNat)) 184 ((w14016.1 127 26).toInt.toNat) c0).1 127 39).toInt) := by have := bd_127_26 hI14017; have := bd_127_26 hI14013; have := bd_127_26 hI14008; have := bd_127_26 hI13997; have := bd_127_26 hI13987; have := bd_127_26 hI13979; have := bd_127_26 hI13966; have := bd_127_26 hI13954; have := bd_127_26 hI; have := (congrArg Int32.toInt (hL13955 127 26 rfl).1); have := (congrArg Int32.toInt (hL13967 127 26 rfl).1); have := (congrArg Int32.toInt (hL13980 127 26 rfl).1); have := (congrArg Int32.toInt (hL13988 127 26 rfl).1); have := (congrArg Int32.toInt (hL13998 127 26 rfl).1); have : ((sI w13996 194 b0.toInt.toNat (w13965.1 166 a0.toInt.toNat)).1 127 26).toInt = (w13996.1 127 26).toInt := rfl; have := (congrArg Int32.toInt (hL14009 127 26 rfl).1); have := (congrArg Int32.toInt (hL14014 127 26 rfl).1); have := (congrArg Int32.toInt (hL14018 127 26 rfl).1); have := bd_127_39 hI14017; have := bd_127_39 hI14013; have := bd_127_39 hI14008; have := bd_127_39 hI13997; have := bd_127_39 hI13987; have := bd_127_39 hI13979; have := bd_127_39 hI13966; have := (congrArg Int32.toInt (hL13980 127 39 rfl).1); have := (congrArg Int32.toInt (hL13988 127 39 rfl).1); have := (congrArg Int32.toInt (hL13998 127 39 rfl).1); have : ((sI w13996 194 b0.toInt.toNat (w13965.1 166 a0.toInt.toNat)).1 127 39).toInt = (w13996.1 127 39).toInt := rfl; have := (congrArg Int32.toInt (hL14009 127 39 rfl).1); have := (congrArg Int32.toInt (hL14014 127 39 rfl).1); have := (congrArg Int32.toInt (hL14018 127 39 rfl).1); have : ((sI (sI (sI (sI w14016 181 ((w14016.1 127 26).toInt.toNat) a0) 182 ((w14016.1 127 26).toInt.toNat) b0) 183 ((w14016.1 127 26).toInt.toNat) (w13965.1 166 a0.toInt.toNat)) 184 ((w14016.1 127 26).toInt.toNat) c0).1 127 26).toInt = (w14016.1 127 26).toInt := rfl; have : ((sI (sI (sI (sI w14016 181 ((w14016.1 127 26).toInt.toNat) a0) 182 ((w14016.1 127 26).toInt.toNat) b0) 183 ((w14016.1 127 26).toInt.toNat) (w13965.1 166 a0.toInt.toNat)) 184 ((w14016.1 127 26).toInt.toNat) c0).1 127 39).toInt = (w14016.1 127 39).toInt := rfl; have := (by decide : (((-1) : Int32)).toInt = (-1)); have := (by decide : ((0 : Int32)).toInt = 0); exact ⟨by omega, by omega⟩
            have hW14084 : LB w14055 := (LB_fr hL14057 rfl (lb_185  o14083.1 o14083.2))
            have o14085 : (1 ≤ (w14062.1 127 39).toInt) ∧ ((w14062.1 127 39).toInt ≤ 24) ∧ (0 ≤ (w14062.1 127 26).toInt) := by have := bd_127_39 hI14063; have := bd_127_39 hI14056; have := bd_127_39 hI14017; have := bd_127_39 hI14013; have := bd_127_39 hI14008; have := bd_127_39 hI13997; have := bd_127_39 hI13987; have := bd_127_39 hI13979; have := bd_127_39 hI13966; have := (congrArg Int32.toInt (hL13980 127 39 rfl).1); have := (congrArg Int32.toInt (hL13988 127 39 rfl).1); have := (congrArg Int32.toInt (hL13998 127 39 rfl).1); have : ((sI w13996 194 b0.toInt.toNat (w13965.1 166 a0.toInt.toNat)).1 127 39).toInt = (w13996.1 127 39).toInt := rfl; have := (congrArg Int32.toInt (hL14009 127 39 rfl).1); have := (congrArg Int32.toInt (hL14014 127 39 rfl).1); have := (congrArg Int32.toInt (hL14018 127 39 rfl).1); have : ((sI (sI (sI (sI (sI w14016 181 ((w14016.1 127 26).toInt.toNat) a0) 182 ((w14016.1 127 26).toInt.toNat) b0) 183 ((w14016.1 127 26).toInt.toNat) (w13965.1 166 a0.toInt.toNat)) 184 ((w14016.1 127 26).toInt.toNat) c0) 185 ((w14016.1 127 26).toInt.toNat) (w14016.1 127 39)).1 127 39).toInt = (w14016.1 127 39).toInt := rfl; have := (congrArg Int32.toInt (hL14057 127 39 rfl).1); have := (congrArg Int32.toInt (hL14064 127 39 rfl).1); have := bd_127_26 hI14063; have := bd_127_26 hI14056; have := bd_127_26 hI14017; have := bd_127_26 hI14013; have := bd_127_26 hI14008; have := bd_127_26 hI13997; have := bd_127_26 hI13987; have := bd_127_26 hI13979; have := bd_127_26 hI13966; have := bd_127_26 hI13954; have := bd_127_26 hI; have := (congrArg Int32.toInt (hL13955 127 26 rfl).1); have := (congrArg Int32.toInt (hL13967 127 26 rfl).1); have := (congrArg Int32.toInt (hL13980 127 26 rfl).1); have := (congrArg Int32.toInt (hL13988 127 26 rfl).1); have := (congrArg Int32.toInt (hL13998 127 26 rfl).1); have : ((sI w13996 194 b0.toInt.toNat (w13965.1 166 a0.toInt.toNat)).1 127 26).toInt = (w13996.1 127 26).toInt := rfl; have := (congrArg Int32.toInt (hL14009 127 26 rfl).1); have := (congrArg Int32.toInt (hL14014 127 26 rfl).1); have := (congrArg Int32.toInt (hL14018 127 26 rfl).1); have : ((sI (sI (sI (sI (sI w14016 181 ((w14016.1 127 26).toInt.toNat) a0) 182 ((w14016.1 127 26).toInt.toNat) b0) 183 ((w14016.1 127 26).toInt.toNat) (w13965.1 166 a0.toInt.toNat)) 184 ((w14016.1 127 26).toInt.toNat) c0) 185 ((w14016.1 127 26).toInt.toNat) (w14016.1 127 39)).1 127 26).toInt = (w14016.1 127 26).toInt := rfl; have := (congrArg Int32.toInt (hL14057 127 26 rfl).1); have := (congrArg Int32.toInt (hL14064 127 26 rfl).1); have := (by decide : (((-1) : Int32)).toInt = (-1)); have := (by decide : ((0 : Int32)).toInt = 0); exact ⟨by omega, by omega, by omega⟩
            have hW14086 : WN w14062 := (wn_of hlw14062_HW (BW_fr hL14064 rfl p14059) (CEb_fr hL14064 rfl p14058) p14065 (LB_fr hL14064 rfl hW14084) o14085.1 o14085.2.1 o14085.2.2)
            have hW14087 : HW (sI w14062 127 26 ((w14062.1 127 26) + (1 : Int32))) := (hw_more hlw14062_HW hW14086 (by have := bd_127_26 hI14063; have := bd_127_26 hI14056; have := bd_127_26 hI14017; have := bd_127_26 hI14013; have := bd_127_26 hI14008; have := bd_127_26 hI13997; have := bd_127_26 hI13987; have := bd_127_26 hI13979; have := bd_127_26 hI13966; have := bd_127_26 hI13954; have := bd_127_26 hI; have := (congrArg Int32.toInt (hL13955 127 26 rfl).1); have := (congrArg Int32.toInt (hL13967 127 26 rfl).1); have := (congrArg Int32.toInt (hL13980 127 26 rfl).1); have := (congrArg Int32.toInt (hL13988 127 26 rfl).1); have := (congrArg Int32.toInt (hL13998 127 26 rfl).1); have : ((sI w13996 194 b0.toInt.toNat (w13965.1 166 a0.toInt.toNat)).1 127 26).toInt = (w13996.1 127 26).toInt := rfl; have := (congrArg Int32.toInt (hL14009 127 26 rfl).1); have := (congrArg Int32.toInt (hL14014 127 26 rfl).1); have := (congrArg Int32.toInt (hL14018 127 26 rfl).1); have : ((sI (sI (sI (sI (sI w14016 181 ((w14016.1 127 26).toInt.toNat) a0) 182 ((w14016.1 127 26).toInt.toNat) b0) 183 ((w14016.1 127 26).toInt.toNat) (w13965.1 166 a0.toInt.toNat)) 184 ((w14016.1 127 26).toInt.toNat) c0) 185 ((w14016.1 127 26).toInt.toNat) (w14016.1 127 39)).1 127 26).toInt = (w14016.1 127 26).toInt := rfl; have := (congrArg Int32.toInt (hL14057 127 26 rfl).1); have := (congrArg Int32.toInt (hL14064 127 26 rfl).1); have := (by decide : (((-1) : Int32)).toInt = (-1)); have := (by decide : ((0 : Int32)).toInt = 0); have := bd_127_39 hI13966; have := ti_add2 (Eq.refl (w14062.1 127 26).toInt) (by decide : ((1 : Int32)).toInt = 1) (by omega) (by omega); omega))
            have o14088 : (0 ≤ (0 : Int32).toInt) ∧ ((0 : Int32).toInt ≤ 7) := by have := (by decide : ((0 : Int32)).toInt = 0); exact ⟨by omega, by omega⟩
            exact hQ _ _ hI14067 (FR.I hF14066 (k := 127) (j := 26) (v := ((w14062.1 127 26) + (1 : Int32))) rfl) hW14082 hW14087  o14088.1 o14088.2
          · have o14089 : (0 ≤ (0 : Int32).toInt) ∧ ((0 : Int32).toInt ≤ 20) := by have := (by decide : ((0 : Int32)).toInt = 0); exact ⟨by omega, by omega⟩
            refine hq_Mo_open_251 FU _ w14016 hI14017  o14089.1 o14089.2 (fu_lt (by have := (by decide : ((0 : Int32)).toInt = 0); omega)) (fun w14090 hI14091 hL14092  => ?_) (fun r w9 hI9 hF9 q0 => q0.elim)
            have hF14093 : FR l_Mo_open w w14090 := hF14022.tr hL14092 rfl
            have hW14094 : FT (sI w13996 194 b0.toInt.toNat (w13965.1 166 a0.toInt.toNat)) := (FT_fr (l := [(194, none)]) (FR.I (FR.refl _ w13996) (k := 194) (j := b0.toInt.toNat) (v := (w13965.1 166 a0.toInt.toNat)) rfl) rfl (FT_fr hL13998 rfl hW13995))
            have hW14095 : FT w14012 := (FT_fr hL14014 rfl (FT_fr hL14009 rfl hW14094))
            have hW14096 : FT w14090 := (FT_fr hL14092 rfl (FT_fr hL14018 rfl hW14095))
            have hW14097 : HW w13965 := (HW_fr hL13967 rfl (HW_fr hL13955 rfl hf_HW))
            have hW14098 : HW w13986 := (HW_fr hL13988 rfl (HW_fr hL13980 rfl hW14097))
            have hW14099 : HW (sI w13996 194 b0.toInt.toNat (w13965.1 166 a0.toInt.toNat)) := (HW_fr (l := [(194, none)]) (FR.I (FR.refl _ w13996) (k := 194) (j := b0.toInt.toNat) (v := (w13965.1 166 a0.toInt.toNat)) rfl) rfl (HW_fr hL13998 rfl hW14098))
            have hW14100 : HW w14012 := (HW_fr hL14014 rfl (HW_fr hL14009 rfl hW14099))
            have hW14101 : HW w14090 := (HW_fr hL14092 rfl (HW_fr hL14018 rfl hW14100))
            have o14102 : (0 ≤ (7 : Int32).toInt) ∧ ((7 : Int32).toInt ≤ 7) := by have := (by decide : ((7 : Int32)).toInt = 7); exact ⟨by omega, by omega⟩
            exact hQ _ _ hI14091 hF14093 hW14096 hW14101  o14102.1 o14102.2
        · have hW14103 : FT w13965 := (FT_fr hL13967 rfl (FT_fr hL13955 rfl hf_FT))
          have hW14104 : FT w13986 := (FT_fr hL13988 rfl (FT_fr hL13980 rfl hW14103))
          have hW14105 : HW w13965 := (HW_fr hL13967 rfl (HW_fr hL13955 rfl hf_HW))
          have hW14106 : HW w13986 := (HW_fr hL13988 rfl (HW_fr hL13980 rfl hW14105))
          have o14107 : (0 ≤ (6 : Int32).toInt) ∧ ((6 : Int32).toInt ≤ 7) := by have := (by decide : ((6 : Int32)).toInt = 6); exact ⟨by omega, by omega⟩
          exact hQ _ _ hI13987 hF13992 hW14104 hW14106  o14107.1 o14107.2
      · have hW14108 : FT w13965 := (FT_fr hL13967 rfl (FT_fr hL13955 rfl hf_FT))
        have hW14109 : HW w13965 := (HW_fr hL13967 rfl (HW_fr hL13955 rfl hf_HW))
        have o14110 : (0 ≤ (5 : Int32).toInt) ∧ ((5 : Int32).toInt ≤ 7) := by have := (by decide : ((5 : Int32)).toInt = 5); exact ⟨by omega, by omega⟩
        exact hQ _ _ hI13966 hF13974 hW14108 hW14109  o14110.1 o14110.2
    · have o14111 : (0 ≤ (4 : Int32).toInt) ∧ ((4 : Int32).toInt ≤ 7) := by have := (by decide : ((4 : Int32)).toInt = 4); exact ⟨by omega, by omega⟩
      exact hQ _ _ hI13954 hF13960 (FT_fr hL13955 rfl hf_FT) (HW_fr hL13955 rfl hf_HW)  o14111.1 o14111.2
  · have o14112 : (0 ≤ (3 : Int32).toInt) ∧ ((3 : Int32).toInt ≤ 7) := by have := (by decide : ((3 : Int32)).toInt = 3); exact ⟨by omega, by omega⟩
    exact hQ _ _ hI13954 hF13960 (FT_fr hL13955 rfl hf_FT) (HW_fr hL13955 rfl hf_HW)  o14112.1 o14112.2
