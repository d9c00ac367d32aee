/-! the reference's end of a text, as far as its rows go -/
def sameR (w w' : MW) : Prop := ∀ k j : Nat, (k = 147 ∨ (151 ≤ k ∧ k ≤ 162)) → w'.1 k j = w.1 k j
def lqq : Pl := [(147, none), (151, none), (152, none), (153, none), (154, none), (155, none), (156, none), (157, none), (158, none), (159, none), (160, none), (161, none), (162, none)]
theorem sr_fr {l : Pl} {w w' : MW} (hF : FR l w w') (ho : off l lqq = true) : sameR w w' := fun k j hk => by
  have : k = 147 ∨ k = 151 ∨ k = 152 ∨ k = 153 ∨ k = 154 ∨ k = 155 ∨ k = 156 ∨ k = 157 ∨ k = 158 ∨ k = 159 ∨ k = 160 ∨ k = 161 ∨ k = 162 := by omega
  rcases this with rfl | rfl | rfl | rfl | rfl | rfl | rfl | rfl | rfl | rfl | rfl | rfl | rfl <;> exact (hF _ j (off_hit ho rfl)).1
def lme3 : Pl := [(129, some 1), (130, none), (129, some 12), (129, some 30), (129, some 31), (129, some 32), (129, some 33), (129, some 2), (129, some 3), (129, some 4), (129, some 5), (129, some 6), (129, some 7), (129, some 8), (129, some 9), (129, some 10), (129, some 11), (129, some 13), (129, some 21), (129, some 23), (129, some 24), (129, some 35), (129, some 38), (145, none), (146, none), (131, none), (132, none), (133, none), (134, none), (135, none), (136, none), (137, none), (138, none), (139, none), (140, none), (141, none), (142, none), (143, none), (144, none), (127, some 26), (127, some 59), (167, none), (181, none), (182, none), (183, none), (184, none), (185, none), (186, none), (187, none), (201, none), (206, none)]
theorem mej_97 {a b : Int32} {E : MW → Prop} {Q : Int32 → MW → Prop} (ha : ¬ a.toInt = 1) (hb : b.toInt ≤ 4000) {w0 : MW} (hE : ∀ w', MdJ w' → FR lme3 w0 w' → E w') (n : Nat) : ∀ (k : Int32) (w : MW), MdJ w → FR lme3 w0 w → 0 ≤ k.toInt → k.toInt ≤ 4000 → (4000 - k.toInt).toNat < n → q_Mo_end_97 a b E Q n k w := by
  induction n with
  | zero => intros; omega
  | succ n ih =>
    intro k w h hw k0 k1 hm
    rw [q_Mo_end_97.eq_2]
    refine ⟨fun _ => hE w h hw, fun c => ?_⟩
    have s1 := ti_add2 (Eq.refl k.toInt) i_1 (by omega) (by omega)
    have b128 := bd_128 h.1.1 k.toInt.toNat
    exact ⟨fun _ => ⟨⟨by omega, by omega⟩, h_Tx_unit h.1.1 b128.1 b128.2 (fun r w' h' f' _ _ => ih _ _ (MdJ_fr f' h' rfl h) (hw.tr f' rfl) (by omega) (by omega) (by omega))⟩, fun z => absurd ha z⟩
theorem mej_193 {z : Int32} {E : MW → Prop} {Q : Int32 → MW → Prop} {w0 : MW} (hE : ∀ w', FR lme3 w0 w' → E w') (n : Nat) : ∀ (k : Int32) (w : MW), FR lme3 w0 w → 0 ≤ k.toInt → k.toInt ≤ 40 → (40 - k.toInt).toNat < n → q_Mo_end_193 z E Q n k w := by
  induction n with
  | zero => intros; omega
  | succ n ih =>
    intro k w hw k0 k1 hm
    rw [q_Mo_end_193.eq_2]
    refine ⟨fun _ => hE w hw, fun c => ?_⟩
    have s1 := ti_add2 (Eq.refl k.toInt) i_1 (by omega) (by omega)
    exact ⟨⟨by omega, by omega⟩, ⟨by omega, by omega⟩, ih _ _ (FR.J (FR.I hw rfl) rfl) (by omega) (by omega) (by omega)⟩
def lun : Pl := [(147, some 1), (148, none)]
theorem meq_97 {a b : Int32} {E : MW → Prop} {Q : Int32 → MW → Prop} (ha : a.toInt = 1) (b0 : 0 ≤ b.toInt) (b4 : b.toInt ≤ 4000) {w0 : MW} (hb : ∀ p : Nat, (p : Int) < b.toInt → 1 ≤ (w0.1 128 p).toInt ∧ (w0.1 128 p).toInt ≤ 127) (hE : ∀ w', FR lun w0 w' → (w'.1 147 1).toInt = b.toInt → (∀ p : Nat, (p : Int) < b.toInt → (w'.1 148 p).toInt = (w0.1 128 p).toInt) → E w') (n : Nat) : ∀ (k : Nat) (w : MW), (k : Int) ≤ b.toInt → FR lun w0 w → (w.1 147 1).toInt = (k : Int) → (∀ p : Nat, p < k → (w.1 148 p).toInt = (w0.1 128 p).toInt) → 4001 - k < n → q_Mo_end_97 a b E Q n (nI k) w := by
  induction n with
  | zero => intros; omega
  | succ n ih =>
    intro k w hk hw hs hp hm
    have tk : (nI k).toInt = (k : Int) := nI_toInt (by omega)
    have tn : (nI k).toInt.toNat = k := by omega
    rw [q_Mo_end_97.eq_2]
    refine ⟨fun c => hE w hw (by omega) (fun p hp' => hp p (by omega)), fun c => ⟨fun z => absurd ha z, fun _ => ⟨⟨by omega, by omega⟩, ?_⟩⟩⟩
    rw [tn, nI_1]
    have e8 : w.1 128 k = w0.1 128 k := (hw 128 k rfl).1
    have bk := hb k (by omega)
    rw [e8]
    have sz : (w.1 147 1).toInt.toNat = k := by omega
    refine Eq.mpr (p_Mr_unit.eq_1 _ _ _) ⟨fun z => by omega, fun _ => ⟨fun z => by omega, fun _ => ⟨fun _ => ⟨⟨by omega, by omega⟩, ?_⟩, fun z => absurd (show ¬ (w.1 147 1).toInt = 4020 by omega) z⟩⟩⟩
    rw [sz]
    have s1 := ti_add2 hs i_1 (by omega) (by omega)
    refine ih (k + 1) _ (by omega) (FR.I (FR.I hw rfl) rfl) (by rw [sI_same, s1]; omega) (fun p hp' => ?_) (by omega)
    rw [sI_oth _ _ _ _ _ _ (by decide)]
    by_cases q : p = k
    · rw [q, sI_same]
      exact nby (by omega) (by omega)
    · rw [sI_ne _ _ _ _ _ q]
      exact hp p (by omega)
/-- what the reference's end does to its rows; f the text's bytes -/
def EMq (w : MW) (f : Int → Int) (g0 : Nat) (rs0 : List Rw) (a b : Int32) (r : Int32) (w' : MW) : Prop := (¬ ((fitE (w.1 127 1).toInt a b ∧ txO (MTx w b.toInt) b.toInt) ∧ a.toInt = 1) ∧ sameR w w') ∨ (((fitE (w.1 127 1).toInt a b ∧ txO (MTx w b.toInt) b.toInt) ∧ a.toInt = 1) ∧ (w'.1 147 1).toInt = 0 ∧ w'.1 147 24 = w.1 147 24 ∧ ((∃ g rs, (∃ k, RdQ f b.toInt k [] 0 (-1) rs) ∧ RoM w' g rs ∧ r.toInt = (rs.length : Int) ∧ ∀ j : Nat, j < rs.length → w'.1 160 j = 0 ∧ w'.1 161 j = 0 ∧ w'.1 162 j = 0) ∨ (∃ q : Nat, (∃ k, RdQ f b.toInt k [] 0 (q : Int) []) ∧ r.toInt = -3 - (q : Int) ∧ RoM w' g0 rs0 ∧ (∀ j : Nat, w'.1 160 j = w.1 160 j ∧ w'.1 161 j = w.1 161 j ∧ w'.1 162 j = w.1 162 j))))
theorem mx_endq {w : MW} {a b : Int32} {f : Int → Int} {g0 : Nat} {rs0 : List Rw} {Q : Int32 → MW → Prop} (h : MdJ w) (hs : (w.1 147 1).toInt = 0) (hR : RoM w g0 rs0) (hf : ∀ p : Nat, (p : Int) < b.toInt → (w.1 128 p).toInt = f p) (hQ : ∀ r w', EMq w f g0 rs0 a b r w' → Q r w') : p_Mo_end w a b Q := by
  have F0 : FR [(127, some 1)] w (sI w 127 1 0) := FR.I (FR.refl _ w) rfl
  have h1 : MdJ (sI w 127 1 0) := MdJ_fr (l := [(127, some 1)]) F0 (wbd_127_1 h.1.1 (by decide) (by decide)) rfl h
  have S0 : sameR w (sI w 127 1 0) := sr_fr F0 rfl
  have N : ¬ (fitE (w.1 127 1).toInt a b ∧ txO (MTx w b.toInt) b.toInt) → Q (-1) (sI w 127 1 0) := fun k => hQ _ _ (Or.inl ⟨fun z => k z.1, S0⟩)
  have K0 : ¬ fitE (w.1 127 1).toInt a b → q_Mo_end_33 a b 0 w Q := fun k => Eq.mpr (q_Mo_end_33.eq_1 _ _ _ _ _) (z37 99999999999999999999 _ ⟨fun c => absurd i_0 c, fun _ => N (fun z => k z.1)⟩)
  have K1 : fitE (w.1 127 1).toInt a b → q_Mo_end_33 a b 1 w Q := fun ft => by
    have g0' := ft.1
    have g2 := ft.2.1
    have gb := ft.2.2.1
    have gb4 := ft.2.2.2.1
    refine Eq.mpr (q_Mo_end_33.eq_1 _ _ _ _ _) (mx_37 h.1.1 ft.2.2.2.1 (fun ok => ⟨fun _ => ⟨fun ca => ?_, fun ca => ?_⟩, fun c => absurd (show ¬ (1 : Int32).toInt = 0 by decide) c⟩) (fun no => ⟨fun c => absurd i_0 c, fun _ => N (fun z => no z.2)⟩) FU 0 (by omega) (fun p p0 p1 => by omega) (fu_lt (by decide)))
    · by_cases c1 : a.toInt = 1
      · have e128 : ∀ j, (sI w 127 1 0).1 128 j = w.1 128 j := fun j => (F0 128 j rfl).1
        have hs1 : ((sI w 127 1 0).1 147 1).toInt = 0 := by rw [(F0 147 1 rfl).1]; exact hs
        have R1 : RoM (sI w 127 1 0) g0 rs0 := rom_k hR (F0 147 12 rfl).1 (F0 147 20 rfl).1 (KR.fr F0 rfl)
        clear N K0 S0
        generalize (sI w 127 1 0) = w1 at *
        have byt1 : ∀ p : Nat, (p : Int) < b.toInt → 1 ≤ (w1.1 128 p).toInt ∧ (w1.1 128 p).toInt ≤ 127 := fun p hp => by
          have t := ok p (by omega) hp
          unfold MTx at t
          rw [if_pos ⟨by omega, hp⟩] at t
          rw [e128]
          exact t
        refine meq_97 (w0 := w1) c1 gb gb4 byt1 (fun w15 f15 s15 t15 => ⟨fun z => absurd c1 z, fun _ => ?_⟩) FU 0 w1 gb (FR.refl _ w1) hs1 (fun p hp => absurd hp (Nat.not_lt_zero _)) (fu_lt (by decide))
        refine mq_read (f := f) (g0 := g0) (rs0 := rs0) gb gb4 s15 (fun p hp => by rw [t15 p hp, e128]; exact hf p hp) (rom_k R1 (f15 147 12 rfl).1 (f15 147 20 rfl).1 (KR.fr f15 rfl)) (fun r w' F' z1 q => ?_)
        have e24 : w'.1 147 24 = w.1 147 24 := ((F' 147 24 rfl).1).trans (((f15 147 24 rfl).1).trans (F0 147 24 rfl).1)
        refine Eq.mpr (q_Mo_end_169.eq_1 _ _ _ _) ⟨fun _ => ?_, fun c2 => by omega⟩
        rcases q with ⟨g, rs, k, R', er, z⟩ | ⟨q, k, qb, er, R', z⟩
        · exact ⟨fun _ => hQ r w' (Or.inr ⟨⟨⟨ft, ok⟩, c1⟩, z1, e24, Or.inl ⟨g, rs, k, R', er, z⟩⟩), fun c => by omega⟩
        · have lo := ti_lo r
          have er2 : -3 - (q : Int) < 0 := by omega
          obtain ⟨kk, hk⟩ := k
          refine ⟨fun c => by omega, fun _ => hQ _ w' (Or.inr ⟨⟨⟨ft, ok⟩, c1⟩, z1, e24, Or.inr ⟨q, ⟨kk, hk⟩, ?_, R', fun j => ?_⟩⟩)⟩
          · rw [ti_sub2 er b_2 (by omega) (by omega)]
            omega
          · have t := z j
            rw [t.1, t.2.1, t.2.2, (f15 160 j rfl).1, (f15 161 j rfl).1, (f15 162 j rfl).1, (F0 160 j rfl).1, (F0 161 j rfl).1, (F0 162 j rfl).1]
            exact ⟨rfl, rfl, rfl⟩
      · have O : ∀ (r : Int32) (w' : MW), FR lme3 (sI w 127 1 0) w' → Q r w' := fun r w' ff => hQ r w' (Or.inl ⟨fun z => c1 z.2, fun k j hk => (sr_fr ff rfl k j hk).trans (S0 k j hk)⟩)
        clear N K0 S0 F0
        generalize (sI w 127 1 0) = w1 at *
        refine mej_97 (w0 := w1) c1 gb4 (fun w15 h15 f15 => ?_) FU 0 w1 h1 (FR.refl _ w1) (by decide) (by decide) (fu_lt (by decide))
        have P15 := h15.1.2.2.2.1
        refine ⟨fun _ => t_read h15.1.1 h15.2.2 h15.2.1 (fun r w' hB hF hV hL _ => ?_), fun z => absurd c1 z⟩
        have P' : PF w' := PF_fr hF rfl P15
        have OO : ∀ w26 : MW, FR lme3 w1 w26 → ((0 ≤ r.toInt → (Q r w26)) ∧ (¬ (0 ≤ r.toInt) → (Q (r - (2 : Int32)) w26))) := fun w26 f26 => ⟨fun _ => O _ _ f26, fun _ => O _ _ f26⟩
        refine Eq.mpr (q_Mo_end_169.eq_1 _ _ _ _) ⟨fun c2 => OO w' (f15.tr hF rfl), fun _ => ⟨fun c => OO w' (f15.tr hF rfl), fun _ => ?_⟩⟩
        have B4 : BND (sI w' 127 59 4) := wbd_127_59 hB (by decide) (by decide)
        have F4 : FR [(127, some 59)] w' (sI w' 127 59 4) := FR.I (FR.refl _ w') rfl
        have G4 : FR lme3 w1 (sI w' 127 59 4) := FR.I (f15.tr hF rfl) rfl
        have P4 : PF (sI w' 127 59 4) := PF_fr F4 rfl P'
        generalize (sI w' 127 59 4) = w4 at *
        exact h_Mo_closeAll B4 P4.2.1 P4.2.2.1 (fun w22 B22 F22 T22 H22 => mej_193 (w0 := w1) (fun w26 f26 => OO w26 f26) FU 0 w22 (G4.tr F22 rfl) (by decide) (by decide) (fu_lt (by decide)))
    · have h2 : MdJ (sI (sI w 127 1 0) 127 22 b) := MdJ_fr (l := [(127, some 22)]) (FR.I (FR.refl _ _) rfl) (wbd_127_22 h1.1.1 gb gb4) rfl h1
      have F2 : FR [(127, some 1), (127, some 22)] w (sI (sI w 127 1 0) 127 22 b) := FR.I (FR.I (FR.refl _ w) rfl) rfl
      have a0 := Classical.not_not.mp ca
      generalize (sI (sI w 127 1 0) 127 22 b) = w2 at *
      exact rm_read h2.1.1 (fun r w' r' ls B' F' k q => hQ r w' (Or.inl ⟨fun z => by have := z.2; omega, fun k j hk => (sr_fr F' rfl k j hk).trans (sr_fr F2 rfl k j hk)⟩))
  exact Eq.mpr (p_Mo_end.eq_1 _ _ _ _) ⟨fun c => K0 (fun z => by have := z.1; omega), fun a0 => ⟨fun c => K0 (fun z => by have := z.2.1; omega), fun a2 => ⟨fun c => K0 (fun z => by have := z.2.2.1; omega), fun b0 => ⟨fun c => K0 (fun z => by have := z.2.2.2.1; omega), fun b4 => ⟨fun c => K0 (fun z => by have := z.2.2.2.2; omega), fun bn => K1 ⟨by omega, by omega, by omega, by omega, by omega⟩⟩⟩⟩⟩⟩
