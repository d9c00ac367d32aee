/-! end of a text that is a program, on both sides -/
theorem ct_prog {w : MW} {Q : Int32 → MW → Prop} (h : CI w) (hg : PrG w) (hQ : ∀ (w' : MW), FR ltN w w' → w'.2.2 61 3 = some 108 → Q (w.1 108 0) w') : p_Bh_takeProgram w Q := by
  have z := h.2.1
  have x := h.2.2.2.2
  refine Eq.mpr (p_Bh_takeProgram.eq_1 _ _) ⟨z.2.2.2.2.2.2.2.1, x.2.2.2.2, k_take8 h.1 hg (fun v B F r3 s4 ly pg => ?_)⟩
  have F1 : FR ltN w (sR v 0 10 (some 62)) := FR.R (FR.tr (FR.refl _ w) F rfl) rfl
  have G1 : FR [(0, some 10)] v (sR v 0 10 (some 62)) := FR.R (FR.refl _ v) rfl
  have B1 : BND (sR v 0 10 (some 62)) := bnd_R B
  generalize (sR v 0 10 (some 62)) = v1 at *
  refine h_Wa_closeAll B1 (PL_fr F1 rfl z.2.2.2.2.2.2.1) (WO_fr (FR.tr (l := [(61, some 3), (61, some 4), (61, some 5), (77, none), (78, none), (79, none), (0, some 10)]) (FR.tr (FR.refl _ w) F rfl) G1 rfl) rfl h.2.2.1) (((F1 7 0 rfl).2.2).trans z.2.2.2.2.2.2.2.2.1) (fun u hB Fu hW => ?_)
  have hF : FR ltN w u := F1.tr Fu rfl
  have H : FR ((0, some 10) :: l_Wa_closeAll) v u := FR.tr (FR.tr (FR.refl _ v) G1 rfl) Fu rfl
  have r61 : u.2.2 61 3 = some 108 := ((H 61 3 rfl).2.2).trans r3
  refine ⟨r61, ?_⟩
  rw [(hF 108 0 rfl).1]
  exact hQ u hF r61
/-- what end answers to a program -/
def EC2 (f : Int → Int) (n : Int) (r : Int32) : Prop := (∃ x : Int32, 0 ≤ x.toInt ∧ PGM f n (false, x.toInt, 0, [], [], []) ∧ r = (-3 : Int32) - x) ∨ (∃ (m : Int) (ns : List Nod) (nm : List Nm) (ks : List Nat), PGM f n (true, 0, m, ns, nm, ks) ∧ r.toInt = m)
def RdP (f : Int → Int) (n : Int) (r : Int32) (w' : MW) : Prop := (0 ≤ r.toInt ∧ PGM f n (false, r.toInt, 0, [], [], [])) ∨ (r.toInt = -1 ∧ ∃ (m : Int) (ns : List Nod) (nm : List Nm) (ks : List Nat), PGM f n (true, 0, m, ns, nm, ks) ∧ (w'.1 108 0).toInt = m)
theorem c2_end58 {d : Nat} {w : MW} {y f s : Int32} {Q : Int32 → MW → Prop} (h : CI w) (hK : KWc w) (hf : ¬ f.toInt = 0 → 0 ≤ y.toInt ∧ y.toInt ≤ 2) (s0 : 0 ≤ s.toInt) (s1 : s.toInt ≤ 4000) (hN : (f.toInt = 0 ∨ ¬ txO (CTx w s.toInt) s.toInt ∨ ¬ y.toInt = 2) → ∀ r w', Q r w') (hY : ¬ f.toInt = 0 → txO (CTx w s.toInt) s.toInt → y.toInt = 2 → ∀ r w', EC2 (CTx w s.toInt) s.toInt r → Q r w') : q2_Bh_end_58 d y f s w Q := by
  have F1 : FR [(1, some 2)] w (sI w 1 2 s) := FR.I (FR.refl _ w) rfl
  have h1 : CI (sI w 1 2 s) := ci_fr (l := [(1, some 2)]) h F1 (wbd_1_2 h.1 s0 s1) rfl
  have K1 : KWc (sI w 1 2 s) := fun i k hk => by rw [(F1 90 i rfl).2.1]; exact hK i k hk
  have en : (sI w 1 2 s).1 1 2 = s := sI_same _ _ _ _
  have ec : cf (sI w 1 2 s) = CTx w s.toInt := by
    funext p
    unfold cf CTx
    rw [sI_same, sI_oth _ _ _ _ _ _ (by decide)]
  refine Eq.mpr (q2_Bh_end_58.eq_1 _ _ _ _ _ _) ?_
  generalize (sI w 1 2 s) = w1 at *
  refine ⟨fun c => hN (Or.inl c) _ w1, fun c => it_x h1.1 (fun ok => ?_) (fun no => ⟨fun q => absurd i_0 q, fun _ => hN (Or.inr (Or.inl (by rw [ec, en] at no; exact no))) _ w1⟩)⟩
  rw [ec, en] at ok
  have yy := hf c
  have x := h1.2.2.2.2
  refine ⟨fun _ => ⟨fun c0 => ⟨fun c1 => ⟨x.2.2.2.2, ?_⟩, fun c1 => ⟨x.2.2.2.1, ci_readQ h1 (fun r3 w3 h3 F3 => ?_)⟩⟩, fun c0 => ⟨x.2.2.1, ci_readP h1 (fun r3 w3 h3 F3 hp => ?_)⟩⟩, fun q => absurd (show ¬ (1 : Int32).toInt = 0 by decide) q⟩
  · have y2 : y.toInt = 2 := by omega
    refine tc_mono (ri_and (dm_Rd_read_1_108 (d := d + 0) (w := w1) (Q := RdP (CTx w s.toInt) s.toInt) (c_read h1.1 K1 ec (by rw [en]) s0 (fun y w' e a b e0 => Or.inl ⟨by omega, by rw [b]; exact a⟩) (fun y w' m ns nm ks a b e0 m0 _ _ => Or.inr ⟨b, m, ns, nm, ks, a, e0⟩))) (dm_Rd_read_1_108 (d := d + 0) (w := w1) (Q := fun r w' => CI w' ∧ (r.toInt < 0 → PrG w')) (ci_readN h1 (fun r w' a b e => ⟨a, e⟩)))) (fun v w9 hv => ?_)
    obtain ⟨r9, ev, hp, hc, hg⟩ := hv
    refine ⟨r9, ev, Eq.mpr (q_Bh_end_129.eq_1 _ _ _ _) ⟨fun n9 => ⟨fun _ => ⟨fun _ => ?_, fun z => absurd c1 z⟩, fun z => absurd c0 z⟩, fun n9 => ?_⟩⟩
    · rcases hp with ⟨p0, _⟩ | ⟨e9, m, ns, nm, ks, pg, e0⟩
      · omega
      · exact ct_prog hc (hg n9) (fun w' _ _ => hY c ok y2 _ w' (Or.inr ⟨m, ns, nm, ks, pg, e0⟩))
    · rcases hp with ⟨p0, pg⟩ | ⟨e9, _⟩
      · exact hY c ok y2 _ w9 (Or.inl ⟨r9, p0, pg, rfl⟩)
      · omega
  · have y1 := Classical.not_not.mp c1
    exact ci_end129 (w0 := w3) h3 (FR.refl _ w3) yy.1 yy.2 (fun q => absurd q c0) (fun q => by omega) (fun r w' _ _ => hN (Or.inr (Or.inr (by omega))) r w')
  · have y0 := Classical.not_not.mp c0
    exact ci_end129 (w0 := w3) h3 (FR.refl _ w3) yy.1 yy.2 (fun _ q => hp q) (fun q => by omega) (fun r w' _ _ => hN (Or.inr (Or.inr (by omega))) r w')
theorem c2_end {d : Nat} {w : MW} {a b : Int32} {Q : Int32 → MW → Prop} (h : CI w) (hK : KWc w) (hQ : ∀ r w', (((fitE (w.1 1 1).toInt a b ∧ txO (CTx w b.toInt) b.toInt) ∧ a.toInt = 2) → EC2 (CTx w b.toInt) b.toInt r) → Q r w') : p2_Bh_end d w a b Q := by
  have F0 : FR [(1, some 1)] w (sI w 1 1 0) := FR.I (FR.refl _ w) rfl
  have h1 : CI (sI w 1 1 0) := ci_fr (l := [(1, some 1)]) h F0 (wbd_1_1 h.1 (by decide) (by decide)) rfl
  have K1 : KWc (sI w 1 1 0) := fun i k hk => by rw [(F0 90 i rfl).2.1]; exact hK i k hk
  have eT : ∀ n, CTx (sI w 1 1 0) n = CTx w n := fun n => rfl
  have no : ¬ fitE (w.1 1 1).toInt a b → q2_Bh_end_36 d a b 0 w Q := fun nf => Eq.mpr (q2_Bh_end_36.eq_1 _ _ _ _ _ _) ⟨fun _ => c2_end58 h1 K1 (fun q => absurd i_0 q) (by decide) (by decide) (fun _ r w' => hQ _ w' (fun z => absurd z.1.1 nf)) (fun q => absurd i_0 q), fun q => absurd i_0 q⟩
  refine Eq.mpr (p2_Bh_end.eq_1 _ _ _ _ _) ⟨fun c => no (fun z => ?_), fun a0 => ⟨fun c => no (fun z => ?_), fun a2 => ⟨fun c => no (fun z => ?_), fun b0 => ⟨fun c => no (fun z => ?_), fun b4 => ⟨fun c => no (fun z => ?_), fun bn => ?_⟩⟩⟩⟩⟩
  · have := z.1
    omega
  · have := z.2.1
    omega
  · have := z.2.2.1
    omega
  · have := z.2.2.2.1
    omega
  · have := z.2.2.2.2
    omega
  · refine Eq.mpr (q2_Bh_end_36.eq_1 _ _ _ _ _ _) ⟨fun q => absurd q (by decide), fun _ => c2_end58 h1 K1 (fun _ => ⟨by omega, by omega⟩) (by omega) (by omega) (fun q r w' => ?_) (fun _ ok ya r w' q => ?_)⟩
    · rw [eT] at q
      refine hQ _ w' (fun z => ?_)
      rcases q with q | q | q
      · exact absurd q (by decide)
      · exact absurd z.1.2 q
      · exact absurd z.2 q
    · rw [eT] at ok q
      exact hQ r w' (fun _ => q)
/-- the reference -/
def ltu : Pl := [(129, some 1), (130, none)]
theorem mep_97 {a b : Int32} {E : MW → Prop} {Q : Int32 → MW → Prop} (ha : ¬ a.toInt = 1) (b0 : 0 ≤ b.toInt) (b4 : b.toInt ≤ 4000) {w0 : MW} (hb : ∀ p : Nat, (p : Int) < b.toInt → 1 ≤ (w0.1 128 p).toInt ∧ (w0.1 128 p).toInt ≤ 127) (hE : ∀ w', MdJ w' → FR ltu w0 w' → (w'.1 129 1).toInt = b.toInt → (∀ p : Nat, (p : Int) < b.toInt → (w'.1 130 p).toInt = (w0.1 128 p).toInt) → E w') (n : Nat) : ∀ (k : Nat) (w : MW), (k : Int) ≤ b.toInt → MdJ w → FR ltu w0 w → (w.1 129 1).toInt = (k : Int) → (∀ p : Nat, p < k → (w.1 130 p).toInt = (w0.1 128 p).toInt) → 4001 - k < n → q_Mo_end_97 a b E Q n (nI k) w := by
  induction n with
  | zero => intros; omega
  | succ n ih =>
    intro k w hk hM hw hs hp hm
    have tk : (nI k).toInt = (k : Int) := nI_toInt (by omega)
    have tn : (nI k).toInt.toNat = k := by omega
    rw [q_Mo_end_97.eq_2]
    refine ⟨fun c => hE w hM hw (by omega) (fun p hp' => hp p (by omega)), fun c => ⟨fun _ => ⟨⟨by omega, by omega⟩, ?_⟩, fun z => absurd ha z⟩⟩
    rw [tn, nI_1]
    have e8 : w.1 128 k = w0.1 128 k := (hw 128 k rfl).1
    have bk := hb k (by omega)
    rw [e8]
    have sz : (w.1 129 1).toInt.toNat = k := by omega
    refine Eq.mpr (p_Tx_unit.eq_1 _ _ _) ⟨fun z => by omega, fun _ => ⟨fun z => by omega, fun _ => ⟨fun _ => ⟨⟨by omega, by omega⟩, ?_⟩, fun z => absurd (show ¬ (w.1 129 1).toInt = 4020 by omega) z⟩⟩⟩
    rw [sz]
    have s1 := ti_add2 hs i_1 (by omega) (by omega)
    have nbx := nby (x := w0.1 128 k) (by omega) (by omega)
    have F' : FR ltu w (sI (sI w 130 k (vp_nar .byte ((Int32.toInt8 (w0.1 128 k)).toInt32))) 129 1 ((w.1 129 1) + (1 : Int32))) := FR.I (FR.I (FR.refl _ w) rfl) rfl
    refine ih (k + 1) _ (by omega) (MdJ_fr F' (wbd_129_1 (wbd_130 hM.1.1 _ (by omega) (by omega)) (by omega) (by omega)) rfl hM) (hw.tr F' rfl) (by rw [sI_same, s1]; omega) (fun p hp' => ?_) (by omega)
    rw [sI_oth _ _ _ _ _ _ (by decide)]
    by_cases q : p = k
    · rw [q, sI_same]
      exact nbx
    · rw [sI_ne _ _ _ _ _ q]
      exact hp p (by omega)
theorem me1_97 {a b : Int32} {E : MW → Prop} {Q : Int32 → MW → Prop} (ha : a.toInt = 1) (hb : b.toInt ≤ 4000) {w0 : MW} (hE : ∀ w', MdJ w' → FR l_Mr_unit w0 w' → E w') (n : Nat) : ∀ (k : Int32) (w : MW), MdJ w → FR l_Mr_unit w0 w → 0 ≤ k.toInt → k.toInt ≤ 4000 → (4000 - k.toInt).toNat < n → q_Mo_end_97 a b E Q n k w := by
  induction n with
  | zero => intros; omega
  | succ n ih =>
    intro k w h hw k0 k1 hm
    rw [q_Mo_end_97.eq_2]
    refine ⟨fun _ => hE w h hw, fun c => ?_⟩
    have s1 := ti_add2 (Eq.refl k.toInt) i_1 (by omega) (by omega)
    have b128 := bd_128 h.1.1 k.toInt.toNat
    exact ⟨fun z => absurd ha z, fun _ => ⟨⟨by omega, by omega⟩, h_Mr_unit h.1.1 b128.1 b128.2 (fun r w' h' f' _ _ => ih _ _ (MdJ_fr f' h' rfl h) (hw.tr f' rfl) (by omega) (by omega) (by omega))⟩⟩
theorem mec_193 {z : Int32} {E : MW → Prop} {Q : Int32 → MW → Prop} {w0 : MW} (hE : ∀ w', FR [(201, none), (206, none)] w0 w' → E w') (n : Nat) : ∀ (k : Int32) (w : MW), FR [(201, none), (206, none)] w0 w → 0 ≤ k.toInt → k.toInt ≤ 40 → (40 - k.toInt).toNat < n → q_Mo_end_193 z E Q n k w := by
  induction n with
  | zero => intros; omega
  | succ n ih =>
    intro k w hw k0 k1 hm
    rw [q_Mo_end_193.eq_2]
    refine ⟨fun _ => hE w hw, fun c => ?_⟩
    have s1 := ti_add2 (Eq.refl k.toInt) i_1 (by omega) (by omega)
    exact ⟨⟨by omega, by omega⟩, ⟨by omega, by omega⟩, ih _ _ (FR.J (FR.I hw rfl) rfl) (by omega) (by omega) (by omega)⟩
def EM2 (f : Int → Int) (n : Int) (r : Int32) : Prop := (∃ x : Int32, PGM f n (false, x.toInt, 0, [], [], []) ∧ (0 ≤ x.toInt → r = ((-1 : Int32) - x) - (2 : Int32))) ∨ (∃ (m : Int) (ns : List Nod) (nm : List Nm) (ks : List Nat), PGM f n (true, 0, m, ns, nm, ks) ∧ r.toInt = m)
theorem m2_end {d : Nat} {w : MW} {a b : Int32} {f : Int → Int} {Q : Int32 → MW → Prop} (h : MdJ w) (hs : (w.1 129 1).toInt = 0) (hf : (fitE (w.1 127 1).toInt a b ∧ txO (MTx w b.toInt) b.toInt) → (∀ p : Nat, (p : Int) < b.toInt → (w.1 128 p).toInt = f p) ∧ ∀ p : Int, ¬ (0 ≤ p ∧ p < b.toInt) → f p = -1) (hQ : ∀ r w', (w'.1 129 1).toInt = 0 → (((fitE (w.1 127 1).toInt a b ∧ txO (MTx w b.toInt) b.toInt) ∧ a.toInt = 2) → EM2 f b.toInt r) → Q r w') : p2_Mo_end d w a b Q := by
  have F0 : FR [(127, some 1)] w (sI w 127 1 0) := FR.I (FR.refl _ w) rfl
  have h1 : MdJ (sI w 127 1 0) := MdJ_fr (l := [(127, some 1)]) F0 (wbd_127_1 h.1.1 (by decide) (by decide)) rfl h
  have hs1 : ((sI w 127 1 0).1 129 1).toInt = 0 := by rw [(F0 129 1 rfl).1]; exact hs
  have N : ¬ ((fitE (w.1 127 1).toInt a b ∧ txO (MTx w b.toInt) b.toInt) ∧ a.toInt = 2) → ∀ r w', (w'.1 129 1).toInt = 0 → Q r w' := fun k r w' z1 => hQ r w' z1 (fun z => absurd z k)
  have K0 : ¬ fitE (w.1 127 1).toInt a b → q2_Mo_end_33 d a b 0 w Q := fun k => Eq.mpr (q2_Mo_end_33.eq_1 _ _ _ _ _ _) (z37 99999999999999999999 _ ⟨fun c => absurd i_0 c, fun _ => N (fun z => k z.1.1) _ _ hs1⟩)
  have K1 : fitE (w.1 127 1).toInt a b → q2_Mo_end_33 d a b 1 w Q := fun ft => by
    have g0' := ft.1
    have g2 := ft.2.1
    have gb := ft.2.2.1
    have gb4 := ft.2.2.2.1
    refine Eq.mpr (q2_Mo_end_33.eq_1 _ _ _ _ _ _) (mx_37 h.1.1 ft.2.2.2.1 (fun ok => ⟨fun _ => ⟨fun ca => ?_, fun ca => ?_⟩, fun c => absurd (show ¬ (1 : Int32).toInt = 0 by decide) c⟩) (fun no => ⟨fun c => absurd i_0 c, fun _ => N (fun z => no z.1.2) _ _ hs1⟩) FU 0 (by omega) (fun p p0 p1 => by omega) (fu_lt (by decide)))
    · have e128 : ∀ j, (sI w 127 1 0).1 128 j = w.1 128 j := fun j => (F0 128 j rfl).1
      clear K0 F0
      generalize (sI w 127 1 0) = w1 at *
      by_cases c1 : a.toInt = 1
      · refine me1_97 (w0 := w1) c1 gb4 (fun w15 h15 f15 => ⟨fun z => absurd c1 z, fun _ => ?_⟩) FU 0 w1 h1 (FR.refl _ w1) (by decide) (by decide) (fu_lt (by decide))
        refine h_Mr_read h15.1.1 h15.1.2.2.2.1.1 (fun r w' hB hF hD _ _ => ?_)
        have e1 : (w'.1 129 1).toInt = 0 := by rw [(hF 129 1 rfl).1, (f15 129 1 rfl).1]; exact hs1
        exact Eq.mpr (q_Mo_end_169.eq_1 _ _ _ _) ⟨fun _ => ⟨fun _ => N (fun z => by have := z.2; omega) _ _ e1, fun _ => N (fun z => by have := z.2; omega) _ _ e1⟩, fun c2 => by omega⟩
      · have a2 : a.toInt = 2 := by omega
        have byt1 : ∀ p : Nat, (p : Int) < b.toInt → 1 ≤ (w1.1 128 p).toInt ∧ (w1.1 128 p).toInt ≤ 127 := fun p hp => by
          have t := ok p (by omega) hp
          unfold MTx at t
          rw [if_pos ⟨by omega, hp⟩] at t
          rw [e128]
          exact t
        have ff := hf ⟨ft, ok⟩
        refine mep_97 (w0 := w1) c1 gb gb4 byt1 (fun w15 h15 f15 s15 t15 => ⟨fun _ => ?_, fun z => absurd c1 z⟩) FU 0 w1 gb h1 (FR.refl _ w1) hs1 (fun p hp => absurd hp (Nat.not_lt_zero _)) (fu_lt (by decide))
        have T15 : TXm w15 f b.toInt := ⟨s15, gb4, fun p hp => by rw [t15 p hp, e128]; exact ff.1 p hp, ff.2⟩
        have P15 := h15.1.2.2.2.1
        refine tc_mono (ri_and (dm_Tx_read (d := d + 0) (w := w15) (Q := YRd f b.toInt) (y_read h15.1.1 T15 gb (fun r w' q => q))) (dm_Tx_read (d := d + 0) (w := w15) (Q := fun r w' => BND w' ∧ PF w') (t_read h15.1.1 h15.2.2 h15.2.1 (fun r w' hB hF hV hL _ => ⟨hB, PF_fr hF rfl P15⟩)))) (fun v w17 hv => ?_)
        obtain ⟨r, ev, ⟨z17, yr⟩, hB, P'⟩ := hv
        have z17' : (w17.1 129 1).toInt = 0 := by rw [z17]; exact i_0
        refine ⟨r, ev, Eq.mpr (q_Mo_end_169.eq_1 _ _ _ _) ⟨fun c2 => absurd a2 c2, fun _ => ⟨fun c => ⟨fun z => by omega, fun _ => hQ _ _ z17' (fun _ => ?_)⟩, fun c => ?_⟩⟩⟩
        · rcases yr with ⟨x, pg, er⟩ | ⟨m, _, _, _, _, _, er, m0, _⟩
          · exact Or.inl ⟨x, pg, fun _ => by rw [er]⟩
          · omega
        · have e2 : EM2 f b.toInt r := by
            rcases yr with ⟨x, pg, er⟩ | ⟨m, ns, nm, ks, ts, pg, er, _⟩
            · refine Or.inl ⟨x, pg, fun x0 => ?_⟩
              have hi := ti_hi x
              have s := ti_sub2 (by decide : ((-1 : Int32)).toInt = -1) (Eq.refl x.toInt) (by omega) (by omega)
              rw [er] at c
              omega
            · exact Or.inr ⟨m, ns, nm, ks, pg, er⟩
          have B4 : BND (sI w17 127 59 4) := wbd_127_59 hB (by decide) (by decide)
          have F4 : FR [(127, some 59)] w17 (sI w17 127 59 4) := FR.I (FR.refl _ w17) rfl
          have P4 : PF (sI w17 127 59 4) := PF_fr F4 rfl P'
          generalize (sI w17 127 59 4) = w4 at *
          refine h_Mo_closeAll B4 P4.2.1 P4.2.2.1 (fun w22 B22 F22 T22 H22 => mec_193 (w0 := w22) (fun w26 f26 => ?_) FU 0 w22 (FR.refl _ w22) (by decide) (by decide) (fu_lt (by decide)))
          have e1 : (w26.1 129 1).toInt = 0 := by rw [(f26 129 1 rfl).1, (F22 129 1 rfl).1, (F4 129 1 rfl).1]; exact z17'
          exact ⟨fun _ => hQ _ _ e1 (fun _ => e2), fun z => absurd (show 0 ≤ r.toInt by omega) z⟩
    · have h2 : MdJ (sI (sI w 127 1 0) 127 22 b) := MdJ_fr (l := [(127, some 22)]) (FR.I (FR.refl _ _) rfl) (wbd_127_22 h1.1.1 gb gb4) rfl h1
      have F2 : FR [(127, some 1), (127, some 22)] w (sI (sI w 127 1 0) 127 22 b) := FR.I (FR.I (FR.refl _ w) rfl) rfl
      have a0 := Classical.not_not.mp ca
      generalize (sI (sI w 127 1 0) 127 22 b) = w2 at *
      exact rm_read h2.1.1 (fun r w' r' ls B' F' k q => N (fun z => by have := z.2; omega) r w' (by rw [(F' 129 1 rfl).1, (F2 129 1 rfl).1]; exact hs))
  exact Eq.mpr (p2_Mo_end.eq_1 _ _ _ _ _) ⟨fun c => K0 (fun z => by have := z.1; omega), fun a0 => ⟨fun c => K0 (fun z => by have := z.2.1; omega), fun a2 => ⟨fun c => K0 (fun z => by have := z.2.2.1; omega), fun b0 => ⟨fun c => K0 (fun z => by have := z.2.2.2.1; omega), fun b4 => ⟨fun c => K0 (fun z => by have := z.2.2.2.2; omega), fun bn => K1 ⟨by omega, by omega, by omega, by omega, by omega⟩⟩⟩⟩⟩⟩
