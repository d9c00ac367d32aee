/-! the class's reader: expressions -/
def PlN (w : MW) (m : Int) : Prop := (yK w m = 30 ∨ yK w m = 31 ∨ yK w m = 34 ∨ 42 ≤ yK w m) ∧ (yK w m = 30 → 0 ≤ yA w m ∧ yA w m ≤ 39) ∧ yF w m = m ∧ yT w m = m ∧ yI w m = -1 ∧ yX w m = -1 ∧ yS w m = 1 ∧ yD w m = 0
theorem PlN.sn {w w' : MW} {m : Int} (h : PlN w m) (s : SN m w w') : PlN w' m := by
  unfold PlN
  rw [s.1, s.2.1, s.2.2.1, s.2.2.2.1, s.2.2.2.2.1, s.2.2.2.2.2.1, s.2.2.2.2.2.2.1, s.2.2.2.2.2.2.2]
  exact h
/-- expressions were read: plain nodes more -/
def GBc (w w' : MW) : Prop := wr w' < 0 → wr w < 0 ∧ ndC w ≤ ndC w' ∧ NS (ndC w) w w' ∧ ∀ m, ndC w ≤ m → m < ndC w' → PlN w' m
def GB (w w' : MW) : Prop := RW w' ∧ FR lcr w w' ∧ WM w w' ∧ GBc w w'
def GE (w w' : MW) : Prop := GB w w' ∧ w'.1 87 8 = w.1 87 8
theorem nd_0 {w : MW} (h : RW w) : 0 ≤ ndC w := (bd_108_1 h.1).1
theorem GB.refl {w : MW} (h : RW w) : GB w w := ⟨h, FR.refl _ w, fun c => c, fun c => ⟨c, Int.le_refl _, NS.refl _ w, fun m a b => by omega⟩⟩
theorem GB.tr {w w1 w2 : MW} (hw : RW w) (h : GB w w1) (h2 : GB w1 w2) : GB w w2 := by
  refine ⟨h2.1, h.2.1.tr h2.2.1 rfl, h.2.2.1.tr h2.2.2.1, fun c => ?_⟩
  have q := h2.2.2.2 c
  have p := h.2.2.2 q.1
  have n0 := nd_0 hw
  refine ⟨p.1, by omega, p.2.2.1.tr q.2.2.1 p.2.1, fun m a b => ?_⟩
  by_cases d : m < ndC w1
  · exact (p.2.2.2 m a d).sn (q.2.2.1 m (by omega) d)
  · exact q.2.2.2 m (by omega) b
theorem GE.refl {w : MW} (h : RW w) : GE w w := ⟨GB.refl h, rfl⟩
theorem GE.tr {w w1 w2 : MW} (hw : RW w) (h : GE w w1) (h2 : GE w1 w2) : GE w w2 := ⟨GB.tr hw h.1 h2.1, h2.2.trans h.2⟩
theorem TkS.gb {w w' : MW} (h : TkS w w') : GB w w' := ⟨h.1, (FR.refl lcr w).tr h.2.1 rfl, h.2.2, fun c => ⟨by
  by_cases d : wr w < 0
  · exact d
  · have := h.2.2 (by unfold wr at d; omega)
    unfold wr at c
    omega, by rw [h.nd]; exact Int.le_refl _, fun j _ _ => h.sn j, fun m a b => by rw [h.nd] at b; omega⟩⟩
theorem TkS.ge {w w' : MW} (h : TkS w w') : GE w w' := ⟨h.gb, (h.2.1 87 8 rfl).1⟩
/-- a plain node more -/
theorem k_plain {w : MW} {a b : Int32} {Q : Int32 → MW → Prop} (h : RW w) (ha : a.toInt = 30 ∨ a.toInt = 31 ∨ a.toInt = 34 ∨ 42 ≤ a.toInt) (hb : a.toInt = 30 → 0 ≤ b.toInt ∧ b.toInt ≤ 39) (hQ : ∀ (r : Int32) (w' : MW), GE w w' → 0 ≤ r.toInt → r.toInt ≤ 300 → Q r w') : p_Rd_makeNode w a b Q := by
  have n0 := nd_0 h
  refine k_node h (fun r w' hD r0 r1 hc => hQ r w' ⟨⟨hD.1, hD.2.1, hD.2.2.1, fun c => ?_⟩, hD.2.2.2⟩ r0 r1)
  have q := hc c
  have N := q.2.2.2.2.2
  refine ⟨q.1, by omega, fun j j0 j1 => q.2.2.2.2.1 j j0 (by omega), fun m m0 m1 => ?_⟩
  have e : m = r.toInt := by omega
  rw [e]
  unfold PlN
  rw [N.1, N.2.1]
  exact ⟨ha, hb, N.2.2⟩
theorem k_join {w : MW} {op wh l r : Int32} {Q : Int32 → MW → Prop} (h : RW w) (ho : 42 ≤ op.toInt) (hw : 0 ≤ wh.toInt) (hQ : ∀ (r : Int32) (w' : MW), GE w w' → Q r w') : p_Rd_join w op wh l r Q := by
  have K : ∀ y u : Int32, q_Rd_join_94 op wh y u w Q := fun y u => Eq.mpr (q_Rd_join_94.eq_1 _ _ _ _ _ _) ⟨fun _ => k_plain h (Or.inr (Or.inr (Or.inr ho))) (fun q => by omega) (fun r w' g _ _ => hQ _ w' g), fun _ => hQ _ _ (by
    have hF : FR [(87, some 9)] w (sI w 87 9 wh) := FR.I (FR.refl _ w) rfl
    have e : wr (sI w 87 9 wh) = wh.toInt := rfl
    refine ⟨⟨h.fr (wbd_87_9 h.1) hF h.2.2.2 rfl, (FR.refl lcr w).tr hF rfl, fun _ => hw, fun c => ?_⟩, rfl⟩
    rw [e] at c
    omega)⟩
  have M : ∀ (a b y : Int32), p_Ma_max w a b (fun r13 w13 => (q_Rd_join_94 op wh y r13 w13 Q)) := fun a b y => Eq.mpr (p_Ma_max.eq_1 _ _ _ _) ⟨fun _ => K _ _, fun _ => K _ _⟩
  have L : ∀ y : Int32, q_Rd_join_20 op wh l r y w Q := fun y => Eq.mpr (q_Rd_join_20.eq_1 _ _ _ _ _ _ _) ⟨fun _ => ⟨fun _ => K _ _, fun _ => ⟨fun _ => ⟨fun _ => K _ _, fun _ => K _ _⟩, fun _ => ⟨fun _ => K _ _, fun _ => K _ _⟩⟩⟩, fun _ => ⟨fun _ => M _ _ _, fun _ => ⟨fun _ => M _ _ _, fun _ => M _ _ _⟩⟩⟩
  exact Eq.mpr (p_Rd_join.eq_1 _ _ _ _ _ _) ⟨fun _ => ⟨fun _ => L _, fun _ => L _⟩, fun _ => hQ _ w (GE.refl h)⟩
def RcG (o : Int) (F : MW → (Int32 → MW → Prop) → Prop) : Prop := ∀ (w : MW) (Q : Int32 → MW → Prop), RW w → (w.1 87 8).toInt = o → (∀ r w', GE w w' → Q r w') → F w Q
theorem k_open {w : MW} {v : Int32} (h : RW w) (v0 : 0 ≤ v.toInt) (v1 : v.toInt ≤ 20) : GB w (sI w 87 8 v) := by
  have hF : FR [(87, some 8)] w (sI w 87 8 v) := FR.I (FR.refl _ w) rfl
  have R : RW (sI w 87 8 v) := h.fr (wbd_87_8 h.1 v0 v1) hF h.2.2.2 rfl
  exact ⟨R, (FR.refl lcr w).tr hF rfl, WM.fr hF rfl, fun c => ⟨c, Int.le_refl _, fun j _ _ => sn_off hF rfl j, fun m a b => by
    have e : ndC (sI w 87 8 v) = ndC w := rfl
    rw [e] at b
    omega⟩⟩
theorem k_284 {F : MW → (Int32 → MW → Prop) → Prop} {L : MW → Int32 → (Int32 → MW → Prop) → Prop} {w w1 : MW} {st u : Int32} {Q : Int32 → MW → Prop} (hw : RW w) (g : GB w w1) (ho : w1.1 87 8 = w.1 87 8 + 1) (o1 : (w.1 87 8).toInt < 20) (hQ : ∀ r w', GE w w' → Q r w') : q_Rd_readFactor_284 F L st u w1 Q := by
  have b8 := bd_87_8 hw.1
  have E : ∀ w2 : MW, GE w1 w2 → Q u (sI w2 87 8 ((w2.1 87 8) - (1 : Int32))) := fun w2 g2 => by
    have e : w2.1 87 8 - (1 : Int32) = w.1 87 8 := i_back (g2.2.trans ho) b8.1 b8.2
    rw [e]
    have z := k_open (v := w.1 87 8) g2.1.1 b8.1 b8.2
    exact hQ _ _ ⟨GB.tr hw (GB.tr hw g g2.1) z, sI_same _ _ _ _⟩
  exact Eq.mpr (q_Rd_readFactor_284.eq_1 _ _ _ _ _ _) ⟨fun _ => ⟨fun _ => k_fail g.1 (fun w2 t _ => E w2 t.ge), fun _ => k_next g.1 (fun w2 t => E w2 t.ge)⟩, fun _ => k_plain g.1 (by decide) (fun q => absurd q (by decide)) (fun r w2 g2 _ _ => E w2 g2)⟩
theorem k_num {w w1 : MW} {r : Int32} {v : Int64} (h : GE w w1) : GE w (sJ w1 115 r.toInt.toNat v) := by
  have hF : FR [(115, none)] w1 (sJ w1 115 r.toInt.toNat v) := FR.J (FR.refl _ w1) rfl
  exact ⟨⟨h.1.1.fr (bnd_J h.1.1.1) hF h.1.1.2.2.2 rfl, h.1.2.1.tr hF rfl, h.1.2.2.1, h.1.2.2.2⟩, h.2⟩
theorem x_rf {F : MW → (Int32 → MW → Prop) → Prop} {L : MW → Int32 → (Int32 → MW → Prop) → Prop} {w : MW} {Q : Int32 → MW → Prop} (h : RW w) (hF : (w.1 87 8).toInt < 20 → RcG ((w.1 87 8).toInt + 1) F) (hL : (w.1 87 8).toInt < 20 → RcG ((w.1 87 8).toInt + 1) (fun w Q => L w 1 Q)) (hQ : ∀ r w', GE w w' → Q r w') : pb_Rd_readFactor F L w Q := by
  have b8 := bd_87_8 h.1
  have b10 := bd_108_10 h.1
  have K201 : ∀ (w1 : MW) (v : Int64) (u : Int32), TkS w w1 → q_Rd_readFactor_201 F L v u w1 Q := fun w1 v u t => Eq.mpr (q_Rd_readFactor_201.eq_1 _ _ _ _ _ _) ⟨fun _ => ⟨t.1.2.2.1, k_plain t.1 (by decide) (fun q => absurd q (by decide)) (fun r w2 g r0 r1 => ⟨⟨r0, by omega⟩, hQ _ _ (k_num (GE.tr h t.ge g))⟩)⟩, fun _ => k_next t.1 (fun w2 t2 => ⟨t2.1.2.2.1, k_plain t2.1 (by decide) (fun q => absurd q (by decide)) (fun r w3 g r0 r1 => ⟨⟨r0, by omega⟩, hQ _ _ (k_num (GE.tr h (t.tr t2).ge g))⟩)⟩)⟩
  have K137 : ∀ (w1 : MW) (a b : Int64), TkS w w1 → q_Rd_readFactor_137 F L a b w1 Q := fun w1 a b t => Eq.mpr (q_Rd_readFactor_137.eq_1 _ _ _ _ _ _) ⟨fun _ => ⟨fun _ => K201 _ _ _ t, fun _ => ⟨fun _ => ⟨fun _ => K201 _ _ _ t, fun _ => ⟨fun _ => K201 _ _ _ t, fun _ => K201 _ _ _ t⟩⟩, fun _ => K201 _ _ _ t⟩⟩, fun _ => k_fail t.1 (fun w2 t2 _ => hQ _ w2 (t.tr t2).ge)⟩
  have K88 : ∀ (st nm : Int32), (st.toInt = 31 ∨ (st.toInt = 30 ∧ 0 ≤ nm.toInt ∧ nm.toInt ≤ 39) ∨ (¬ st.toInt = 30 ∧ (w.1 87 8).toInt < 20)) → q_Rd_readFactor_88 F L st nm w Q := fun st nm hs => by
    refine Eq.mpr (q_Rd_readFactor_88.eq_1 _ _ _ _ _ _) (k_next h (fun w7 t7 => ⟨fun c31 => ⟨fun c30 => ?_, fun c30 => k_plain t7.1 (by decide) (fun _ => ⟨by omega, by omega⟩) (fun r w2 g _ _ => ⟨g.1.1.2.2.1, ⟨by omega, by omega⟩, hQ _ _ (GE.tr h t7.ge g)⟩)⟩, fun _ => ⟨fun _ => ⟨fun _ => K137 _ _ _ t7, fun _ => K137 _ _ _ t7⟩, fun _ => K137 _ _ _ t7⟩⟩))
    have o1 : (w.1 87 8).toInt < 20 := by omega
    have e7 : w7.1 87 8 = w.1 87 8 := (t7.2.1 87 8 rfl).1
    rw [e7]
    have s := ti_add2 (Eq.refl (w.1 87 8).toInt) i_1 (by omega) (by omega)
    have z := k_open (v := (w.1 87 8) + (1 : Int32)) t7.1 (by omega) (by omega)
    have e8 : (sI w7 87 8 ((w.1 87 8) + (1 : Int32))).1 87 8 = w.1 87 8 + 1 := sI_same _ _ _ _
    generalize (sI w7 87 8 ((w.1 87 8) + (1 : Int32))) = w8 at *
    have o8 : (w8.1 87 8).toInt = (w.1 87 8).toInt + 1 := by rw [e8]; exact s
    have T : ∀ (r : Int32) (w9 : MW), GE w8 w9 → q_Rd_readFactor_284 F L st r w9 Q := fun r w9 g9 => k_284 h (GB.tr h (GB.tr h t7.gb z) g9.1) (g9.2.trans e8) o1 hQ
    exact ⟨fun _ => hL o1 w8 _ z.1 o8 T, fun _ => hF o1 w8 _ z.1 o8 T⟩
  have K53 : ∀ (st nm y : Int32), (¬ y.toInt = 0 → ¬ st.toInt = 30 ∧ (w.1 87 8).toInt < 20) → (nm.toInt < 0 ∨ st.toInt = 30) → q_Rd_readFactor_53 F L st nm y w Q := fun st nm y hy hn => by
    have N : p_Rd_fail w (fun w5 => (Q 0 w5)) := k_fail h (fun w5 t _ => hQ _ w5 t.ge)
    refine Eq.mpr (q_Rd_readFactor_53.eq_1 _ _ _ _ _ _ _) ⟨fun _ => N, fun _ => ⟨fun c => K88 st nm (Or.inl c), fun _ => ⟨fun c => K88 st nm (Or.inr (Or.inr (hy c))), fun _ => ⟨h.2.2.1, ?_⟩⟩⟩⟩
    have Z : ((¬ (0 : Int32).toInt = 0 → (q_Rd_readFactor_88 F L st nm w Q)) ∧ (¬ (¬ (0 : Int32).toInt = 0) → (p_Rd_fail w  (fun w41 => (Q 0 w41))))) := ⟨fun c => absurd i_0 c, fun _ => N⟩
    exact Eq.mpr (p_Pr_hasValues108.eq_1 _ _ _) ⟨fun _ => Z, fun a => ⟨fun _ => Z, fun b => ⟨⟨by omega, by omega⟩, fun _ => Z, fun _ => ⟨fun _ => K88 st nm (Or.inr (Or.inl ⟨by omega, by omega, by omega⟩)), fun c => absurd (by decide) c⟩⟩⟩⟩
  have K26 : ∀ (st nm : Int32), (nm.toInt < 0 ∨ st.toInt = 30) → q_Rd_readFactor_26 F L st nm w Q := fun st nm hn => Eq.mpr (q_Rd_readFactor_26.eq_1 _ _ _ _ _ _) ⟨fun c => ⟨fun _ => K53 st nm 0 (fun q => absurd i_0 q) hn, fun d => K53 st nm 1 (fun _ => ⟨by omega, by omega⟩) hn⟩, fun _ => ⟨fun _ => K53 st nm 0 (fun q => absurd i_0 q) hn, fun c => ⟨fun _ => K53 st nm 0 (fun q => absurd i_0 q) hn, fun d => K53 st nm 1 (fun _ => ⟨by omega, by omega⟩) hn⟩⟩⟩
  refine Eq.mpr (pb_Rd_readFactor.eq_1 _ _ _ _) ⟨fun _ => K26 _ _ (Or.inl (by decide)), fun c => ⟨h.2.2.1, k_find h.1 (K26 _ _ (Or.inl (by decide))) (fun r r0 r1 => K26 _ r (Or.inr (by omega)))⟩⟩
theorem k_level {w : MW} {a : Int32} {Q : Int32 → MW → Prop} (hQ : ∀ r : Int32, (¬ r.toInt = 3 → 42 ≤ a.toInt) → Q r w) : p_Rd_levelOf w a Q := Eq.mpr (p_Rd_levelOf.eq_1 _ _ _) ⟨fun e => hQ 2 (fun _ => by omega), fun _ => ⟨fun e => hQ 1 (fun _ => by omega), fun _ => ⟨fun _ => hQ 3 (fun c => absurd (by decide) c), fun _ => ⟨fun e => hQ 1 (fun _ => by omega), fun _ => ⟨fun _ => hQ 3 (fun c => absurd (by decide) c), fun _ => ⟨fun e => hQ 2 (fun _ => by omega), fun _ => ⟨fun _ => hQ 3 (fun c => absurd (by decide) c), fun _ => ⟨fun _ => hQ 3 (fun c => absurd (by decide) c), fun _ => ⟨fun _ => hQ 3 (fun c => absurd (by decide) c), fun _ => ⟨fun _ => hQ 3 (fun c => absurd (by decide) c), fun _ => ⟨fun _ => hQ 3 (fun c => absurd (by decide) c), fun _ => ⟨fun _ => hQ 3 (fun c => absurd (by decide) c), fun _ => ⟨fun _ => hQ 3 (fun c => absurd (by decide) c), fun _ => ⟨fun _ => hQ 3 (fun c => absurd (by decide) c), fun _ => ⟨fun _ => hQ 3 (fun c => absurd (by decide) c), fun _ => ⟨fun _ => hQ 3 (fun c => absurd (by decide) c), fun _ => ⟨fun _ => hQ 3 (fun c => absurd (by decide) c), fun _ => ⟨fun _ => hQ 3 (fun c => absurd (by decide) c), fun _ => ⟨fun e => hQ 0 (fun _ => by omega), fun _ => ⟨fun e => hQ 0 (fun _ => by omega), fun _ => ⟨fun e => hQ 0 (fun _ => by omega), fun _ => hQ 3 (fun c => absurd (by decide) c)⟩⟩⟩⟩⟩⟩⟩⟩⟩⟩⟩⟩⟩⟩⟩⟩⟩⟩⟩⟩⟩
theorem x_38 {F : MW → (Int32 → MW → Prop) → Prop} {L : MW → Int32 → (Int32 → MW → Prop) → Prop} {w0 : MW} {lv nx mo : Int32} {E : Int32 → Int32 → MW → Prop} {Q : Int32 → MW → Prop} (h0 : RW w0) (hl : ¬ lv.toInt = 3) (hF : 3 ≤ nx.toInt → RcG (w0.1 87 8).toInt F) (hL : ¬ 3 ≤ nx.toInt → RcG (w0.1 87 8).toInt (fun w Q => L w nx Q)) (hm : mo.toInt ≤ 4000) (hE : ∀ (x j : Int32) (w : MW), GE w0 w → E x j w) (n : Nat) : ∀ (x j : Int32) (w : MW), GE w0 w → 0 ≤ j.toInt → j.toInt ≤ 4000 → (4000 - j.toInt).toNat < n → q_Rd_readLevel_38 F L lv nx mo E Q n x j w := by
  induction n with
  | zero => intros; omega
  | succ n ih =>
    intro x j w g j0 j1 hn
    rw [q_Rd_readLevel_38.eq_2]
    refine ⟨fun _ => hE x j w g, fun c => ⟨fun _ => hE x j w g, fun _ => k_level (fun r hr => ⟨fun _ => hE x j w g, fun d => ?_⟩)⟩⟩
    have op : 42 ≤ (w.1 87 3).toInt := hr (by omega)
    have s := ti_add2 (Eq.refl j.toInt) i_1 (by omega) (by omega)
    have J : ∀ (r2 : Int32) (w8 w10 : MW), TkS w w8 → GE w8 w10 → p_Rd_join w10 (w.1 87 3) (w.1 87 4) x r2 (fun r11 w11 => (q_Rd_readLevel_38 F L lv nx mo E Q n r11 (j + (1 : Int32)) w11)) := fun r2 w8 w10 t g2 => k_join g2.1.1 op g.1.1.2.2.2 (fun r11 w11 g3 => ih _ _ w11 (GE.tr h0 (GE.tr h0 (GE.tr h0 g t.ge) g2) g3) (by omega) (by omega) (by omega))
    refine k_next g.1.1 (fun w8 t8 => ⟨fun c3 => hF c3 w8 _ t8.1 (congrArg Int32.toInt ((t8.ge.2).trans g.2)) (fun r w10 g2 => J r w8 w10 t8 g2), fun c3 => hL c3 w8 _ t8.1 (congrArg Int32.toInt ((t8.ge.2).trans g.2)) (fun r w10 g2 => J r w8 w10 t8 g2)⟩)
theorem x_rl {F : MW → (Int32 → MW → Prop) → Prop} {L : MW → Int32 → (Int32 → MW → Prop) → Prop} {w : MW} {a : Int32} {Q : Int32 → MW → Prop} (h : RW w) (a0 : 0 ≤ a.toInt) (a2 : a.toInt ≤ 2) (hF : RcG (w.1 87 8).toInt F) (hL : a.toInt < 2 → ∀ b : Int32, b.toInt = a.toInt + 1 → RcG (w.1 87 8).toInt (fun w Q => L w b Q)) (hQ : ∀ r w', GE w w' → Q r w') : pb_Rd_readLevel F L w a Q := by
  have s := ti_add2 (Eq.refl a.toInt) i_1 (by omega) (by omega)
  have K : ∀ (u mo : Int32) (w2 : MW), mo.toInt ≤ 4000 → GE w w2 → q_Rd_readLevel_33 F L a (a + (1 : Int32)) u mo w2 Q := fun u mo w2 hm g => Eq.mpr (q_Rd_readLevel_33.eq_1 _ _ _ _ _ _ _ _) (x_38 h (by omega) (fun _ => hF) (fun c => hL (by omega) _ s) hm (fun x j w3 g3 => ⟨fun _ => hQ _ w3 g3, fun _ => ⟨fun _ => hQ _ w3 g3, fun _ => k_fail g3.1.1 (fun w4 t _ => hQ _ w4 (GE.tr h g3 t.ge))⟩⟩) FU u 0 w2 g (by decide) (by decide) (fu_lt (by decide)))
  have P : ∀ (r : Int32) (w2 : MW), GE w w2 → ((¬ a.toInt = 0 → (q_Rd_readLevel_33 F L a (a + (1 : Int32)) r 4000 w2 Q)) ∧ (¬ (¬ a.toInt = 0) → (q_Rd_readLevel_33 F L a (a + (1 : Int32)) r 1 w2 Q))) := fun r w2 g => ⟨fun _ => K r 4000 w2 (by decide) g, fun _ => K r 1 w2 (by decide) g⟩
  exact Eq.mpr (pb_Rd_readLevel.eq_1 _ _ _ _ _) ⟨fun _ => hF w _ h rfl P, fun c => hL (by omega) _ s w _ h rfl P⟩
theorem fl_all (d : Nat) : (∀ o : Int, 0 ≤ o → (4 * (20 - o)).toNat < d → RcG o (pn_Rd_readFactor d)) ∧ (∀ (o : Int) (b : Int32), 0 ≤ o → 0 ≤ b.toInt → b.toInt ≤ 2 → (4 * (20 - o) + (3 - b.toInt)).toNat < d → RcG o (fun w Q => pn_Rd_readLevel d w b Q)) := by
  induction d with
  | zero => exact ⟨fun _ _ h => by omega, fun _ _ _ _ _ h => by omega⟩
  | succ d ih =>
    refine ⟨fun o o0 hm w Q h ho hQ => ?_, fun o b o0 b0 b2 hm w Q h ho hQ => ?_⟩
    · rw [pe_Rd_readFactor]
      have b8 := bd_87_8 h.1
      exact x_rf h (fun c => ih.1 _ (by omega) (by omega)) (fun c => ih.2 _ 1 (by omega) (by decide) (by decide) (by rw [i_1]; omega)) hQ
    · show pn_Rd_readLevel (d + 1) w b Q
      rw [pe_Rd_readLevel]
      have b8 := bd_87_8 h.1
      exact x_rl h b0 b2 (ih.1 _ (by omega) (by omega)) (fun c b' e => ih.2 _ b' (by omega) (by omega) (by omega) (by omega)) hQ
theorem k_lev {w : MW} {a : Int32} {Q : Int32 → MW → Prop} (h : RW w) (a0 : 0 ≤ a.toInt) (a2 : a.toInt ≤ 2) (hQ : ∀ r w', GE w w' → Q r w') : p_Rd_readLevel w a Q := by
  have b8 := bd_87_8 h.1
  exact (fl_all 400).2 (w.1 87 8).toInt a b8.1 a0 a2 (by omega) w Q h rfl hQ
