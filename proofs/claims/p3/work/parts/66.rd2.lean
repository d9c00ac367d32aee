/-! the class's reader: nodes -/
def yK (w : MW) (n : Int) : Int := (w.1 109 n.toNat).toInt
def yA (w : MW) (n : Int) : Int := (w.1 110 n.toNat).toInt
def yF (w : MW) (n : Int) : Int := (w.1 111 n.toNat).toInt
def yT (w : MW) (n : Int) : Int := (w.1 112 n.toNat).toInt
def yI (w : MW) (n : Int) : Int := (w.1 113 n.toNat).toInt
def yX (w : MW) (n : Int) : Int := (w.1 114 n.toNat).toInt
def yS (w : MW) (n : Int) : Int := (w.1 88 n.toNat).toInt
def yD (w : MW) (n : Int) : Int := (w.1 89 n.toNat).toInt
def ndC (w : MW) : Int := (w.1 108 1).toInt
def wr (w : MW) : Int := (w.1 87 9).toInt
/-- node j is the same in both worlds -/
def SN (j : Int) (w w' : MW) : Prop := yK w' j = yK w j ∧ yA w' j = yA w j ∧ yF w' j = yF w j ∧ yT w' j = yT w j ∧ yI w' j = yI w j ∧ yX w' j = yX w j ∧ yS w' j = yS w j ∧ yD w' j = yD w j
def NS (B : Int) (w w' : MW) : Prop := ∀ j : Int, 0 ≤ j → j < B → SN j w w'
theorem SN.refl (j : Int) (w : MW) : SN j w w := ⟨rfl, rfl, rfl, rfl, rfl, rfl, rfl, rfl⟩
theorem SN.tr {j : Int} {w w1 w2 : MW} (h : SN j w w1) (h2 : SN j w1 w2) : SN j w w2 := ⟨h2.1.trans h.1, h2.2.1.trans h.2.1, h2.2.2.1.trans h.2.2.1, h2.2.2.2.1.trans h.2.2.2.1, h2.2.2.2.2.1.trans h.2.2.2.2.1, h2.2.2.2.2.2.1.trans h.2.2.2.2.2.1, h2.2.2.2.2.2.2.1.trans h.2.2.2.2.2.2.1, h2.2.2.2.2.2.2.2.trans h.2.2.2.2.2.2.2⟩
theorem NS.refl (B : Int) (w : MW) : NS B w w := fun j _ _ => SN.refl j w
theorem NS.tr {B B2 : Int} {w w1 w2 : MW} (h : NS B w w1) (h2 : NS B2 w1 w2) (hb : B ≤ B2) : NS B w w2 := fun j a b => (h j a b).tr (h2 j a (by omega))
theorem NS.wk {B B2 : Int} {w w1 : MW} (h : NS B w w1) (hb : B2 ≤ B) : NS B2 w w1 := fun j a b => h j a (by omega)
def lyn : Pl := [(88, none), (89, none), (108, some 1), (109, none), (110, none), (111, none), (112, none), (113, none), (114, none)]
theorem sn_off {l : Pl} {w w' : MW} (hF : FR l w w') (ho : off l lyn = true) (j : Int) : SN j w w' := by
  have hq : ∀ k j, hit lyn k j = true → w'.1 k j = w.1 k j := fun k j hk => (hF k j (off_hit ho hk)).1
  unfold SN yK yA yF yT yI yX yS yD
  rw [hq 109 _ rfl, hq 110 _ rfl, hq 111 _ rfl, hq 112 _ rfl, hq 113 _ rfl, hq 114 _ rfl, hq 88 _ rfl, hq 89 _ rfl]
  exact ⟨rfl, rfl, rfl, rfl, rfl, rfl, rfl, rfl⟩
def RW (w : MW) : Prop := BND w ∧ w.2.2 87 0 = some 1 ∧ w.2.2 87 1 = some 108 ∧ PP w
def lcr : Pl := [(87, some 2), (87, some 3), (87, some 4), (87, some 5), (87, some 6), (87, some 7), (87, some 8), (87, some 9), (88, none), (89, none), (108, some 0), (108, some 1), (109, none), (110, none), (111, none), (112, none), (113, none), (114, none), (115, none)]
def RdS (w w' : MW) : Prop := RW w' ∧ FR lcr w w' ∧ WM w w' ∧ w'.1 87 8 = w.1 87 8
theorem RdS.refl {w : MW} (h : RW w) : RdS w w := ⟨h, FR.refl _ w, fun c => c, rfl⟩
theorem RdS.tr {w w1 w2 : MW} (h : RdS w w1) (h2 : RdS w1 w2) : RdS w w2 := ⟨h2.1, h.2.1.tr h2.2.1 rfl, h.2.2.1.tr h2.2.2.1, h2.2.2.2.trans h.2.2.2⟩
/-- words alone were read -/
def TkS (w w' : MW) : Prop := RW w' ∧ FR l_Rd_nextWord w w' ∧ WM w w'
theorem TkS.refl {w : MW} (h : RW w) : TkS w w := ⟨h, FR.refl _ w, fun c => c⟩
theorem TkS.tr {w w1 w2 : MW} (h : TkS w w1) (h2 : TkS w1 w2) : TkS w w2 := ⟨h2.1, h.2.1.tr h2.2.1 rfl, h.2.2.tr h2.2.2⟩
theorem TkS.rd {w w' : MW} (h : TkS w w') : RdS w w' := ⟨h.1, (FR.refl lcr w).tr h.2.1 rfl, h.2.2, (h.2.1 87 8 rfl).1⟩
theorem TkS.sn {w w' : MW} (h : TkS w w') (j : Int) : SN j w w' := sn_off h.2.1 rfl j
theorem TkS.nd {w w' : MW} (h : TkS w w') : ndC w' = ndC w := by unfold ndC; rw [(h.2.1 108 1 rfl).1]
theorem RW.fr {l : Pl} {w w' : MW} (h : RW w) (hI : BND w') (hF : FR l w w') (hP : PP w') (ho : off l [(87, some 0), (87, some 1)] = true) : RW w' := ⟨hI, ((hF 87 0 (off_hit ho rfl)).2.2).trans h.2.1, ((hF 87 1 (off_hit ho rfl)).2.2).trans h.2.2.1, hP⟩
theorem k_next {w : MW} {Q : MW → Prop} (h : RW w) (hQ : ∀ w', TkS w w' → Q w') : p_Rd_nextWord w Q := t_next h.1 h.2.1 (fun w' hI hF hP hM => hQ w' ⟨h.fr hI hF hP rfl, hF, hM⟩)
theorem k_fail {w : MW} {Q : MW → Prop} (h : RW w) (hQ : ∀ w', TkS w w' → 0 ≤ wr w' → Q w') : p_Rd_fail w Q := t_fail h.1 h.2.2.2 (fun w' hI hF c => hQ w' ⟨h.fr hI hF (by unfold PP; rw [(hF 87 4 rfl).1]; exact h.2.2.2) rfl, (FR.refl _ w).tr hF rfl, fun _ => c⟩ c)
theorem k_take {w : MW} {a : Int32} {Q : MW → Prop} (h : RW w) (hQ : ∀ w', TkS w w' → Q w') : p_Rd_take w a Q := Eq.mpr (p_Rd_take.eq_1 _ _ _) ⟨fun _ => k_fail h (fun w' t _ => hQ w' t), fun _ => ⟨fun _ => k_next h hQ, fun _ => k_fail h (fun w' t _ => hQ w' t)⟩⟩
theorem k_demand {w : MW} {a b : Int32} {Q : MW → Prop} (h : RW w) (hQ : ∀ w', TkS w w' → Q w') : p_Rd_demand w a b Q := Eq.mpr (p_Rd_demand.eq_1 _ _ _ _) ⟨fun _ => hQ w (TkS.refl h), fun _ => k_fail h (fun w' t _ => hQ w' t)⟩
theorem k_find {w : MW} {c : Int64} {Q : Int32 → MW → Prop} (hI : BND w) (hB : Q (-1) w) (hQ : ∀ r : Int32, 0 ≤ r.toInt → r.toInt < (w.1 108 10).toInt → Q r w) : p_Pr_finds108 w c Q := by
  have b := bd_108_10 hI
  have L : ∀ (n : Nat) (x : Int32), 0 ≤ x.toInt → x.toInt ≤ 40 → (40 - x.toInt).toNat < n → q_Pr_finds108_2 c (fun (w4 : MW) => (Q (-1) w4)) Q n x w := fun n => by
    induction n with
    | zero => intros; omega
    | succ n ih =>
      intro x x0 x1 hm
      rw [q_Pr_finds108_2.eq_2]
      refine ⟨fun _ => hB, fun d => ?_⟩
      have s := ti_add2 (Eq.refl x.toInt) i_1 (by omega) (by omega)
      exact ⟨⟨by omega, by omega⟩, fun _ => ih _ (by omega) (by omega) (by omega), fun _ => hQ x x0 (by omega)⟩
  exact Eq.mpr (p_Pr_finds108.eq_1 _ _ _) (L FU 0 (by decide) (by decide) (fu_lt (by decide)))
theorem k_name {w : MW} {a : Int32} {Q : Int32 → MW → Prop} (h : RW w) (hQ : ∀ (r : Int32) (w' : MW), TkS w w' → -1 ≤ r.toInt → r.toInt ≤ 39 → ((r.toInt < 0 ∧ 0 ≤ wr w') ∨ (0 ≤ r.toInt ∧ r.toInt < (w'.1 108 10).toInt ∧ (w'.1 117 r.toInt.toNat).toInt = a.toInt)) → Q r w') : p_Rd_takeName w a Q := by
  have b := bd_108_10 h.1
  have F : p_Rd_fail w (fun w3 => (Q (-1) w3)) := k_fail h (fun w' t c => hQ (-1) w' t (by decide) (by decide) (Or.inl ⟨by decide, c⟩))
  have K : ∀ y : Int32, (y.toInt < 0 ∨ (0 ≤ y.toInt ∧ y.toInt < (w.1 108 10).toInt)) → q_Rd_takeName_31 a y w Q := fun y hy => Eq.mpr (q_Rd_takeName_31.eq_1 _ _ _ _) ⟨fun _ => F, fun c => ⟨h.2.2.1, ⟨by omega, by omega⟩, fun e => k_next h (fun w' t => hQ y w' t (by omega) (by omega) (Or.inr ⟨by omega, by rw [(t.2.1 108 10 rfl).1]; omega, by rw [(t.2.1 117 _ rfl).1]; exact e⟩)), fun _ => F⟩⟩
  exact Eq.mpr (p_Rd_takeName.eq_1 _ _ _) ⟨fun _ => K _ (Or.inl (by decide)), fun _ => ⟨fun _ => K _ (Or.inl (by decide)), fun _ => ⟨h.2.2.1, k_find h.1 (K _ (Or.inl (by decide))) (fun r r0 r1 => K r (Or.inr ⟨r0, r1⟩))⟩⟩⟩
/-- a new node n with its kind and number; nothing hangs on it -/
def NwN (w : MW) (n a b : Int) : Prop := yK w n = a ∧ yA w n = b ∧ yF w n = n ∧ yT w n = n ∧ yI w n = -1 ∧ yX w n = -1 ∧ yS w n = 1 ∧ yD w n = 0
theorem k_node {w : MW} {a b : Int32} {Q : Int32 → MW → Prop} (h : RW w) (hQ : ∀ (r : Int32) (w' : MW), RdS w w' → 0 ≤ r.toInt → r.toInt ≤ 300 → (wr w' < 0 → wr w < 0 ∧ r.toInt = ndC w ∧ ndC w' = ndC w + 1 ∧ ndC w < 300 ∧ (∀ j, 0 ≤ j → j ≠ r.toInt → SN j w w') ∧ NwN w' r.toInt a.toInt b.toInt) → Q r w') : p_Rd_makeNode w a b Q := by
  have b1 := bd_108_1 h.1
  have M : ∀ r : Int32, 0 ≤ r.toInt → r.toInt ≤ 300 → (r.toInt < 300 → r.toInt = ndC w) → ((w.2.2 87 1 = some 108) ∧ ((0 ≤ r.toInt ∧ r.toInt < 301) ∧ ((w.2.2 87 1 = some 108) ∧ ((0 ≤ r.toInt ∧ r.toInt < 301) ∧ ((w.2.2 87 1 = some 108) ∧ ((0 ≤ r.toInt ∧ r.toInt < 301) ∧ ((w.2.2 87 1 = some 108) ∧ ((0 ≤ r.toInt ∧ r.toInt < 301) ∧ ((w.2.2 87 1 = some 108) ∧ ((0 ≤ r.toInt ∧ r.toInt < 301) ∧ ((w.2.2 87 1 = some 108) ∧ ((0 ≤ r.toInt ∧ r.toInt < 301) ∧ ((0 ≤ r.toInt ∧ r.toInt < 301) ∧ ((0 ≤ r.toInt ∧ r.toInt < 301) ∧ ((w.2.2 87 1 = some 108) ∧ ((¬ r.toInt = 300 → (Q r (sI (sI (sI (sI (sI (sI (sI (sI (sI w 109 r.toInt.toNat a) 110 r.toInt.toNat b) 111 r.toInt.toNat r) 112 r.toInt.toNat r) 113 r.toInt.toNat (-1)) 114 r.toInt.toNat (-1)) 88 r.toInt.toNat 1) 89 r.toInt.toNat 0) 108 1 (r + (1 : Int32))))) ∧ (¬ (¬ r.toInt = 300) → (p_Rd_fail (sI (sI (sI (sI (sI (sI (sI (sI (sI w 109 r.toInt.toNat a) 110 r.toInt.toNat b) 111 r.toInt.toNat r) 112 r.toInt.toNat r) 113 r.toInt.toNat (-1)) 114 r.toInt.toNat (-1)) 88 r.toInt.toNat 1) 89 r.toInt.toNat 0) 108 1 (r + (1 : Int32)))  (fun w19 => (Q r w19)))))))))))))))))))) := fun r r0 r1 hr => by
    have g : 0 ≤ r.toInt ∧ r.toInt < 301 := ⟨r0, by omega⟩
    have s := ti_add2 (Eq.refl r.toInt) i_1 (by omega) (by omega)
    have hF : FR lyn w (sI (sI (sI (sI (sI (sI (sI (sI (sI w 109 r.toInt.toNat a) 110 r.toInt.toNat b) 111 r.toInt.toNat r) 112 r.toInt.toNat r) 113 r.toInt.toNat (-1)) 114 r.toInt.toNat (-1)) 88 r.toInt.toNat 1) 89 r.toInt.toNat 0) 108 1 (r + (1 : Int32))) := FR.I (FR.I (FR.I (FR.I (FR.I (FR.I (FR.I (FR.I (FR.I (FR.refl _ w) rfl) rfl) rfl) rfl) rfl) rfl) rfl) rfl) rfl
    have hB : BND (sI (sI (sI (sI (sI (sI (sI (sI (sI w 109 r.toInt.toNat a) 110 r.toInt.toNat b) 111 r.toInt.toNat r) 112 r.toInt.toNat r) 113 r.toInt.toNat (-1)) 114 r.toInt.toNat (-1)) 88 r.toInt.toNat 1) 89 r.toInt.toNat 0) 108 1 (r + (1 : Int32))) := wbd_108_1 (wbd_89 (wbd_88 (wbd_114 (wbd_113 (wbd_112 (wbd_111 (wbd_110 (wbd_109 h.1 _) _) _ r0 (by omega)) _ r0 (by omega)) _ (by decide) (by decide)) _ (by decide) (by decide)) _) _) (by omega) (by omega)
    have hn : ndC (sI (sI (sI (sI (sI (sI (sI (sI (sI w 109 r.toInt.toNat a) 110 r.toInt.toNat b) 111 r.toInt.toNat r) 112 r.toInt.toNat r) 113 r.toInt.toNat (-1)) 114 r.toInt.toNat (-1)) 88 r.toInt.toNat 1) 89 r.toInt.toNat 0) 108 1 (r + (1 : Int32))) = r.toInt + 1 := s
    have hS : ∀ j, 0 ≤ j → j ≠ r.toInt → SN j w (sI (sI (sI (sI (sI (sI (sI (sI (sI w 109 r.toInt.toNat a) 110 r.toInt.toNat b) 111 r.toInt.toNat r) 112 r.toInt.toNat r) 113 r.toInt.toNat (-1)) 114 r.toInt.toNat (-1)) 88 r.toInt.toNat 1) 89 r.toInt.toNat 0) 108 1 (r + (1 : Int32))) := fun j j0 j1 => by
      have nj : j.toNat ≠ r.toInt.toNat := by omega
      refine ⟨?_, ?_, ?_, ?_, ?_, ?_, ?_, ?_⟩
      · exact congrArg Int32.toInt (sI_ne w 109 j.toNat r.toInt.toNat a nj)
      · exact congrArg Int32.toInt (sI_ne w 110 j.toNat r.toInt.toNat b nj)
      · exact congrArg Int32.toInt (sI_ne w 111 j.toNat r.toInt.toNat r nj)
      · exact congrArg Int32.toInt (sI_ne w 112 j.toNat r.toInt.toNat r nj)
      · exact congrArg Int32.toInt (sI_ne w 113 j.toNat r.toInt.toNat (-1) nj)
      · exact congrArg Int32.toInt (sI_ne w 114 j.toNat r.toInt.toNat (-1) nj)
      · exact congrArg Int32.toInt (sI_ne w 88 j.toNat r.toInt.toNat 1 nj)
      · exact congrArg Int32.toInt (sI_ne w 89 j.toNat r.toInt.toNat 0 nj)
    have hN : NwN (sI (sI (sI (sI (sI (sI (sI (sI (sI w 109 r.toInt.toNat a) 110 r.toInt.toNat b) 111 r.toInt.toNat r) 112 r.toInt.toNat r) 113 r.toInt.toNat (-1)) 114 r.toInt.toNat (-1)) 88 r.toInt.toNat 1) 89 r.toInt.toNat 0) 108 1 (r + (1 : Int32))) r.toInt a.toInt b.toInt := by
      refine ⟨?_, ?_, ?_, ?_, ?_, ?_, ?_, ?_⟩
      · exact congrArg Int32.toInt (sI_same w 109 r.toInt.toNat a)
      · exact congrArg Int32.toInt (sI_same w 110 r.toInt.toNat b)
      · exact congrArg Int32.toInt (sI_same w 111 r.toInt.toNat r)
      · exact congrArg Int32.toInt (sI_same w 112 r.toInt.toNat r)
      · exact (congrArg Int32.toInt (sI_same w 113 r.toInt.toNat (-1))).trans i_m1
      · exact (congrArg Int32.toInt (sI_same w 114 r.toInt.toNat (-1))).trans i_m1
      · exact (congrArg Int32.toInt (sI_same w 88 r.toInt.toNat 1)).trans i_1
      · exact (congrArg Int32.toInt (sI_same w 89 r.toInt.toNat 0)).trans i_0
    generalize (sI (sI (sI (sI (sI (sI (sI (sI (sI w 109 r.toInt.toNat a) 110 r.toInt.toNat b) 111 r.toInt.toNat r) 112 r.toInt.toNat r) 113 r.toInt.toNat (-1)) 114 r.toInt.toNat (-1)) 88 r.toInt.toNat 1) 89 r.toInt.toNat 0) 108 1 (r + (1 : Int32))) = w1 at *
    have hR : RW w1 := h.fr hB hF (by unfold PP; rw [(hF 87 4 rfl).1]; exact h.2.2.2) rfl
    have hD : RdS w w1 := ⟨hR, (FR.refl lcr w).tr hF rfl, WM.fr hF rfl, (hF 87 8 rfl).1⟩
    have e9 : wr w1 = wr w := by unfold wr; rw [(hF 87 9 rfl).1]
    refine ⟨h.2.2.1, g, h.2.2.1, g, h.2.2.1, g, h.2.2.1, g, h.2.2.1, g, h.2.2.1, g, g, g, h.2.2.1, fun c => hQ r w1 hD r0 r1 (fun q => ⟨by rw [← e9]; exact q, hr (by omega), by rw [hn]; have := hr (by omega); omega, by have := hr (by omega); omega, hS, hN⟩), fun c => k_fail hR (fun w' t c' => hQ r w' (hD.tr t.rd) r0 r1 (fun q => by omega))⟩
  refine Eq.mpr (p_Rd_makeNode.eq_1 _ _ _ _) ⟨h.2.2.1, Eq.mpr (p_Ma_min.eq_1 _ _ _ _) ⟨fun c => M 300 (by decide) (by decide) (fun q => absurd q (by decide)), fun c => ?_⟩⟩
  rw [(by decide : ((300 : Int32)).toInt = 300)] at c
  exact M (w.1 108 1) b1.1 (by omega) (fun _ => rfl)
