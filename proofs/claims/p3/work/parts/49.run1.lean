/-! the reference's run: what holds while it goes -/
/-- statements of the tree -/
def TSx (w : MW) : Prop := ∀ n : Int32, 0 ≤ n.toInt → n.toInt < (w.1 129 30).toInt → ((Wn w n = 10 ∨ Wn w n = 11 ∨ Wn w n = 12 ∨ Wn w n = 13 ∨ Wn w n = 15 ∨ Wn w n = 16 ∨ Wn w n = 17) → KIDe w n.toInt 0) ∧ (Wn w n = 13 → KIDe w n.toInt 1) ∧ ((Wn w n = 10 ∨ Wn w n = 13 ∨ Wn w n = 18) → 0 ≤ (Int64.toInt32 (w.2.1 132 (nd1 w n.toInt))).toInt ∧ (Int64.toInt32 (w.2.1 132 (nd1 w n.toInt))).toInt < 40) ∧ (Wn w n = 22 → 0 ≤ (Int64.toInt32 (w.2.1 132 (nd1 w n.toInt))).toInt ∧ (Int64.toInt32 (w.2.1 132 (nd1 w n.toInt))).toInt ≤ 31)
theorem TSx_fr {l : Pl} {w w' : MW} (hF : FR l w w') (ho : off l [(129, some 12), (129, some 30), (131, none), (132, none), (135, none), (137, none)] = true) (h : TSx w) : TSx w' := by
  have hq : ∀ k j, hit [(129, some 12), (129, some 30), (131, none), (132, none), (135, none), (137, none)] k j = true → w'.1 k j = w.1 k j ∧ w'.2.1 k j = w.2.1 k j := fun k j hk => ⟨(hF k j (off_hit ho hk)).1, (hF k j (off_hit ho hk)).2.1⟩
  have q12 := (hq 129 12 rfl).1
  have q30 := (hq 129 30 rfl).1
  have q131 : ∀ j, w'.1 131 j = w.1 131 j := fun j => (hq 131 j rfl).1
  have q132 : ∀ j, w'.2.1 132 j = w.2.1 132 j := fun j => (hq 132 j rfl).2
  have q135 : ∀ j, w'.1 135 j = w.1 135 j := fun j => (hq 135 j rfl).1
  have q137 : ∀ j, w'.1 137 j = w.1 137 j := fun j => (hq 137 j rfl).1
  unfold TSx Wn KIDe kidV nd1 at *
  simp only [q12, q30, q131, q132, q135, q137]
  exact h
/-- the places: what stands there -/
def QS (w : MW) : Prop := 1 ≤ (w.1 127 60).toInt ∧ (w.1 207 0).toInt = -1 ∧ ¬ (w.1 210 0).toInt = 0 ∧ ∀ i : Int32, 0 < i.toInt → i.toInt < (w.1 127 60).toInt → 0 ≤ (w.1 207 i.toInt.toNat).toInt ∧ (w.1 207 i.toInt.toNat).toInt < (w.1 129 30).toInt ∧ 10 ≤ Wn w (w.1 207 i.toInt.toNat) ∧ ((Wn w (w.1 207 i.toInt.toNat) = 15 ∨ Wn w (w.1 207 i.toInt.toNat) = 17) → 0 ≤ (w.1 208 i.toInt.toNat).toInt) ∧ (Wn w (w.1 207 i.toInt.toNat) = 17 → 0 ≤ (w.1 209 (w.1 208 i.toInt.toNat).toInt.toNat).toInt)
theorem QS_fr {l : Pl} {w w' : MW} (hF : FR l w w') (ho : off l [(127, some 60), (129, some 12), (129, some 30), (131, none), (207, none), (208, none), (209, none)] = true) (h0 : w'.1 210 0 = w.1 210 0) (h : QS w) : QS w' := by
  have hq : ∀ k j, hit [(127, some 60), (129, some 12), (129, some 30), (131, none), (207, none), (208, none), (209, none)] k j = true → w'.1 k j = w.1 k j := fun k j hk => (hF k j (off_hit ho hk)).1
  have q60 := hq 127 60 rfl
  have q12 := hq 129 12 rfl
  have q30 := hq 129 30 rfl
  have q131 : ∀ j, w'.1 131 j = w.1 131 j := fun j => hq 131 j rfl
  have q207 : ∀ j, w'.1 207 j = w.1 207 j := fun j => hq 207 j rfl
  have q208 : ∀ j, w'.1 208 j = w.1 208 j := fun j => hq 208 j rfl
  have q209 : ∀ j, w'.1 209 j = w.1 209 j := fun j => hq 209 j rfl
  unfold QS Wn nd1 at *
  simp only [q60, q12, q30, q131, q207, q208, q209, h0]
  exact h
/-- what an act wants -/
def PF (w : MW) : Prop := DR w ∧ FT w ∧ HW w ∧ MC w ∧ MZ w ∧ RP w ∧ SZ w
def lPF : Pl := [(127, some 4), (127, some 11), (127, some 26), (147, some 12), (147, some 20), (151, none), (152, none), (153, none), (154, none), (163, none), (169, none), (170, none), (171, none), (182, none), (185, none), (186, none), (187, none), (197, none), (199, none), (200, none)]
theorem off_mono {l d e : Pl} (h : off l d = true) (hs : ∀ c ∈ e, c ∈ d) : off l e = true := List.all_eq_true.mpr (fun c hc => List.all_eq_true.mp h c (hs c hc))
theorem PF_fr {l : Pl} {w w' : MW} (hF : FR l w w') (ho : off l lPF = true) (h : PF w) : PF w' :=
  ⟨DR_fr hF (off_mono ho (by decide)) h.1, FT_fr hF (off_mono ho (by decide)) h.2.1, HW_fr hF (off_mono ho (by decide)) h.2.2.1, MC_fr hF (off_mono ho (by decide)) h.2.2.2.1, MZ_fr hF (off_mono ho (by decide)) h.2.2.2.2.1, RP_fr hF (off_mono ho (by decide)) h.2.2.2.2.2.1, SZ_fr hF (off_mono ho (by decide)) h.2.2.2.2.2.2⟩
/-- the run's world -/
def RnX (w : MW) : Prop := BND w ∧ TEx w ∧ TSx w ∧ QP w ∧ QS w ∧ PF w
def lRnX : Pl := [(127, some 60), (129, some 12), (129, some 30), (131, none), (132, none), (135, none), (137, none), (207, none), (208, none), (209, none), (210, none), (213, none), (127, some 4), (127, some 11), (127, some 26), (147, some 12), (147, some 20), (151, none), (152, none), (153, none), (154, none), (163, none), (169, none), (170, none), (171, none), (182, none), (185, none), (186, none), (187, none), (197, none), (199, none), (200, none)]
theorem RnX_fr {l : Pl} {w w' : MW} (hF : FR l w w') (hI : BND w') (ho : off l lRnX = true) (h : RnX w) : RnX w' :=
  ⟨hI, tex_fr hF (off_mono ho (by decide)) h.2.1, TSx_fr hF (off_mono ho (by decide)) h.2.2.1, QP_fr hF (off_mono ho (by decide)) h.2.2.2.1, QS_fr hF (off_mono ho (by decide)) (hF 210 0 (off_hit ho rfl)).1 h.2.2.2.2.1, PF_fr hF (off_mono ho (by decide)) h.2.2.2.2.2⟩
/-- what a run may write -/
def lgo : Pl := [(127, some 26), (127, some 39), (127, some 40), (127, some 45), (127, some 46), (127, some 47), (127, some 48), (127, some 72), (127, some 73), (127, some 75), (127, some 76), (127, some 79), (165, none), (166, none), (167, none), (172, none), (174, none), (181, none), (182, none), (183, none), (184, none), (185, none), (186, none), (187, none), (188, none), (189, none), (190, none), (191, none), (192, none), (194, none), (195, none), (196, none), (206, none), (210, none), (211, none), (212, none), (213, none), (214, none), (215, none), (216, none), (217, none), (218, none), (219, none), (220, none)]
def RnK (i : Int) (w w' : MW) : Prop := ∀ j : Nat, (j : Int) < i → w'.1 210 j = w.1 210 j ∧ w'.1 213 j = w.1 213 j ∧ w'.2.1 215 j = w.2.1 215 j
def RnS (i : Int) (w w' : MW) : Prop := RnX w' ∧ FR lgo w w' ∧ RnK i w w' ∧ (w.1 127 72).toInt ≤ (w'.1 127 72).toInt
theorem RnS.refl {i : Int} {w : MW} (h : RnX w) : RnS i w w := ⟨h, FR.refl _ w, fun _ _ => ⟨rfl, rfl, rfl⟩, by omega⟩
theorem RnS.tr {i j : Int} {w w1 w2 : MW} (h : RnS i w w1) (h2 : RnS j w1 w2) (hij : i ≤ j) : RnS i w w2 :=
  ⟨h2.1, h.2.1.tr h2.2.1 rfl, fun k hk => ⟨(h2.2.2.1 k (by omega)).1.trans (h.2.2.1 k hk).1, (h2.2.2.1 k (by omega)).2.1.trans (h.2.2.1 k hk).2.1, (h2.2.2.1 k (by omega)).2.2.trans (h.2.2.1 k hk).2.2⟩, Int.le_trans h.2.2.2 h2.2.2.2⟩
theorem RnS.wk {i j : Int} {w w1 : MW} (h : RnS j w w1) (hij : i ≤ j) : RnS i w w1 := RnS.tr (RnS.refl (i := i) (w := w1) h.1) (RnS.refl h.1) (Int.le_refl i) |> fun _ => ⟨h.1, h.2.1, fun k hk => h.2.2.1 k (by omega), h.2.2.2⟩
/-- a change that touches nothing of it -/
theorem rn_fr {l : Pl} {i : Int} {w w' : MW} (h : RnX w) (hF : FR l w w') (hI : BND w') (ho : off l lRnX = true) (h5 : off l [(127, some 72), (215, none)] = true) (hs : sub l lgo = true) : RnS i w w' :=
  ⟨RnX_fr hF hI ho h, (FR.refl lgo w).tr hF hs, fun j _ => ⟨(hF 210 j (off_hit ho rfl)).1, (hF 213 j (off_hit ho rfl)).1, (hF 215 j (off_hit h5 rfl)).2.1⟩, by rw [(hF 127 72 (off_hit h5 rfl)).1]; omega⟩
def l79 : Pl := [(127, some 79), (218, none), (219, none), (220, none)]
theorem g_raise {i : Int} {w : MW} {a b : Int32} {Q : MW → Prop} (h : RnX w) (hb : (bt 220 0).1 ≤ b.toInt ∧ b.toInt ≤ (bt 220 0).2) (hQ : ∀ w', RnS i w w' → FR l79 w w' → Q w') : p_Mo_raise w a b Q := by
  have b79 := bd_127_79 h.1
  refine Eq.mpr (p_Mo_raise.eq_1 _ _ _ _) ⟨fun _ => hQ w (RnS.refl h) (FR.refl _ w), fun c => ⟨⟨by omega, by omega⟩, ⟨by omega, by omega⟩, ⟨by omega, by omega⟩, ?_⟩⟩
  have e : ((w.1 127 79) + (1 : Int32)).toInt = (w.1 127 79).toInt + 1 := ti_add2 rfl (by decide) (by omega) (by omega)
  have hB := wbd_127_79 (wbd_220 (wbd_219 (wbd_218 h.1 (w.1 127 79).toInt.toNat (v := w.1 127 78)) (w.1 127 79).toInt.toNat (v := a)) (w.1 127 79).toInt.toNat (v := b)) (v := (w.1 127 79) + 1) (by omega) (by omega)
  have hF := FR.I (v := (w.1 127 79) + 1) (k := 127) (j := 79) (FR.I (v := b) (k := 220) (j := (w.1 127 79).toInt.toNat) (FR.I (v := a) (k := 219) (j := (w.1 127 79).toInt.toNat) (FR.I (v := w.1 127 78) (k := 218) (j := (w.1 127 79).toInt.toNat) (FR.refl l79 w) rfl) rfl) rfl) rfl
  exact hQ _ (rn_fr h hF hB rfl rfl rfl) hF
def l76 : Pl := [(127, some 76), (127, some 79), (218, none), (219, none), (220, none)]
theorem g_isBad {i : Int} {w : MW} {Q : Int32 → MW → Prop} (h : RnX w) (hQ : ∀ r w', RnS i w w' → FR l76 w w' → Q r w') : p_Mo_isBad w Q := by
  refine Eq.mpr (p_Mo_isBad.eq_1 _ _) ⟨fun _ => ?_, fun _ => hQ 0 w (RnS.refl h) (FR.refl _ w)⟩
  refine g_raise (i := i) h (by decide) (fun w2 h2 hF2 => ?_)
  have hF : FR l76 w (sI w2 127 76 (-1)) := FR.I ((FR.refl l76 w).tr hF2 rfl) rfl
  exact hQ _ _ (rn_fr h hF (wbd_127_76 h2.1.1) rfl rfl rfl) hF
theorem g_reckon {i : Int} {w : MW} {n : Int32} {Q : Int64 → MW → Prop} (h : RnX w) (n0 : 0 ≤ n.toInt) (n1 : n.toInt < (w.1 129 30).toInt) (hw : (w.1 131 (nd1 w n.toInt)).toInt ≤ 9) (hQ : ∀ r w', RnS i w w' → FR lrk w w' → Q r w') : p_Mo_reckon w n Q := by
  have b30 := bd_129_30 h.1
  exact rk_all 400 n w Q h.1 h.2.1 n0 n1 hw (by omega) (fun r w' hI hF => hQ r w' (rn_fr h hF hI rfl rfl rfl) hF)
/-- the kid k of node n, an expression, reckoned -/
theorem g_kr {i : Int} {w : MW} {n k : Int32} {Q : Int64 → MW → Prop} (h : RnX w) (n0 : 0 ≤ n.toInt) (n1 : n.toInt < (w.1 129 30).toInt) (k0 : 0 ≤ k.toInt) (k1 : k.toInt < 300) (hk : KIDe w n.toInt k.toInt) (hQ : ∀ r w', RnS i w w' → FR lrk w w' → Q r w') : p_Tx_kid w n k (fun r1 w1 => p_Mo_reckon w1 r1 Q) := by
  have b30 := bd_129_30 h.1
  exact g_kid h.1 n0 (by omega) k0 k1 hk.1 (g_reckon h hk.2.1 (by have := hk.2.2.1; omega) hk.2.2.2 hQ)
