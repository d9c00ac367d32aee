/-! tick: the passes -/
def ctN : Nat → Int → Int
  | 0, p => p
  | n + 1, p => ctP (ctN n p)
/-- what a tick makes of the passes; k their cell -/
def TkP (k : Nat) (rs : List Rw) (w w' : MW) (a : Int32) : Prop := (0 ≤ a.toInt ∧ a.toInt ≤ 600 ∧ ∀ r : Nat, r < rs.length → (w'.1 k r).toInt = ctN a.toInt.toNat (w.1 k r).toInt) ∨ ((a.toInt < 0 ∨ 600 < a.toInt) ∧ ∀ r : Nat, r < rs.length → w'.1 k r = w.1 k r)
theorem cse_p {ka kb kc : Nat} {s : Int → Bool} {rs : List Rw} {w w' : MW} (h : CsE ka kb kc s rs w w') (r : Nat) (hr : r < rs.length) : (w'.1 kc r).toInt = ctP (w.1 kc r).toInt := (h r _ (List.getElem?_eq_getElem hr)).2.2
theorem cp_tick15 {a : Int32} {w0 : MW} {rs : List Rw} {E : MW → Prop} {Q : Int32 → MW → Prop} (hS : RsC w0 rs) (hg : GrS rs) (a0 : 0 ≤ a.toInt) (a1 : a.toInt ≤ 600) (hE : ∀ w', CI w' → FR l_Bh_tick w0 w' → (∀ r : Nat, r < rs.length → (w'.1 51 r).toInt = ctN a.toInt.toNat (w0.1 51 r).toInt) → E w') (n : Nat) : ∀ (i : Nat) (w : MW), CI w → FR l_Bh_tick w0 w → (∀ r : Nat, r < rs.length → (w.1 51 r).toInt = ctN i (w0.1 51 r).toInt) → (i : Int) ≤ a.toInt → 601 - i < n → q_Bh_tick_15 a E Q n (nI i) w := by
  induction n with
  | zero => intros; omega
  | succ n ih =>
    intro i w h hF hu i1 hm
    have ti : (nI i).toInt = (i : Int) := nI_toInt (by omega)
    rw [q_Bh_tick_15.eq_2, nI_1]
    refine ⟨fun c => hE w h hF (by rw [show a.toInt.toNat = i by omega]; exact hu), fun ci => ?_⟩
    have S := h.2.1.2.2.2.2.2.2.2
    have nxt : ∀ w', CI w' → FR l_Bh_tick w0 w' → (∀ r : Nat, r < rs.length → (w'.1 51 r).toInt = ctN (i + 1) (w0.1 51 r).toInt) → p_Wa_move w' (fun w8 => (q_Bh_tick_15 a E Q n (nI (i + 1)) (sI w8 7 1 ((w8.1 7 1) + (1 : Int32))))) := fun w' h' hF' hu' => h_Wa_move h'.1 h'.2.1.2.2.2.2.2.2.2.2.1 (fun w8 hB8 hF8 => by
      have h8 := ci_fr h' hF8 hB8 rfl
      have F9 : FR [(7, some 1)] w8 (sI w8 7 1 ((w8.1 7 1) + (1 : Int32))) := FR.I (FR.refl _ w8) rfl
      exact ih _ _ (ci_fr h8 F9 (wbd_7_1 h8.1) rfl) ((hF'.tr hF8 rfl).tr F9 rfl) (fun r hr => by rw [(F9 51 r rfl).1, (hF8 51 r rfl).1]; exact hu' r hr) (by omega) (by omega))
    refine h_Bh_senseAll h.1 S.2.2 S.1 S.2.1 (fun w4 hB4 hF4 => ?_)
    have h4 := ci_fr h hF4 hB4 rfl
    have F4 : FR l_Bh_tick w0 w4 := hF.tr hF4 rfl
    refine ⟨h4.2.1.2.2.2.2.2.2.2.2.2, cc_count hB4 (rsc_fr hS F4 rfl) hg (fun w6 hB6 hF6 c6 => ?_)⟩
    have h6 := ci_fr h4 hF6 hB6 rfl
    have F6 : FR l_Bh_tick w0 w6 := F4.tr hF6 rfl
    have u6 : ∀ r : Nat, r < rs.length → (w6.1 51 r).toInt = ctN (i + 1) (w0.1 51 r).toInt := fun r hr => by
      rw [cse_p c6 r hr, (hF4 51 r rfl).1, hu r hr]
      rfl
    refine ⟨fun _ => nxt w6 h6 F6 u6, fun c => ?_⟩
    have c0 : (w6.1 61 4).toInt = 0 := Classical.not_not.mp c
    have q6 : RLz w6 ∧ RnI w6 := h6.2.2.2.1.resolve_right (fun f => by have := f.2; omega)
    have q := q6.2 (Or.inl c0)
    obtain ⟨L, hL⟩ := q.2
    refine cr_walk (L := L) ⟨h6.1, ⟨q6.1, h6.2.1⟩, h6.2.2.1, hL⟩ (by have := q.1; omega) (fun w9 L9 t9 e9 => ?_)
    have h9r : CrI w9 := ⟨t9.1.1, t9.1.2.1, t9.1.2.2.1, fun _ => ⟨e9.trans q.1, L9, t9.1.2.2.2⟩⟩
    have h9 : CI w9 := cri_ci h9r (h6.2.2.2.2.fr t9.2.1 rfl)
    have F9 : FR l_Bh_tick w0 w9 := F6.tr t9.2.1 rfl
    have u9 : ∀ r : Nat, r < rs.length → (w9.1 51 r).toInt = ctN (i + 1) (w0.1 51 r).toInt := fun r hr => by rw [(t9.2.1 51 r rfl).1]; exact u6 r hr
    have c73 : q_Bh_tick_73 a (nI i) w9 (fun (x15_2 : Int32) (w : MW) => q_Bh_tick_15 a E Q n x15_2 w) E Q := Eq.mpr (q_Bh_tick_73.eq_1 _ _ _ _ _ _) (by
      rw [nI_1]
      exact h_Wa_closeAll h9.1 h9.2.1.2.2.2.2.2.2.1 h9.2.2.1 h9.2.1.2.2.2.2.2.2.2.2.1 (fun w11 hB11 hF11 hW11 => nxt w11 (ci_wo h9 hF11 hB11 hW11 rfl) (F9.tr hF11 rfl) (fun r hr => by rw [(hF11 51 r rfl).1]; exact u9 r hr)))
    exact ⟨fun _ => c73, fun _ => ⟨fun _ => nxt w9 h9 F9 u9, fun _ => c73⟩⟩
theorem cp_tick {w : MW} {a : Int32} {rs : List Rw} {Q : Int32 → MW → Prop} (h : CI w) (hS : RsC w rs) (hg : GrS rs) (hQ : ∀ (r : Int32) (w' : MW), CI w' → FR l_Bh_tick w w' → TkP 51 rs w w' a → Q r w') : p_Bh_tick w a Q :=
  Eq.mpr (p_Bh_tick.eq_1 _ _ _) ⟨fun _ => hQ _ w h (FR.refl _ w) (Or.inr ⟨by omega, fun _ _ => rfl⟩), fun _ => ⟨fun c => cp_tick15 hS hg (by omega) c (fun w' h' F' hu => hQ _ w' h' F' (Or.inl ⟨by omega, c, hu⟩)) FU 0 w h (FR.refl _ w) (fun _ _ => rfl) (by omega) (fu_lt (by decide)), fun _ => hQ _ w h (FR.refl _ w) (Or.inr ⟨by omega, fun _ _ => rfl⟩)⟩⟩
theorem mp_67 {a b : Int32} {E : MW → Prop} {Q : Int32 → MW → Prop} {z : MW} {P : MW → Prop} (hP : ∀ w w', P w → (∀ j : Nat, w'.1 162 j = w.1 162 j) → P w') (hE : ∀ w, MdI w → FR ltk z w → P w → E w) (n : Nat) : ∀ (k : Int32) (w : MW), MdI w → FR ltk z w → P w → 0 ≤ k.toInt → k.toInt ≤ 24 → (24 - k.toInt).toNat < n → q_Mo_tick_67 a b E Q n k w := by
  induction n with
  | zero => intros; omega
  | succ n ih =>
    intro k w h hF hu k0 k1 hm
    rw [q_Mo_tick_67.eq_2]
    refine ⟨fun _ => hE w h hF hu, fun c => ?_⟩
    have b26 := bd_127_26 h.1
    have e : (k + (1 : Int32)).toInt = k.toInt + 1 := ti_add2 rfl (by decide) (by omega) (by omega)
    exact h_Mo_flow h.1 h.2.2.2.1.2.1 k0 (by omega) (by omega) (fun w' hI' hF' => ih _ w' (MdI_fr hF' hI' rfl h) (hF.tr hF' rfl) (hP w w' hu (fun j => (hF' 162 j rfl).1)) (by omega) (by omega) (by omega))
theorem mp_15 {a : Int32} {E : MW → Prop} {Q : Int32 → MW → Prop} {z : MW} {g : Nat} {rs : List Rw} (hR : RoM z g rs) (ha : a.toInt ≤ 600) (a0 : 0 ≤ a.toInt) (hE : ∀ w, MdI w → FR ltk z w → (∀ r : Nat, r < rs.length → (w.1 162 r).toInt = ctN a.toInt.toNat (z.1 162 r).toInt) → E w) (n : Nat) : ∀ (i : Nat) (w : MW), MdI w → FR ltk z w → (∀ r : Nat, r < rs.length → (w.1 162 r).toInt = ctN i (z.1 162 r).toInt) → (i : Int) ≤ a.toInt → 600 - i < n → q_Mo_tick_15 a E Q n (nI i) w := by
  induction n with
  | zero => intros; omega
  | succ n ih =>
    intro i w h hF hu k1 hm
    have ti : (nI i).toInt = (i : Int) := nI_toInt (by omega)
    rw [q_Mo_tick_15.eq_2, nI_1]
    refine ⟨fun c => hE w h hF (by rw [show a.toInt.toNat = i by omega]; exact hu), fun c => ?_⟩
    refine h_Mo_senseAll h.1 (fun w4 hI4 hF4 => ?_)
    have h4 := MdI_fr hF4 hI4 rfl h
    have G4 : FR ltk z w4 := hF.tr hF4 rfl
    have R4 : RoM w4 g rs := rom_k hR (G4 147 12 rfl).1 (G4 147 20 rfl).1 (KR.fr G4 rfl)
    refine cm_count hI4 h4.2.2.2.1.1 R4 (fun w5 hI5 hF5 c5 => ?_)
    have h5 := MdI_fr hF5 hI5 rfl h4
    have hG := G4.tr hF5 rfl
    have u5 : ∀ r : Nat, r < rs.length → (w5.1 162 r).toInt = ctN (i + 1) (z.1 162 r).toInt := fun r hr => by
      rw [cse_p c5 r hr, (hF4 162 r rfl).1, hu r hr]
      rfl
    have fl : ∀ w1 : MW, MdI w1 → FR ltk z w1 → (∀ r : Nat, r < rs.length → (w1.1 162 r).toInt = ctN (i + 1) (z.1 162 r).toInt) → q_Mo_tick_67 a (nI i) (fun (w9 : MW) => (q_Mo_tick_15 a E Q n (nI (i + 1)) (sI w9 127 78 ((w9.1 127 78) + (1 : Int32))))) Q FU 0 w1 := fun w1 h1 hF1 hu1 => mp_67 (z := z) (P := fun w => ∀ r : Nat, r < rs.length → (w.1 162 r).toInt = ctN (i + 1) (z.1 162 r).toInt) (fun w w' p e r hr => by rw [e r]; exact p r hr) (fun w9 h9 hF9 hu9 => ih _ _ (MdI_fr (l := [(127, some 78)]) (FR.I (FR.refl _ w9) rfl) (wbd_127_78 h9.1) rfl h9) (FR.I hF9 rfl) (fun r hr => by rw [sI_oth _ _ _ _ _ _ (by decide)]; exact hu9 r hr) (by omega) (by omega)) FU 0 w1 h1 hF1 hu1 (by decide) (by decide) (fu_lt (by decide))
    refine ⟨fun _ => fl w5 h5 hG u5, fun c0 => g_walk2 (h5.rn (Or.inl (Classical.not_not.mp c0))) (fun w10 h10 hF10 => ?_)⟩
    have hH := hG.tr hF10 rfl
    have u10 : ∀ r : Nat, r < rs.length → (w10.1 162 r).toInt = ctN (i + 1) (z.1 162 r).toInt := fun r hr => by rw [(hF10 162 r rfl).1]; exact u5 r hr
    have cl : q_Mo_tick_60 a (nI i) w10 (fun (x15_2 : Int32) (w : MW) => q_Mo_tick_15 a E Q n x15_2 w) E Q := by
      refine Eq.mpr (q_Mo_tick_60.eq_1 _ _ _ _ _ _) (h_Mo_closeAll h10.1 h10.2.2.2.2.2.2.1 h10.2.2.2.2.2.2.2.1 (fun w12 hI12 hF12 hT12 hH12 => ?_))
      rw [nI_1]
      exact fl w12 (MdI_fw hF12 hI12 rfl hT12 hH12 h10.md) (hH.tr hF12 rfl) (fun r hr => by rw [(hF12 162 r rfl).1]; exact u10 r hr)
    exact ⟨fun _ => cl, fun _ => ⟨fun _ => fl w10 h10.md hH u10, fun _ => cl⟩⟩
theorem mp_tick {w : MW} {a : Int32} {g : Nat} {rs : List Rw} {Q : Int32 → MW → Prop} (h : MdJ w) (hR : RoM w g rs) (hQ : ∀ (r : Int32) (w' : MW), MdJ w' → FR ltk w w' → TkP 162 rs w w' a → Q r w') : p_Mo_tick w a Q :=
  Eq.mpr (p_Mo_tick.eq_1 _ _ _) ⟨fun c => hQ _ w h (FR.refl _ w) (Or.inr ⟨by omega, fun _ _ => rfl⟩), fun c0 => ⟨fun c => mp_15 (z := w) hR c (by omega) (fun w' h' hF' hu => hQ _ w' (mj_tk h h' hF' rfl) hF' (Or.inl ⟨by omega, c, hu⟩)) FU 0 w h.1 (FR.refl _ w) (fun _ _ => rfl) (by omega) (fu_lt (by decide)), fun c => hQ _ w h (FR.refl _ w) (Or.inr ⟨by omega, fun _ _ => rfl⟩)⟩⟩
