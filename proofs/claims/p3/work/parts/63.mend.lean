/-! the reference: end -/
def lMJ : Pl := [(127, some 59), (127, some 60), (129, some 12), (129, some 30), (131, none), (132, none), (135, none), (137, none), (207, none), (208, none), (209, none), (210, none), (213, none), (127, some 4), (127, some 11), (127, some 26), (147, some 12), (147, some 20), (151, none), (152, none), (153, none), (154, none), (163, none), (169, none), (170, none), (171, none), (182, none), (185, none), (186, none), (187, none), (197, none), (199, none), (200, none), (129, some 31), (129, some 32), (136, none), (138, none), (143, none), (129, some 8)]
theorem MdJ_fr {l : Pl} {w w' : MW} (hF : FR l w w') (hI : BND w') (ho : off l lMJ = true) (h : MdJ w) : MdJ w' :=
  ⟨MdI_fr hF hI (off_mono ho (by decide)) h.1, tlx_fr h.1.1 hF (off_mono ho (by decide)) h.2.1, by unfold VG; rw [(hF 129 8 (off_hit ho rfl)).2.1]; exact h.2.2⟩
def lq0 : Pl := [(127, some 60), (207, none), (208, none), (209, none), (210, none), (213, none)]
theorem qp_sh {l : Pl} {w w' : MW} (hI : BND w) (hF : FR l w w') (ho : off l lq0 = true) (hs : SHh w w') (h12 : w'.1 129 12 = w.1 129 12) (h30 : w'.1 129 30 = w.1 129 30) (h : QP w ∧ QS w) : QP w' ∧ QS w' := by
  have hq : ∀ k j, hit lq0 k j = true → w'.1 k j = w.1 k j := fun k j hk => (hF k j (off_hit ho hk)).1
  have q60 := hq 127 60 rfl
  have q207 : ∀ j, w'.1 207 j = w.1 207 j := fun j => hq 207 j rfl
  have q208 : ∀ j, w'.1 208 j = w.1 208 j := fun j => hq 208 j rfl
  have q209 : ∀ j, w'.1 209 j = w.1 209 j := fun j => hq 209 j rfl
  have q210 : ∀ j, w'.1 210 j = w.1 210 j := fun j => hq 210 j rfl
  have q213 : ∀ j, w'.1 213 j = w.1 213 j := fun j => hq 213 j rfl
  have b12 := bd_129_12 hI
  have qW : ∀ n : Int32, 0 ≤ n.toInt → n.toInt ≤ 299 → Wn w' n = Wn w n := fun n n0 n1 => by
    unfold Wn nd1
    rw [h12, (hs _ (by omega) (by omega)).1]
  refine ⟨fun i i0 i1 => ?_, ?_, ?_, ?_, fun i i0 i1 => ?_⟩
  · rw [q60] at i1
    have g := h.1 i i0 i1
    have b7 := bd_207 hI i.toInt.toNat
    rw [q60, q207, q208, q209, q210, q213]
    exact ⟨g.1, g.2.1, g.2.2.1, fun d k => g.2.2.2 d (by rw [← qW _ d b7.2]; exact k)⟩
  · rw [q60]
    exact h.2.1
  · rw [q207]
    exact h.2.2.1
  · rw [q210]
    exact h.2.2.2.1
  · rw [q60] at i1
    have g := h.2.2.2.2 i i0 i1
    have b7 := bd_207 hI i.toInt.toNat
    rw [q207, q208, q209, h30, qW _ g.1 b7.2]
    exact g
theorem me_37 {a b : Int32} {w : MW} {E : Int32 → MW → Prop} {Q : Int32 → MW → Prop} (hE : ∀ x : Int32, (¬ x.toInt = 0 → (0 ≤ a.toInt ∧ a.toInt ≤ 2) ∧ 0 ≤ b.toInt ∧ b.toInt ≤ 4000) → E x w) (n : Nat) : ∀ (x k : Int32), 0 ≤ k.toInt → k.toInt ≤ 4000 → (¬ x.toInt = 0 → (0 ≤ a.toInt ∧ a.toInt ≤ 2) ∧ 0 ≤ b.toInt ∧ b.toInt ≤ 4000) → (4000 - k.toInt).toNat < n → q_Mo_end_37 a b E Q n x k w := by
  induction n with
  | zero => intros; omega
  | succ n ih =>
    intro x k k0 k1 hb hm
    rw [q_Mo_end_37.eq_2]
    refine ⟨fun _ => hE x hb, fun c => ⟨fun _ => hE x hb, fun d => ?_⟩⟩
    have := (hb d).2
    have s1 := ti_add2 (Eq.refl k.toInt) i_1 (by omega) (by omega)
    exact ⟨⟨by omega, by omega⟩, fun _ => ih _ _ (by omega) (by omega) (fun c => absurd i_0 c) (by omega), fun _ => ih _ _ (by omega) (by omega) (fun _ => hb d) (by omega)⟩
theorem me_97 {a b : Int32} {E : MW → Prop} {Q : Int32 → MW → Prop} (hb : b.toInt ≤ 4000) (hE : ∀ w', MdJ w' → E w') (n : Nat) : ∀ (k : Int32) (w : MW), MdJ w → 0 ≤ k.toInt → k.toInt ≤ 4000 → (4000 - k.toInt).toNat < n → q_Mo_end_97 a b E Q n k w := by
  induction n with
  | zero => intros; omega
  | succ n ih =>
    intro k w h k0 k1 hm
    rw [q_Mo_end_97.eq_2]
    refine ⟨fun _ => hE w h, fun c => ?_⟩
    have s1 := ti_add2 (Eq.refl k.toInt) i_1 (by omega) (by omega)
    have b128 := bd_128 h.1.1 k.toInt.toNat
    exact ⟨fun _ => ⟨⟨by omega, by omega⟩, h_Tx_unit h.1.1 b128.1 b128.2 (fun r w' h' f' _ _ => ih _ _ (MdJ_fr f' h' rfl h) (by omega) (by omega) (by omega))⟩, fun _ => ⟨⟨by omega, by omega⟩, h_Mr_unit h.1.1 b128.1 b128.2 (fun r w' h' f' _ _ => ih _ _ (MdJ_fr f' h' rfl h) (by omega) (by omega) (by omega))⟩⟩
theorem me_193 {z : Int32} {E : MW → Prop} {Q : Int32 → MW → Prop} (hE : ∀ w', MdJ w' → E w') (n : Nat) : ∀ (k : Int32) (w : MW), MdJ w → 0 ≤ k.toInt → k.toInt ≤ 40 → (40 - k.toInt).toNat < n → q_Mo_end_193 z E Q n k w := by
  induction n with
  | zero => intros; omega
  | succ n ih =>
    intro k w h k0 k1 hm
    rw [q_Mo_end_193.eq_2]
    refine ⟨fun _ => hE w h, fun c => ?_⟩
    have s1 := ti_add2 (Eq.refl k.toInt) i_1 (by omega) (by omega)
    exact ⟨⟨by omega, by omega⟩, ⟨by omega, by omega⟩, ih _ _ (MdJ_fr (l := [(201, none), (206, none)]) (FR.J (FR.I (FR.refl _ w) rfl) rfl) (bnd_J (wbd_201 h.1.1 _ (by decide) (by decide))) rfl h) (by omega) (by omega) (by omega)⟩
/-- a state in which no program runs -/
theorem MdJ_4 {l : Pl} {w w' : MW} (hF : FR l w w') (hI : BND w') (ho : off l lMw = true) (hT : FT w') (hH : HW w') (h : MdI w) (hL : TLx w') (hV : VG w') : MdJ w' := ⟨MdI_fw hF hI ho hT hH h, hL, hV⟩
theorem h_Mo_end {w : MW} {a b : Int32} {Q : Int32 → MW → Prop} (h : MdJ w) (hQ : ∀ (r : Int32) (w' : MW), MdJ w' → Q r w') : p_Mo_end w a b Q := by
  have K33 : ∀ x : Int32, (¬ x.toInt = 0 → (0 ≤ a.toInt ∧ a.toInt ≤ 2) ∧ 0 ≤ b.toInt ∧ b.toInt ≤ 4000) → q_Mo_end_33 a b x w Q := fun x hx => by
    refine Eq.mpr (q_Mo_end_33.eq_1 _ _ _ _ _) (me_37 (fun x6 hx6 => ?_) FU x 0 (by decide) (by decide) hx (fu_lt (by decide)))
    have h1 : MdJ (sI w 127 1 0) := MdJ_fr (l := [(127, some 1)]) (FR.I (FR.refl _ w) rfl) (wbd_127_1 h.1.1 (by decide) (by decide)) rfl h
    refine ⟨fun c6 => ?_, fun _ => hQ _ _ h1⟩
    have g := hx6 c6
    generalize (sI w 127 1 0) = w1 at *
    refine ⟨fun ca => me_97 g.2.2 (fun w15 h15 => ?_) FU 0 w1 h1 (by decide) (by decide) (fu_lt (by decide)), fun _ => ?_⟩
    · have P15 := h15.1.2.2.2.1
      refine ⟨fun c1 => t_read h15.1.1 h15.2.2 h15.2.1 (fun r w' hB hF hV hL hs => ?_), fun c1 => h_Mr_read h15.1.1 P15.1 (fun r w' hB hF hD _ _ => ?_)⟩
      · have X := tl_tex hB hL
        have P' : PF w' := PF_fr hF rfl P15
        have N : r.toInt < 0 → MdJ w' := fun c => ⟨⟨hB, X.1, X.2, P', fun q => by
          rw [(hF 127 59 rfl).1] at q
          exact qp_sh h15.1.1 hF rfl (hs c).1 (hs c).2.1 (hs c).2.2 (h15.1.2.2.2.2 q)⟩, hL, hV⟩
        have O : ∀ w26 : MW, MdJ w26 → ((0 ≤ r.toInt → (Q r w26)) ∧ (¬ (0 ≤ r.toInt) → (Q (r - (2 : Int32)) w26))) := fun w26 h26 => ⟨fun _ => hQ _ _ h26, fun _ => hQ _ _ h26⟩
        refine Eq.mpr (q_Mo_end_169.eq_1 _ _ _ _) ⟨fun c2 => by omega, fun _ => ⟨fun c => O w' (N c), fun _ => ?_⟩⟩
        have B4 : BND (sI w' 127 59 4) := wbd_127_59 hB (by decide) (by decide)
        have F4 : FR [(127, some 59)] w' (sI w' 127 59 4) := FR.I (FR.refl _ w') rfl
        have e4 : (sI w' 127 59 4).1 127 59 = 4 := rfl
        have L4 : TLx (sI w' 127 59 4) := tlx_fr hB F4 rfl hL
        have V4 : VG (sI w' 127 59 4) := hV
        have P4 : PF (sI w' 127 59 4) := PF_fr F4 rfl P'
        generalize (sI w' 127 59 4) = w4 at *
        refine h_Mo_closeAll B4 P4.2.1 P4.2.2.1 (fun w22 B22 F22 T22 H22 => me_193 (fun w26 h26 => O w26 h26) FU 0 w22 ?_ (by decide) (by decide) (fu_lt (by decide)))
        have L22 := tlx_fr B4 F22 rfl L4
        have X22 := tl_tex B22 L22
        refine ⟨⟨B22, X22.1, X22.2, ⟨DR_fr F22 rfl P4.1, T22, H22, MC_fr F22 rfl P4.2.2.2.1, MZ_fr F22 rfl P4.2.2.2.2.1, RP_fr F22 rfl P4.2.2.2.2.2.1, SZ_fr F22 rfl P4.2.2.2.2.2.2⟩, fun q => ?_⟩, L22, by unfold VG; rw [(F22 129 8 rfl).2.1]; exact V4⟩
        rw [(F22 127 59 rfl).1, e4] at q
        exact absurd q (by decide)
      · have hL := tlx_fr h15.1.1 hF rfl h15.2.1
        have X := tl_tex hB hL
        have h' : MdJ w' := ⟨⟨hB, X.1, X.2, ⟨hD, FT_fr hF rfl P15.2.1, HW_fr hF rfl P15.2.2.1, MC_fr hF rfl P15.2.2.2.1, MZ_fr hF rfl P15.2.2.2.2.1, RP_fr hF rfl P15.2.2.2.2.2.1, SZ_fr hF rfl P15.2.2.2.2.2.2⟩, fun q => by
          rw [(hF 127 59 rfl).1] at q
          exact ⟨QP_fr hF rfl (h15.1.2.2.2.2 q).1, QS_fr hF rfl (hF 210 0 rfl).1 (h15.1.2.2.2.2 q).2⟩⟩, hL, by unfold VG; rw [(hF 129 8 rfl).2.1]; exact h15.2.2⟩
        exact Eq.mpr (q_Mo_end_169.eq_1 _ _ _ _) ⟨fun _ => ⟨fun _ => hQ _ _ h', fun _ => hQ _ _ h'⟩, fun c2 => by omega⟩
    · have h2 : MdJ (sI w1 127 22 b) := MdJ_fr (l := [(127, some 22)]) (FR.I (FR.refl _ w1) rfl) (wbd_127_22 h1.1.1 g.2.1 g.2.2) rfl h1
      generalize (sI w1 127 22 b) = w2 at *
      have P2 := h2.1.2.2.2.1
      refine h2_Mo_readPlant h2.1.1 P2.2.1 P2.2.2.1 P2.2.2.2.2.2.1 P2.2.2.2.2.2.2 (fun r w' hB hF hT hH hR hZ h59 => hQ r w' ?_)
      have hL := tlx_fr h2.1.1 hF rfl h2.2.1
      have X := tl_tex hB hL
      refine ⟨⟨hB, X.1, X.2, ⟨DR_fr hF rfl P2.1, hT, hH, MC_fr hF rfl P2.2.2.2.1, MZ_fr hF rfl P2.2.2.2.2.1, hR, hZ⟩, fun q => ?_⟩, hL, by unfold VG; rw [(hF 129 8 rfl).2.1]; exact h2.2.2⟩
      cases h59 with
      | inl e =>
        rw [e] at q
        exact ⟨QP_fr hF rfl (h2.1.2.2.2.2 q).1, QS_fr hF rfl (hF 210 0 rfl).1 (h2.1.2.2.2.2 q).2⟩
      | inr e => omega
  have K0 := K33 0 (fun c => absurd i_0 c)
  exact Eq.mpr (p_Mo_end.eq_1 _ _ _ _) ⟨fun _ => K0, fun a0 => ⟨fun _ => K0, fun a2 => ⟨fun _ => K0, fun b0 => ⟨fun _ => K0, fun b4 => ⟨fun _ => K0, fun _ => K33 1 (fun _ => ⟨⟨by omega, by omega⟩, by omega, by omega⟩)⟩⟩⟩⟩⟩
