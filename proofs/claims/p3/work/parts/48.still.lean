/-! the reference's places -/
def Wn (w : MW) (n : Int32) : Int := (w.1 131 (nd1 w n.toInt)).toInt
/-- the places of a run: links go on -/
def QP (w : MW) : Prop := ∀ i : Int32, 0 ≤ i.toInt → i.toInt < (w.1 127 60).toInt → ((w.1 208 i.toInt.toNat).toInt = -1 ∨ (i.toInt < (w.1 208 i.toInt.toNat).toInt ∧ (w.1 208 i.toInt.toNat).toInt < (w.1 127 60).toInt)) ∧ ((w.1 209 i.toInt.toNat).toInt = -1 ∨ (i.toInt < (w.1 209 i.toInt.toNat).toInt ∧ (w.1 209 i.toInt.toNat).toInt < (w.1 127 60).toInt)) ∧ (¬ (w.1 210 i.toInt.toNat).toInt = 0 → (w.1 213 i.toInt.toNat).toInt = -1 ∨ (i.toInt < (w.1 213 i.toInt.toNat).toInt ∧ (w.1 213 i.toInt.toNat).toInt < (w.1 127 60).toInt)) ∧ (0 ≤ (w.1 207 i.toInt.toNat).toInt → Wn w (w.1 207 i.toInt.toNat) = 16 → 0 ≤ (w.1 208 i.toInt.toNat).toInt)
theorem QP_fr {l : Pl} {w w' : MW} (hF : FR l w w') (ho : off l [(127, some 60), (129, some 12), (131, none), (207, none), (208, none), (209, none), (210, none), (213, none)] = true) (h : QP w) : QP w' := by
  have hq : ∀ k j, hit [(127, some 60), (129, some 12), (131, none), (207, none), (208, none), (209, none), (210, none), (213, none)] k j = true → w'.1 k j = w.1 k j := fun k j hk => (hF k j (off_hit ho hk)).1
  have q60 := hq 127 60 rfl
  have q12 := hq 129 12 rfl
  have q131 : ∀ j, w'.1 131 j = w.1 131 j := fun j => hq 131 j rfl
  have q207 : ∀ j, w'.1 207 j = w.1 207 j := fun j => hq 207 j rfl
  have q208 : ∀ j, w'.1 208 j = w.1 208 j := fun j => hq 208 j rfl
  have q209 : ∀ j, w'.1 209 j = w.1 209 j := fun j => hq 209 j rfl
  have q210 : ∀ j, w'.1 210 j = w.1 210 j := fun j => hq 210 j rfl
  have q213 : ∀ j, w'.1 213 j = w.1 213 j := fun j => hq 213 j rfl
  unfold QP Wn nd1 at *
  simp only [q60, q12, q131, q207, q208, q209, q210, q213]
  exact h
theorem g_kind {w : MW} {i : Int32} {Q : Int32 → MW → Prop} (hI : BND w) (i0 : 0 ≤ i.toInt) (i1 : i.toInt < 502) (h0 : 0 ≤ (w.1 207 i.toInt.toNat).toInt → ∀ r : Int32, r.toInt = Wn w (w.1 207 i.toInt.toNat) → Q r w) (h1 : (w.1 207 i.toInt.toNat).toInt < 0 → Q 23 w) : p_Mo_kind w i Q := by
  have b := bd_207 hI i.toInt.toNat
  have b12 := bd_129_12 hI
  refine Eq.mpr (p_Mo_kind.eq_1 _ _ _) ⟨⟨i0, i1⟩, fun c => ⟨⟨i0, i1⟩, Eq.mpr (p_Tx_node1.eq_1 _ _ _) ?_⟩, fun c => h1 (by omega)⟩
  have e := nd_ix hI c (by omega)
  refine ⟨by omega, h0 c _ ?_⟩
  rw [e]
  rfl
def lsa : Pl := [(127, some 77)]
/-- what stillAt finds -/
def SA (w : MW) (b r : Int32) : Prop := r.toInt = -1 ∨ (0 ≤ r.toInt ∧ r.toInt < (w.1 127 60).toInt ∧ 0 ≤ (w.1 207 r.toInt.toNat).toInt ∧ (¬ b.toInt = 0 → Wn w (w.1 207 r.toInt.toNat) = 18))
theorem sa_fr {w w' : MW} {b r : Int32} (hF : FR lsa w w') (h : SA w' b r) : SA w b r := by
  have q60 : w'.1 127 60 = w.1 127 60 := (hF 127 60 rfl).1
  have q12 : w'.1 129 12 = w.1 129 12 := (hF 129 12 rfl).1
  have q131 : ∀ j, w'.1 131 j = w.1 131 j := fun j => (hF 131 j rfl).1
  have q207 : ∀ j, w'.1 207 j = w.1 207 j := fun j => (hF 207 j rfl).1
  unfold SA Wn nd1 at *
  simp only [q60, q12, q131, q207] at h
  exact h
theorem sa_31 {d : Nat} {b : Int32} {z : MW} {E : MW → Prop} {Q : Int32 → MW → Prop} (hrec : ∀ (i : Int32) (w : MW) (Q : Int32 → MW → Prop), BND w → QP w → 0 ≤ i.toInt → i.toInt < (w.1 127 60).toInt → 502 - i.toInt < (d : Int) → (∀ (r : Int32) (w' : MW), BND w' → FR lsa w w' → SA w b r → Q r w') → pn_Mo_stillAt d w i b Q) (hE : ∀ w : MW, BND w → FR lsa z w → E w) (hQ : ∀ (r : Int32) (w : MW), BND w → FR lsa z w → SA z b r → Q r w) {lo : Int} (hd : 502 - lo < (d : Int)) (n : Nat) : ∀ (k : Int32) (w : MW), BND w → FR lsa z w → QP w → (k.toInt = -1 ∨ (lo ≤ k.toInt ∧ 0 ≤ k.toInt ∧ k.toInt < (w.1 127 60).toInt)) → (k.toInt = -1 ∧ 0 < n ∨ (502 - k.toInt).toNat < n) → q_Mo_stillAt_31 (pn_Mo_stillAt d) b E Q n k w := by
  induction n with
  | zero => intros; omega
  | succ n ih =>
    intro k w hI hF hP hk hm
    rw [q_Mo_stillAt_31.eq_2]
    have b60 := bd_127_60 hI
    refine ⟨fun _ => hE w hI hF, fun c => ?_⟩
    obtain ⟨k0, k1, k2⟩ := hk.resolve_left c
    have hx : 0 ≤ k.toInt ∧ k.toInt < 502 := by omega
    have nx : ∀ w' : MW, BND w' → FR lsa w w' → q_Mo_stillAt_31 (pn_Mo_stillAt d) b E Q n (w'.1 209 k.toInt.toNat) w' := by
      intro w' hI' hF'
      have hP' := QP_fr hF' rfl hP
      have e60 : w'.1 127 60 = w.1 127 60 := (hF' 127 60 rfl).1
      have h9 := (hP' k k1 (by rw [e60]; exact k2)).2.1
      refine ih _ w' hI' (hF.tr hF' rfl) hP' ?_ ?_
      · rcases h9 with h9 | h9
        · exact Or.inl h9
        · exact Or.inr ⟨by omega, by omega, h9.2⟩
      · rcases h9 with h9 | h9
        · left
          exact ⟨h9, by omega⟩
        · right
          rw [e60] at h9
          omega
    refine ⟨hx, fun _ => hrec k w _ hI hP k1 k2 (by omega) (fun r w' hI' hF' hS => ⟨fun _ => ⟨hx, nx w' hI' hF'⟩, fun _ => hQ r w' hI' (hF.tr hF' rfl) (sa_fr hF hS)⟩), fun _ => ⟨hx, nx w hI (FR.refl _ w)⟩⟩
theorem sa_all (d : Nat) : ∀ (b i : Int32) (w : MW) (Q : Int32 → MW → Prop), BND w → QP w → 0 ≤ i.toInt → i.toInt < (w.1 127 60).toInt → 502 - i.toInt < (d : Int) → (∀ (r : Int32) (w' : MW), BND w' → FR lsa w w' → SA w b r → Q r w') → pn_Mo_stillAt d w i b Q := by
  induction d with
  | zero =>
    intro b i w Q hI _ _ _ _ _
    have b60 := bd_127_60 hI
    omega
  | succ d ih =>
    intro b i w Q hI hP i0 i1 hd hQ
    have b60 := bd_127_60 hI
    have hx : 0 ≤ i.toInt ∧ i.toInt < 502 := by omega
    have hp := hP i i0 i1
    refine Eq.mpr (pe_Mo_stillAt d w i b Q) (Eq.mpr (pb_Mo_stillAt.eq_1 _ _ _ _ _) ⟨hx, fun c => ?_, fun _ => hQ _ w hI (FR.refl _ w) (Or.inl i_m1)⟩)
    have h125 : q_Mo_stillAt_125 (pn_Mo_stillAt d) i b w Q := by
      refine Eq.mpr (q_Mo_stillAt_125.eq_1 _ _ _ _ _) ⟨hx, fun c1 => ⟨hx, ?_⟩, fun _ => hQ _ w hI (FR.refl _ w) (Or.inl i_m1)⟩
      have h := (hp.2.2.1 c).resolve_left c1
      exact ih b _ w _ hI hP (by omega) h.2 (by omega) (fun r w' hI' hF' hS => hQ r w' hI' hF' hS)
    have h224 : ∀ (y s : Int32), (¬ y.toInt = 0 → 0 ≤ (w.1 207 i.toInt.toNat).toInt ∧ (¬ b.toInt = 0 → Wn w (w.1 207 i.toInt.toNat) = 18)) → q_Mo_stillAt_224 (pn_Mo_stillAt d) i y s (w.1 127 77) w Q := by
      intro y s hy
      have no : Q (-1) (sI w 127 77 ((w.1 127 77) - s)) := hQ _ _ (wbd_127_77 hI) (FR.I (FR.refl _ w) rfl) (Or.inl i_m1)
      exact Eq.mpr (q_Mo_stillAt_224.eq_1 _ _ _ _ _ _ _) ⟨fun _ => no, fun cy => ⟨fun _ => no, fun _ => hQ _ _ (wbd_127_77 hI) (FR.I (FR.refl _ w) rfl) (Or.inr ⟨i0, i1, (hy cy).1, (hy cy).2⟩)⟩⟩
    have z0 : ¬ ¬ (0 : Int32).toInt = 0 := fun q => q (by decide)
    have rest : ∀ r3 : Int32, (r3.toInt = 23 ∨ (0 ≤ (w.1 207 i.toInt.toNat).toInt ∧ r3.toInt = Wn w (w.1 207 i.toInt.toNat))) → ((¬ r3.toInt = 14 → ((¬ r3.toInt = 16 → ((r3.toInt = 23 → (q_Mo_stillAt_125 (pn_Mo_stillAt d) i b w Q)) ∧ (¬ (r3.toInt = 23) → ((r3.toInt = 15 → (q_Mo_stillAt_125 (pn_Mo_stillAt d) i b w Q)) ∧ (¬ (r3.toInt = 15) → ((r3.toInt = 19 → (q_Mo_stillAt_125 (pn_Mo_stillAt d) i b w Q)) ∧ (¬ (r3.toInt = 19) → ((¬ r3.toInt = 17 → ((b.toInt = 0 → ((r3.toInt = 11 → (q_Mo_stillAt_224 (pn_Mo_stillAt d) i 1 1 (w.1 127 77) w Q)) ∧ (¬ (r3.toInt = 11) → ((r3.toInt = 12 → (q_Mo_stillAt_224 (pn_Mo_stillAt d) i 1 1 (w.1 127 77) w Q)) ∧ (¬ (r3.toInt = 12) → ((r3.toInt = 13 → (q_Mo_stillAt_224 (pn_Mo_stillAt d) i 1 1 (w.1 127 77) w Q)) ∧ (¬ (r3.toInt = 13) → ((¬ r3.toInt = 18 → (q_Mo_stillAt_224 (pn_Mo_stillAt d) i 0 0 (w.1 127 77) w Q)) ∧ (¬ (¬ r3.toInt = 18) → (q_Mo_stillAt_224 (pn_Mo_stillAt d) i 1 1 (w.1 127 77) w Q)))))))))) ∧ (¬ (b.toInt = 0) → ((¬ r3.toInt = 18 → (q_Mo_stillAt_224 (pn_Mo_stillAt d) i 0 0 (w.1 127 77) w Q)) ∧ (¬ (¬ r3.toInt = 18) → ((0 ≤ i.toInt ∧ i.toInt < 502) ∧ ((¬ (w.1 211 i.toInt.toNat).toInt = 0 → (q_Mo_stillAt_224 (pn_Mo_stillAt d) i 0 0 (w.1 127 77) w Q)) ∧ (¬ (¬ (w.1 211 i.toInt.toNat).toInt = 0) → (q_Mo_stillAt_224 (pn_Mo_stillAt d) i 1 1 (w.1 127 77) w Q))))))))) ∧ (¬ (¬ r3.toInt = 17) → (q_Mo_stillAt_125 (pn_Mo_stillAt d) i b w Q)))))))))) ∧ (¬ (¬ r3.toInt = 16) → ((0 ≤ i.toInt ∧ i.toInt < 502) ∧ (pn_Mo_stillAt d w (w.1 208 i.toInt.toNat) b (fun r25 w25 => (Q r25 w25))))))) ∧ (¬ (¬ r3.toInt = 14) → ((0 ≤ i.toInt ∧ i.toInt < 502) ∧ (q_Mo_stillAt_31 (pn_Mo_stillAt d) b (fun (w34 : MW) => (Q (-1) w34)) Q FU (w.1 208 i.toInt.toNat) w)))) := by
      intro r3 hr
      have yes : ¬ r3.toInt = 23 → (b.toInt = 0 ∨ r3.toInt = 18) → q_Mo_stillAt_224 (pn_Mo_stillAt d) i 1 1 (w.1 127 77) w Q := fun c23 cb => h224 1 1 (fun _ => ⟨(hr.resolve_left c23).1, fun q => by have := (hr.resolve_left c23).2; omega⟩)
      have no : q_Mo_stillAt_224 (pn_Mo_stillAt d) i 0 0 (w.1 127 77) w Q := h224 0 0 (fun q => absurd q z0)
      refine ⟨fun _ => ⟨fun _ => ⟨fun _ => h125, fun c23 => ⟨fun _ => h125, fun _ => ⟨fun _ => h125, fun _ => ⟨fun _ => ⟨fun cb => ⟨fun _ => yes c23 (Or.inl cb), fun _ => ⟨fun _ => yes c23 (Or.inl cb), fun _ => ⟨fun _ => yes c23 (Or.inl cb), fun _ => ⟨fun _ => no, fun _ => yes c23 (Or.inl cb)⟩⟩⟩⟩, fun cb => ⟨fun _ => no, fun c18 => ⟨hx, fun _ => no, fun _ => yes c23 (Or.inr (Classical.not_not.mp c18))⟩⟩⟩, fun _ => h125⟩⟩⟩⟩, fun c16 => ⟨hx, ?_⟩⟩, fun _ => ⟨hx, ?_⟩⟩
      · have c16 := Classical.not_not.mp c16
        have hh := hr.resolve_left (by omega)
        have f0 := hp.2.2.2 hh.1 (by omega)
        have f1 := hp.1.resolve_left (by omega)
        exact ih b _ w _ hI hP f0 f1.2 (by omega) (fun r w' hI' hF' hS => hQ r w' hI' hF' hS)
      · have h8 := hp.1
        have b208 := bd_208 hI i.toInt.toNat
        refine sa_31 (z := w) (lo := i.toInt + 1) (fun i w Q => ih b i w Q) (fun w' hI' hF' => hQ _ w' hI' hF' (Or.inl i_m1)) (fun r w' hI' hF' hS => hQ r w' hI' hF' hS) (by omega) FU _ w hI (FR.refl _ w) hP ?_ ?_
        · rcases h8 with h8 | h8
          · exact Or.inl h8
          · exact Or.inr ⟨by omega, by omega, h8.2⟩
        · rcases h8 with h8 | h8
          · exact Or.inl ⟨h8, fu_lt (by decide)⟩
          · exact Or.inr (fu_lt (by omega))
    refine g_kind hI i0 (by omega) (fun h0 r3 e3 => rest r3 (Or.inr ⟨h0, e3⟩)) (fun _ => rest 23 (Or.inl (by decide)))
