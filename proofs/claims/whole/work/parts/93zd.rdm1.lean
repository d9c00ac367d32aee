/-! the reference reads a plant: its first pass -/
theorem hf_ag {t w : MW} (h : AG t w) : hf w = hf t := by
  funext p
  unfold hf
  rw [h.2, h.1]
theorem lnw_of {w : MW} {r q : Int32} {a : Nat → Int32} {L : Int × Int × Int × Int × Int} (h : LnE r q a L) (ha : ∀ j, a j = w.1 178 j) (n : ¬ r.toInt = -1) : LnW w r (lnX L) ∧ ¬ L.1 = -1 := by
  have a0 : (a 0).toInt = (w.1 178 0).toInt := by rw [ha]
  have a1 : (a 1).toInt = (w.1 178 1).toInt := by rw [ha]
  have a2 : (a 2).toInt = (w.1 178 2).toInt := by rw [ha]
  rcases h.2 with c | c | c | c | c
  · exact absurd c.1 n
  · exact ⟨Or.inl ⟨c.1, c.2.1, c.2.2.trans a0⟩, by omega⟩
  · exact ⟨Or.inr (Or.inl ⟨c.1, c.2⟩), by omega⟩
  · exact ⟨Or.inr (Or.inr (Or.inl ⟨c.1, c.2.1, c.2.2.trans a0⟩)), by omega⟩
  · exact ⟨Or.inr (Or.inr (Or.inr ⟨c.1, c.2.1, c.2.2.1.trans a0, c.2.2.2.1.trans a1, c.2.2.2.2.trans a2⟩)), by omega⟩
theorem lne_m {r q : Int32} {a : Nat → Int32} {L : Int × Int × Int × Int × Int} (h : LnE r q a L) (n : r.toInt = -1) : L.1 = -1 := by
  rcases h.2 with c | c | c | c | c
  · exact c.2
  · omega
  · omega
  · omega
  · omega
theorem rq_15 {w0 : MW} {E : MW → Prop} {Q : Int32 → MW → Prop} (hI0 : BND w0) (hE : ∀ w' ls', BND w' → FR lr1 w0 w' → (∃ k, PlR (hf w0) (w0.1 127 22).toInt k 0 [] (-1) ls') → E w') (hQ : ∀ (r : Int32) (w' : MW) (r' : Int) ls', BND w' → FR lr1 w0 w' → 0 ≤ r' → r.toInt = -3 - r' → (∃ k, PlR (hf w0) (w0.1 127 22).toInt k 0 [] r' ls') → Q r w') (m : Nat) : ∀ (w : MW) (ls : List Ln), BND w → FR lr1 w0 w → PN w ls → (∀ r ls', (∃ k, PlR (hf w0) (w0.1 127 22).toInt k (w.1 127 21).toInt ls r ls') → ∃ k, PlR (hf w0) (w0.1 127 22).toInt k 0 [] r ls') → (4020 - (w.1 127 21).toInt).toNat < m → q_Mo_readPlant_15 E Q m w := by
  induction m with
  | zero => intros; omega
  | succ m ih =>
    intro w ls hB hF hP hc hm
    have hA : AG w0 w := ⟨fun j => (hF 128 j rfl).1, (hF 127 22 rfl).1⟩
    have e22 : w.1 127 22 = w0.1 127 22 := hA.2
    have b22 := bd_127_22 hI0
    have b21 := bd_127_21 hB
    rw [q_Mo_readPlant_15.eq_2]
    refine ⟨fun c => ?_, fun c => ?_⟩
    · rw [e22] at c
      exact hE w ls hB hF (hc _ _ ⟨1, Or.inl ⟨by omega, rfl, rfl⟩⟩)
    rw [e22] at c
    refine pc_planLine hA (h_Mo_planLine (Q := fun r w' => BND w' ∧ FR l_Mo_planLine w w' ∧ (-1) ≤ r.toInt ∧ r.toInt ≤ 3 ∧ (w.1 127 21).toInt ≤ (w'.1 127 21).toInt ∧ (r.toInt < 0 ∨ (w'.1 127 21).toInt < (w'.1 127 22).toInt) ∧ (r.toInt < 0 ∨ r.toInt = 1 ∨ r.toInt = 3 ∨ 0 ≤ (w'.1 178 0).toInt) ∧ (¬ r.toInt = 3 ∨ (-1 ≤ (w'.1 178 0).toInt ∧ -1 ≤ (w'.1 178 1).toInt ∧ 0 ≤ (w'.1 178 2).toInt))) hB (fun r w' a1 a2 a3 a4 a5 a6 a7 a8 => ⟨a1, a2, a3, a4, a5, a6, a7, a8⟩)) (fun r w2 hp hA2 hPL => ?_)
    obtain ⟨hI2, hF2, r0, r3, pl, lt, wa, wb⟩ := hp
    have b21' := bd_127_21 hI2
    have L := pl_lnS (t := w0) (by omega) (by omega) (by omega) hPL
    have F2 : FR lr1 w0 w2 := hF.tr hF2 rfl
    have s := ti_sub2 (by decide : ((-3) : Int32).toInt = -3) (Eq.refl (w2.1 127 21).toInt) (by omega) (by omega)
    refine ⟨fun d => hQ _ w2 (w2.1 127 21).toInt ls hI2 F2 L.2.1 s (hc _ _ ⟨1, Or.inr (Or.inl ⟨by omega, Or.inl (lne_m L.1 d), L.1.1.symm, rfl⟩)⟩), fun d => ?_⟩
    have W := lnw_of (w := w2) L.1 (fun j => rfl) d
    have P2 : PN w2 ls := pn_fr hP hF2 rfl
    refine in_x hI2 P2 W.1 (fun z => by omega) (fun z => ?_) (fun w4 B4 F4 ok P4 => ⟨fun _ => ?_, fun z => absurd (show ¬ (1 : Int32).toInt = 0 by decide) z⟩) (fun nk => ⟨fun z => absurd i_0 z, fun _ => ?_⟩)
    · have k := wb.resolve_left (fun y => y z)
      exact ⟨k.1, k.2.1⟩
    · have p4 : w4.1 127 21 = w2.1 127 21 := (F4 127 21 rfl).1
      have lt2 := lt.resolve_left (by omega)
      have t22 : w2.1 127 22 = w0.1 127 22 := hA2.2
      rw [t22] at lt2
      have e21 := ti_add2 (Eq.refl (w2.1 127 21).toInt) i_1 (by omega) (by omega)
      have F5 : FR [(127, some 21)] w4 (sI w4 127 21 ((w4.1 127 21) + (1 : Int32))) := FR.I (FR.refl _ w4) rfl
      refine ih _ (ls ++ [lnX (lnS (hf w0) (w.1 127 21).toInt)]) (wbd_127_21 B4 (by rw [p4]; omega) (by rw [p4]; omega)) ((F2.tr F4 rfl).tr F5 rfl) (pn_fr P4 F5 rfl) (fun r ls' hk => ?_) (by rw [sI_same, p4]; omega)
      rw [sI_same, p4, e21, ← L.1.1] at hk
      obtain ⟨k, hk⟩ := hk
      exact hc r ls' ⟨k + 1, Or.inr (Or.inr ⟨by omega, W.2, ok, hk⟩)⟩
    · exact hQ _ w2 (w2.1 127 21).toInt ls hI2 F2 L.2.1 s (hc _ _ ⟨1, Or.inr (Or.inl ⟨by omega, Or.inr nk, L.1.1.symm, rfl⟩)⟩)
