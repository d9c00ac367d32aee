/-! the class adds a pipe -/
def lAP : Pl := [(91, some 1), (94, none), (95, none), (96, none), (97, none), (98, none)]
/-- the pipe's first end was joined, then its second one -/
def AdP (w w' : MW) (a b l : Int32) : Prop := ∃ z1 z2 : MW, JnS (sI w 95 (w.1 91 1).toInt.toNat l) z1 (tI (2 * (w.1 91 1).toInt)) a ∧ FR lJN (sI w 95 (w.1 91 1).toInt.toNat l) z1 ∧ JnS z1 z2 (tI (2 * (w.1 91 1).toInt + 1)) b ∧ FR lJN z1 z2 ∧ w' = sI z2 91 1 ((w.1 91 1) + (1 : Int32))
/-- may the pipe be added? -/
def okP (w : MW) (a b l : Int32) : Prop := (w.1 91 1).toInt < 24 ∧ (1 ≤ l.toInt ∧ l.toInt ≤ 200) ∧ okJ w a ∧ (b.toInt = -1 ∨ (b.toInt < (w.1 91 0).toInt ∧ (w.1 94 b.toInt.toNat).toInt + (if a.toInt = b.toInt then 1 else 0) < pcn (w.1 92 b.toInt.toNat).toInt))
theorem okJ_95 {w : MW} {j : Nat} {v b : Int32} : okJ (sI w 95 j v) b ↔ okJ w b := Iff.rfl
theorem okJ_2 {w z : MW} {e a b : Int32} (hI : BND w) (ha : -1 ≤ a.toInt) (hb : -1 ≤ b.toInt) (ok : okJ w a) (hJ : JnS w z e a) (hF : FR lJN w z) : okJ z b ↔ (b.toInt = -1 ∨ (b.toInt < (w.1 91 0).toInt ∧ (w.1 94 b.toInt.toNat).toInt + (if a.toInt = b.toInt then 1 else 0) < pcn (w.1 92 b.toInt.toNat).toInt)) := by
  unfold okJ
  rw [(hF 91 0 rfl).1, (hF 92 b.toInt.toNat rfl).1, hJ.2.2.1 b.toInt.toNat]
  by_cases h1 : b.toInt = -1
  · exact ⟨fun _ => Or.inl h1, fun _ => Or.inl h1⟩
  · by_cases h2 : a.toInt = b.toInt
    · have k := bd_92 hI a.toInt.toNat
      have pk := pcn_c k.1 k.2
      have b9 := bd_94 hI a.toInt.toNat
      have o := ok.resolve_left (by omega)
      have o2 := o.2
      have s := ti_add2 (Eq.refl (w.1 94 a.toInt.toNat).toInt) i_1 (by omega) (by omega)
      rw [if_pos ⟨by omega, by rw [h2]⟩, if_pos h2, s, h2]
    · rw [if_neg (fun y => h2 (by omega)), if_neg h2, show (w.1 94 b.toInt.toNat).toInt + 0 = (w.1 94 b.toInt.toNat).toInt by omega]
theorem add_p {w : MW} {a b l : Int32} {Q : Int32 → MW → Prop} (hI : BND w) (a0 : -1 ≤ a.toInt) (a1 : a.toInt ≤ 9999999) (b0 : -1 ≤ b.toInt) (b1 : b.toInt ≤ 9999999) (h1 : ∀ w', BND w' → FR lAP w w' → okP w a b l → AdP w w' a b l → Q 1 w') (h0 : ∀ w', BND w' → FR lAP w w' → ¬ okP w a b l → Q 0 w') : p_Pl_addPipes91 w a b l Q := by
  have bp := bd_91_1 hI
  refine Eq.mpr (p_Pl_addPipes91.eq_1 _ _ _ _ _) ⟨fun c => h0 w hI (FR.refl _ w) (fun q => by have := q.1; omega), fun c => ⟨fun c1 => h0 w hI (FR.refl _ w) (fun q => by have := q.2.1; omega), fun c1 => ⟨fun c2 => ?_, fun c2 => h0 w hI (FR.refl _ w) (fun q => by have := q.2.1; omega)⟩⟩⟩
  have B1 : BND (sI w 95 (w.1 91 1).toInt.toNat l) := wbd_95 hI _ (by omega) c2
  have F1 : FR lAP w (sI w 95 (w.1 91 1).toInt.toNat l) := FR.I (FR.refl _ w) rfl
  have e1 : (sI w 95 (w.1 91 1).toInt.toNat l).1 91 1 = w.1 91 1 := rfl
  refine ⟨⟨by omega, by omega⟩, ?_⟩
  have m := ti_mul2 (by decide : ((2 : Int32)).toInt = 2) (Eq.refl (w.1 91 1).toInt) (by omega) (by omega)
  have em : (2 : Int32) * (w.1 91 1) = tI (2 * (w.1 91 1).toInt) := ti_inj (by rw [m, tI_t (by omega) (by omega)])
  have ms := ti_add2 m i_1 (by omega) (by omega)
  have em2 : (2 : Int32) * (w.1 91 1) + (1 : Int32) = tI (2 * (w.1 91 1).toInt + 1) := ti_inj (by rw [ms, tI_t (by omega) (by omega)])
  have t1 : (tI (2 * (w.1 91 1).toInt)).toInt = 2 * (w.1 91 1).toInt := tI_t (by omega) (by omega)
  have t2 : (tI (2 * (w.1 91 1).toInt + 1)).toInt = 2 * (w.1 91 1).toInt + 1 := tI_t (by omega) (by omega)
  show p_Pl_joinss91 (sI w 95 (w.1 91 1).toInt.toNat l) ((2 : Int32) * (w.1 91 1)) a _
  rw [em]
  refine jn_91 B1 (by omega) (by omega) a0 a1 (fun z1 Z1 G1 k1 j1 => ⟨fun y => absurd y (by decide), fun _ => ?_⟩) (fun z1 Z1 G1 k1 => ⟨fun _ => h0 z1 Z1 (F1.tr G1 rfl) (fun q => k1 q.2.2.1), fun y => absurd i_0 y⟩)
  have ez : z1.1 91 1 = w.1 91 1 := ((G1 91 1 rfl).1).trans e1
  rw [ez, em2]
  have o2 := okJ_2 (b := b) B1 a0 b0 k1 j1 G1
  refine jn_91 Z1 (by omega) (by omega) b0 b1 (fun z2 Z2 G2 k2 j2 => ⟨fun _ => ?_, fun y => absurd (by decide) y⟩) (fun z2 Z2 G2 k2 => ⟨fun y => absurd i_0 y, fun _ => h0 z2 Z2 ((F1.tr G1 rfl).tr G2 rfl) (fun q => k2 (o2.mpr q.2.2.2))⟩)
  have ez2 : z2.1 91 1 = w.1 91 1 := ((G2 91 1 rfl).1).trans ez
  have s := ti_add2 (Eq.refl (w.1 91 1).toInt) i_1 (by omega) (by omega)
  rw [ez2]
  exact h1 _ (wbd_91_1 Z2 (by omega) (by omega)) (FR.I ((F1.tr G1 rfl).tr G2 rfl) rfl) ⟨by omega, ⟨by omega, c2⟩, k1, o2.mp k2⟩ ⟨z1, z2, j1, G1, j2, G2, rfl⟩
