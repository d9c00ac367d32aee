/-! the class joins a pipe's end -/
def lJN : Pl := [(94, none), (96, none), (97, none), (98, none)]
def pcn (k : Int) : Int := ((stT 1000).getD k.toNat 0).toInt
theorem pcn_b : ∀ k : Nat, k < 10 → (0 ≤ pcn (k : Int) ∧ pcn (k : Int) ≤ 48) ∧ (¬ k = 9 → pcn (k : Int) ≤ 4) := by decide +kernel
theorem pcn_c {k : Int} (h0 : 0 ≤ k) (h9 : k ≤ 9) : (0 ≤ pcn k ∧ pcn k ≤ 48) ∧ (¬ k = 9 → pcn k ≤ 4) := by
  have := pcn_b k.toNat (by omega)
  have e : ((k.toNat : Nat) : Int) = k := by omega
  rw [e] at this
  exact ⟨this.1, fun h => this.2 (by omega)⟩
def okJ (w : MW) (b : Int32) : Prop := b.toInt = -1 ∨ (b.toInt < (w.1 91 0).toInt ∧ (w.1 94 b.toInt.toNat).toInt < pcn (w.1 92 b.toInt.toNat).toInt)
def JnS (w w' : MW) (a b : Int32) : Prop := (∀ j, w'.1 96 j = if j = a.toInt.toNat then b else w.1 96 j) ∧ (∀ j, w'.1 97 j = if j = a.toInt.toNat then (if b.toInt = -1 ∨ (w.1 92 b.toInt.toNat).toInt = 9 then 0 else w.1 94 b.toInt.toNat) else w.1 97 j) ∧ (∀ j, w'.1 94 j = if ¬ b.toInt = -1 ∧ j = b.toInt.toNat then w.1 94 b.toInt.toNat + (1 : Int32) else w.1 94 j) ∧ (∀ j, w'.1 98 j = if ¬ b.toInt = -1 ∧ ¬ (w.1 92 b.toInt.toNat).toInt = 9 ∧ (j : Int) = 4 * b.toInt + (w.1 94 b.toInt.toNat).toInt then a else w.1 98 j)
theorem jn_91 {w : MW} {a b : Int32} {Q : Int32 → MW → Prop} (hI : BND w) (a0 : 0 ≤ a.toInt) (a1 : a.toInt ≤ 47) (b0 : -1 ≤ b.toInt) (b1 : b.toInt ≤ 9999999) (h1 : ∀ w', BND w' → FR lJN w w' → okJ w b → JnS w w' a b → Q 1 w') (h0 : ∀ w', BND w' → FR lJN w w' → ¬ okJ w b → Q 0 w') : p_Pl_joinss91 w a b Q := by
  have ga : 0 ≤ a.toInt ∧ a.toInt < 48 := ⟨a0, by omega⟩
  have b91 := bd_91_0 hI
  have B1 : BND (sI (sI w 96 a.toInt.toNat b) 97 a.toInt.toNat 0) := wbd_97 (wbd_96 hI _ b0 b1) _ (by decide) (by decide)
  have F1 : FR lJN w (sI (sI w 96 a.toInt.toNat b) 97 a.toInt.toNat 0) := FR.I (FR.I (FR.refl _ w) rfl) rfl
  have k6 : ∀ j, (sI (sI w 96 a.toInt.toNat b) 97 a.toInt.toNat 0).1 96 j = if j = a.toInt.toNat then b else w.1 96 j := fun j => by
    rw [sI_oth _ _ _ _ _ _ (by decide), sI_at]
    by_cases q : j = a.toInt.toNat
    · rw [if_pos q, if_pos ⟨rfl, q⟩]
    · rw [if_neg q, if_neg (fun z => q z.2)]
  have k7 : ∀ j, (sI (sI w 96 a.toInt.toNat b) 97 a.toInt.toNat 0).1 97 j = if j = a.toInt.toNat then 0 else w.1 97 j := fun j => by
    rw [sI_at]
    by_cases q : j = a.toInt.toNat
    · rw [if_pos q, if_pos ⟨rfl, q⟩]
    · rw [if_neg q, if_neg (fun z => q z.2), sI_oth _ _ _ _ _ _ (by decide)]
  have k4 : ∀ j, (sI (sI w 96 a.toInt.toNat b) 97 a.toInt.toNat 0).1 94 j = w.1 94 j := fun j => rfl
  have k8 : ∀ j, (sI (sI w 96 a.toInt.toNat b) 97 a.toInt.toNat 0).1 98 j = w.1 98 j := fun j => rfl
  refine Eq.mpr (p_Pl_joinss91.eq_1 _ _ _ _) ⟨ga, ga, fun c => ⟨fun ct => ?_, fun ct => ?_⟩, fun c => ?_⟩
  · exact h0 _ B1 F1 (fun q => by
      rcases q with q | q
      · exact c q
      · have := q.1
        omega)
  · have gb : 0 ≤ b.toInt ∧ b.toInt < 20 := ⟨by omega, by omega⟩
    have kb := bd_92 hI b.toInt.toNat
    have pb := pcn_c kb.1 kb.2
    have b94 := bd_94 hI b.toInt.toNat
    refine ⟨gb, gb, ⟨kb.1, by omega⟩, fun cp => ⟨gb, fun c9 => ⟨gb, gb, ?_⟩, fun c9 => ⟨gb, ga, gb, ?_⟩⟩, fun cp => ?_⟩
    · have ok : okJ w b := Or.inr ⟨by omega, cp⟩
      have cp2 : (w.1 94 b.toInt.toNat).toInt < pcn (w.1 92 b.toInt.toNat).toInt := cp
      have s := ti_add2 (Eq.refl (w.1 94 b.toInt.toNat).toInt) i_1 (by omega) (by omega)
      generalize (sI (sI w 96 a.toInt.toNat b) 97 a.toInt.toNat 0) = z at *
      refine h1 _ (wbd_94 B1 _ (by omega) (by omega)) (FR.I F1 rfl) ok ⟨fun j => ?_, fun j => ?_, fun j => ?_, fun j => ?_⟩
      · rw [sI_oth _ _ _ _ _ _ (by decide)]
        exact k6 j
      · rw [sI_oth _ _ _ _ _ _ (by decide), if_pos (Or.inr c9)]
        exact k7 j
      · rw [sI_at]
        by_cases q : j = b.toInt.toNat
        · rw [if_pos ⟨rfl, q⟩, if_pos ⟨c, q⟩]
        · rw [if_neg (fun y => q y.2), if_neg (fun y => q y.2)]
          exact k4 j
      · rw [sI_oth _ _ _ _ _ _ (by decide), if_neg (fun y => y.2.1 c9)]
        exact k8 j
    · have ok : okJ w b := Or.inr ⟨by omega, cp⟩
      have cp2 : (w.1 94 b.toInt.toNat).toInt < pcn (w.1 92 b.toInt.toNat).toInt := cp
      have p4 := pb.2 c9
      have s := ti_add2 (Eq.refl (w.1 94 b.toInt.toNat).toInt) i_1 (by omega) (by omega)
      have m := ti_mul2 (Eq.refl b.toInt) (by decide : ((4 : Int32)).toInt = 4) (by omega) (by omega)
      have s2 := ti_add2 m (Eq.refl (w.1 94 b.toInt.toNat).toInt) (by omega) (by omega)
      refine ⟨⟨by omega, by omega⟩, gb, gb, ?_⟩
      generalize (sI (sI w 96 a.toInt.toNat b) 97 a.toInt.toNat 0) = z at *
      refine h1 _ (wbd_94 (wbd_98 (wbd_97 B1 _ (by omega) (by omega)) _ (by omega) (by omega)) _ (by omega) (by omega)) (FR.I (FR.I (FR.I F1 rfl) rfl) rfl) ok ⟨fun j => ?_, fun j => ?_, fun j => ?_, fun j => ?_⟩
      · rw [sI_oth _ _ _ _ _ _ (by decide), sI_oth _ _ _ _ _ _ (by decide), sI_oth _ _ _ _ _ _ (by decide)]
        exact k6 j
      · rw [sI_oth _ _ _ _ _ _ (by decide), sI_oth _ _ _ _ _ _ (by decide), sI_at]
        have n9 : ¬ (b.toInt = -1 ∨ (w.1 92 b.toInt.toNat).toInt = 9) := fun y => by
          rcases y with y | y
          · exact c y
          · exact c9 y
        by_cases q : j = a.toInt.toNat
        · rw [if_pos ⟨rfl, q⟩, if_pos q, if_neg n9]
        · rw [if_neg (fun y => q y.2), if_neg q, k7 j, if_neg q]
      · rw [sI_at]
        by_cases q : j = b.toInt.toNat
        · rw [if_pos ⟨rfl, q⟩, if_pos ⟨c, q⟩]
        · rw [if_neg (fun y => q y.2), if_neg (fun y => q y.2), sI_oth _ _ _ _ _ _ (by decide), sI_oth _ _ _ _ _ _ (by decide)]
          exact k4 j
      · rw [sI_oth _ _ _ _ _ _ (by decide), sI_at]
        by_cases q : j = ((b * (4 : Int32)) + (w.1 94 b.toInt.toNat)).toInt.toNat
        · rw [if_pos ⟨rfl, q⟩, if_pos ⟨c, c9, by omega⟩]
        · rw [if_neg (fun y => q y.2), if_neg (fun y => q (by omega)), sI_oth _ _ _ _ _ _ (by decide)]
          exact k8 j
    · exact h0 _ B1 F1 (fun q => by
        rcases q with q | q
        · exact c q
        · exact cp q.2)
  · have cb : b.toInt = -1 := Classical.not_not.mp c
    refine h1 _ B1 F1 (Or.inl cb) ⟨k6, fun j => ?_, fun j => ?_, fun j => ?_⟩
    · rw [if_pos (Or.inl cb)]
      exact k7 j
    · rw [if_neg (fun y => y.1 cb)]
      exact k4 j
    · rw [if_neg (fun y => y.1 cb)]
      exact k8 j
