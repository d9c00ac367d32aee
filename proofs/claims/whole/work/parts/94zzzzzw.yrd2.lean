/-! the reference's read of a program, with its nodes and names -/
def YRe (f : Int → Int) (n : Int) (r : Int32) (w' : MW) : Prop := w'.1 129 1 = 0 ∧ ((∃ x : Int32, PGM f n (false, x.toInt, 0, [], [], []) ∧ r = (-1 : Int32) - x) ∨ (∃ (m : Int) (ns : List Nod) (nm : List Nm) (ks ts : List Nat), PGM f n (true, 0, m, ns, nm, ks) ∧ r.toInt = m ∧ 0 ≤ m ∧ RlM w' nm ∧ TpW w' ts ks ∧ StM ns w' ∧ StN nm w'))
theorem y_read2 {w : MW} {f : Int → Int} {n : Int} {Q : Int32 → MW → Prop} (hI : BND w) (hT : TXm w f n) (n0 : 0 ≤ n) (hQ : ∀ (r : Int32) (w' : MW), YRe f n r w' → Q r w') : p_Tx_read w Q := by
  have f0 : FR [(129, some 2), (129, some 3), (129, some 11), (129, some 13), (129, some 21), (129, some 23), (129, some 24), (129, some 35), (129, some 38), (129, some 10)] w (sI (sI (sI (sI (sI (sI (sI (sI (sI (sI w 129 2 0) 129 3 1) 129 11 0) 129 13 0) 129 21 0) 129 23 0) 129 24 0) 129 35 0) 129 38 0) 129 10 (-1)) := FR.I (FR.I (FR.I (FR.I (FR.I (FR.I (FR.I (FR.I (FR.I (FR.I (FR.refl _ w) rfl) rfl) rfl) rfl) rfl) rfl) rfl) rfl) rfl) rfl
  have hB : BND (sI (sI (sI (sI (sI (sI (sI (sI (sI (sI w 129 2 0) 129 3 1) 129 11 0) 129 13 0) 129 21 0) 129 23 0) 129 24 0) 129 35 0) 129 38 0) 129 10 (-1)) := wbd_129_10 (wbd_129_38 (wbd_129_35 (wbd_129_24 (wbd_129_23 (wbd_129_21 (wbd_129_13 (wbd_129_11 (wbd_129_3 (wbd_129_2 hI (by decide) (by decide))) (by decide) (by decide)) (by decide) (by decide)) (by decide) (by decide)) (by decide) (by decide)) (by decide) (by decide)) (by decide) (by decide)))
  have e2 : (sI (sI (sI (sI (sI (sI (sI (sI (sI (sI w 129 2 0) 129 3 1) 129 11 0) 129 13 0) 129 21 0) 129 23 0) 129 24 0) 129 35 0) 129 38 0) 129 10 (-1)).1 129 2 = 0 := rfl
  have e11 : (sI (sI (sI (sI (sI (sI (sI (sI (sI (sI w 129 2 0) 129 3 1) 129 11 0) 129 13 0) 129 21 0) 129 23 0) 129 24 0) 129 35 0) 129 38 0) 129 10 (-1)).1 129 11 = 0 := rfl
  have e13 : (sI (sI (sI (sI (sI (sI (sI (sI (sI (sI w 129 2 0) 129 3 1) 129 11 0) 129 13 0) 129 21 0) 129 23 0) 129 24 0) 129 35 0) 129 38 0) 129 10 (-1)).1 129 13 = 0 := rfl
  have e21 : (sI (sI (sI (sI (sI (sI (sI (sI (sI (sI w 129 2 0) 129 3 1) 129 11 0) 129 13 0) 129 21 0) 129 23 0) 129 24 0) 129 35 0) 129 38 0) 129 10 (-1)).1 129 21 = 0 := rfl
  have e23 : (sI (sI (sI (sI (sI (sI (sI (sI (sI (sI w 129 2 0) 129 3 1) 129 11 0) 129 13 0) 129 21 0) 129 23 0) 129 24 0) 129 35 0) 129 38 0) 129 10 (-1)).1 129 23 = 0 := rfl
  have e24 : (sI (sI (sI (sI (sI (sI (sI (sI (sI (sI w 129 2 0) 129 3 1) 129 11 0) 129 13 0) 129 21 0) 129 23 0) 129 24 0) 129 35 0) 129 38 0) 129 10 (-1)).1 129 24 = 0 := rfl
  have e35 : (sI (sI (sI (sI (sI (sI (sI (sI (sI (sI w 129 2 0) 129 3 1) 129 11 0) 129 13 0) 129 21 0) 129 23 0) 129 24 0) 129 35 0) 129 38 0) 129 10 (-1)).1 129 35 = 0 := rfl
  have e38 : (sI (sI (sI (sI (sI (sI (sI (sI (sI (sI w 129 2 0) 129 3 1) 129 11 0) 129 13 0) 129 21 0) 129 23 0) 129 24 0) 129 35 0) 129 38 0) 129 10 (-1)).1 129 38 = 0 := rfl
  refine Eq.mpr (p_Tx_read.eq_1 _ _) ?_
  generalize (sI (sI (sI (sI (sI (sI (sI (sI (sI (sI w 129 2 0) 129 3 1) 129 11 0) 129 13 0) 129 21 0) 129 23 0) 129 24 0) 129 35 0) 129 38 0) 129 10 (-1)) = w0 at *
  have T0 : TXm w0 f n := ⟨by rw [(f0 129 1 rfl).1]; exact hT.1, hT.2.1, fun p hp => by rw [(f0 130 p rfl).1]; exact hT.2.2.1 p hp, hT.2.2.2⟩
  have J0 : YJ 0 w0 := ⟨hB, Int.le_refl _, by rw [e35, e21, e23, e13]; decide⟩
  have B0 : YB w0 f n [] 0 0 := ⟨J0, T0, ⟨by rw [e24]; rfl, by decide, fun i x h => (by cases h)⟩, by rw [e11]; rfl⟩
  have bad : ∀ (w1 : MW) (e : Int), PGM f n (false, e, 0, [], [], []) → (w1.1 129 10).toInt = e → q_Tx_read_69 0 w1 Q := fun w1 e hp h1 => Eq.mpr (q_Tx_read_69.eq_1 _ _ _) ⟨fun q => absurd i_0 q, fun _ => hQ _ _ ⟨rfl, Or.inl ⟨w1.1 129 10, by rw [h1]; exact hp, rfl⟩⟩⟩
  refine y_prog B0 (by rw [e2]; exact i_0) n0 (by rw [e13]; exact i_0) (by rw [e23]; exact i_0) (by rw [e38]; exact i_0) (fun w1 e hp h1 => ⟨fun _ => bad w1 e (pg1_f hp) h1, fun c => absurd i_0 c⟩) (fun w1 z nm ts hp k32 h1 => ⟨fun c => absurd c i1n, fun _ => ?_⟩)
  have wf := PG1_wf hp
  have pt := pg1_t hp
  refine y_small h1 wf.2 wf.1 (fun tm w4 h10 => ⟨fun _ => bad w4 n (pt.1 tm) h10, fun c => absurd i_0 c⟩) (fun nt w4 hB4 F4 => ⟨fun c => absurd c i1n, fun _ => Eq.mpr (q_Tx_read_69.eq_1 _ _ _) ⟨fun _ => hQ _ _ ⟨rfl, Or.inr ⟨z.2.2.1, z.2.1, nm, z.2.2.2.1, ts, pt.2 nt, ?_, h1.2.2.1, ?_, ?_, ?_, ?_⟩⟩, fun c => absurd i1n c⟩⟩)
  · rw [(F4 129 38 rfl).1]
    exact h1.2.1
  all_goals
    have b12 := bd_129_12 hB4
    have s1 := ti_sub2 (by decide : ((1 : Int32)).toInt = 1) (Eq.refl (w4.1 129 12).toInt) (by omega) (by omega)
    have eh : ((sI (sI (sI (sI (sI (sI w4 129 1 0) 129 12 ((1 : Int32) - (w4.1 129 12))) 129 30 (w4.1 129 13)) 129 31 (w4.1 129 23)) 129 32 (w4.1 129 24)) 129 33 (w4.1 129 38)).1 129 12).toInt = bhf w1 := by
      show ((1 : Int32) - (w4.1 129 12)).toInt = 1 - (w1.1 129 12).toInt
      rw [s1, (F4 129 12 rfl).1]
    have ek : ∀ k j : Nat, 130 ≤ k → (sI (sI (sI (sI (sI (sI w4 129 1 0) 129 12 ((1 : Int32) - (w4.1 129 12))) 129 30 (w4.1 129 13)) 129 31 (w4.1 129 23)) 129 32 (w4.1 129 24)) 129 33 (w4.1 129 38)).1 k j = w4.1 k j := fun k j hk => by
      rw [sI_oth _ _ _ _ _ _ (by omega), sI_oth _ _ _ _ _ _ (by omega), sI_oth _ _ _ _ _ _ (by omega), sI_oth _ _ _ _ _ _ (by omega), sI_oth _ _ _ _ _ _ (by omega), sI_oth _ _ _ _ _ _ (by omega)]
    have q32 : (sI (sI (sI (sI (sI (sI w4 129 1 0) 129 12 ((1 : Int32) - (w4.1 129 12))) 129 30 (w4.1 129 13)) 129 31 (w4.1 129 23)) 129 32 (w4.1 129 24)) 129 33 (w4.1 129 38)).1 129 32 = w4.1 129 24 := rfl
    have ej : (sI (sI (sI (sI (sI (sI w4 129 1 0) 129 12 ((1 : Int32) - (w4.1 129 12))) 129 30 (w4.1 129 13)) 129 31 (w4.1 129 23)) 129 32 (w4.1 129 24)) 129 33 (w4.1 129 38)).2.1 = w4.2.1 := rfl
    have q31 : (sI (sI (sI (sI (sI (sI w4 129 1 0) 129 12 ((1 : Int32) - (w4.1 129 12))) 129 30 (w4.1 129 13)) 129 31 (w4.1 129 23)) 129 32 (w4.1 129 24)) 129 33 (w4.1 129 38)).1 129 31 = w4.1 129 23 := rfl
    generalize (sI (sI (sI (sI (sI (sI w4 129 1 0) 129 12 ((1 : Int32) - (w4.1 129 12))) 129 30 (w4.1 129 13)) 129 31 (w4.1 129 23)) 129 32 (w4.1 129 24)) 129 33 (w4.1 129 38)) = v at *
  · have NN := h1.1.1.2.2.1
    refine ⟨by rw [q32, (F4 129 24 rfl).1]; exact NN.1, NN.2.1, fun i x hx => ?_⟩
    have t := NN.2.2 i x hx
    rw [eh, ek 141 _ (by decide), (F4 141 _ rfl).1]
    exact ⟨t.2.2.2.1, t.2.2.2.2.2.2⟩
  · have TT := h1.2.2.2.2.1
    have l3 := ys_len h1.1
    refine ⟨by rw [q31, (F4 129 23 rfl).1]; exact TT.1, fun k c hk => ?_, fun t ht => ?_, fun t ht => ?_⟩
    · rw [eh, ek 138 _ (by decide), (F4 138 _ rfl).1]
      exact TT.2 k c hk
    · have q := h1.2.2.2.2.2.1 t ht
      rw [eh, ek 131 _ (by decide), (F4 131 _ rfl).1]
      exact ⟨by omega, q.2⟩
    · have q := h1.2.2.2.2.2.2 t ht
      rw [eh, ek 131 _ (by decide), (F4 131 _ rfl).1]
      exact ⟨by omega, q.2⟩
  · have PN := h1.1.2.2.2.1
    have B1 : BND w1 := h1.1.1.1.1
    have b21 := bd_129_21 B1
    have l3 := ys_len h1.1
    refine ⟨l3, by rw [eh]; unfold bhf; have := bd_129_12 B1; omega, fun i d hd => ?_⟩
    have q := PN.2 i d hd
    have en : nd1 v (i : Int) = nb w1 (i : Int) := by
      unfold nd1
      rw [eh]
      rfl
    have b35 := bd_135 B1 (nb w1 (i : Int))
    have j2 : v.2.1 132 (nb w1 (i : Int)) = w1.2.1 132 (nb w1 (i : Int)) := by rw [ej]; exact (F4 132 _ rfl).2.1
    rw [en, eh, ek 131 _ (by decide), ek 136 _ (by decide), ek 135 _ (by decide), j2, (F4 131 _ rfl).1, (F4 136 _ rfl).1, (F4 135 _ rfl).1]
    refine ⟨q.1, fun z => ?_, q.2.2.1, q.2.2.2.1, ⟨b35.1, by have := q.2.2.2.2.1; omega⟩, fun k c hk => ?_⟩
    · rw [← q.2.1 z, Int64.ofInt_toInt]
    · rw [ek 137 _ (by decide), (F4 137 _ rfl).1]
      have t := q.2.2.2.2.2 k c hk
      have e : (300 * bhf w1 + (w1.1 135 (nb w1 (i : Int))).toInt + (k : Int)).toNat = nb w1 ((w1.1 135 (nb w1 (i : Int))).toInt + (k : Int)) := by
        unfold nb
        rw [Int.add_assoc]
      rw [e]
      exact t
  · have NN := h1.1.1.2.2.1
    refine ⟨NN.2.1, fun i x hx x0 => ?_⟩
    have t := (NN.2.2 i x hx).2.2.2.2.2.1
    rw [if_neg (by omega)] at t
    rw [eh, ek 143 _ (by decide), (F4 143 _ rfl).1]
    exact t
